/-! THE REFERENCE's operands without brackets follow the spec's. -/
section AU
variable {m0 m : mS} {E : Ev} {z : Nat} {trk : Bool} {mode : Int32} {t : Tk} {r : List Tk} {V : List Int32} {S S1 : List Sg} {d : Nat} {e : Bool} {f a : Int32}
theorem m_is {B : Nat → Nat} (M : MC m B z (t :: r)) (h11 : m.1 11 = 0) {k : Nat} (hk : k < 256) (hk4 : 4 < k) (hs : sgn k = true) : f142 m (nn k) = if t.1 = k then 1 else 0 := by
  obtain ⟨T, t', r', e0, e1, e2, e3, e4, e5, e6, e7, e8, e9, e10⟩ := M
  obtain ⟨rfl, rfl⟩ := List.cons.inj e0
  unfold f142
  rw [if_pos h11]
  by_cases h4 : 4 ≤ t.1
  · rw [if_pos (by rw [e2]; exact tcode_4.mpr h4)]
    by_cases h44 : t.1 = 4
    · obtain ⟨q1, q2, q3, q4⟩ := e5.2.2.1 h44
      have hg := gb_lt T.2.2.1 z t.2.1
      rw [q1, q_eq (x := nn k) (k := k) rfl hg hk, if_neg (fun hh => by rw [hh, hs] at q2; cases q2), if_neg (by omega)]
    · rw [e5.2.1 (by omega), q_eq (x := nn k) (k := k) rfl e8 hk]
  · rw [if_neg (by rw [e2]; exact tc_ne4 h4), if_neg (by omega)]
theorem tcode_1 {k : Nat} : tcode k = 1 ↔ k = 1 := by
  unfold tcode
  by_cases h0 : k = 0
  · subst h0; decide
  by_cases h1 : k = 1
  · subst h1; decide
  by_cases h2 : k = 2
  · subst h2; decide
  by_cases h3 : k = 3
  · subst h3; decide
  rw [if_neg h0, if_neg h1, if_neg h2, if_neg h3]
  exact ⟨fun h => absurd h (by decide), fun h => absurd h h1⟩
theorem tcode_2 {k : Nat} : tcode k = 2 ↔ k = 2 := by
  unfold tcode
  by_cases h0 : k = 0
  · subst h0; decide
  by_cases h1 : k = 1
  · subst h1; decide
  by_cases h2 : k = 2
  · subst h2; decide
  by_cases h3 : k = 3
  · subst h3; decide
  rw [if_neg h0, if_neg h1, if_neg h2, if_neg h3]
  exact ⟨fun h => absurd h (by decide), fun h => absurd h h2⟩
theorem takes_ok {B : Nat → Nat} (M : MC m B z (t :: r)) (hf : t.2.2.2.2 = none) (h4 : ¬ t.1 = 4) : f130 m = some m := by
  obtain ⟨T, t', r', e0, e1, e2, e3, e4, e5, e6, e7, e8, e9, e10⟩ := M
  obtain ⟨rfl, rfl⟩ := List.cons.inj e0
  unfold f130
  rw [e4, tflaw_none hf h4, if_pos (by decide)]
theorem takes_bad {B : Nat → Nat} (M : MC m B z (t :: r)) (h11 : m.1 11 = 0) {w : Nat} (hf : t.2.2.2.2 = some w) (h4 : ¬ t.1 = 4) : ∃ q, f130 m = some q ∧ FR [11, 12, 13] [] m q ∧ q.1 11 = nn 1 ∧ q.1 12 = nn w - m.1 16 ∧ q.1 13 = m.1 15 := by
  obtain ⟨T, t', r', e0, e1, e2, e3, e4, e5, e6, e7, e8, e9, e10⟩ := M
  obtain ⟨rfl, rfl⟩ := List.cons.inj e0
  have := e9 w hf
  refine ⟨mg (mg (mg m 11 1) 12 (nn w - m.1 16)) 13 (m.1 15), ?_, FR_g (FR_g (FR_g (FR_refl _ _ _) (by decide) _) (by decide) _) (by decide) _, rfl, rfl, rfl⟩
  unfold f130
  rw [e4, tflaw_some hf h4, if_neg (nn_neg (by omega)), f131_alive h11]
  rfl
theorem fail_at {B : Nat → Nat} (M : MC m B z (t :: r)) (h11 : m.1 11 = 0) (why : Nat) : ∃ q, f131 m (nn why) (m.1 21) = some q ∧ FR [11, 12, 13] [] m q ∧ q.1 11 = nn why ∧ q.1 12 = nn t.2.1 - m.1 16 ∧ q.1 13 = m.1 15 := by
  obtain ⟨T, t', r', e0, e1, e2, e3, e4, e5, e6, e7, e8, e9, e10⟩ := M
  obtain ⟨rfl, rfl⟩ := List.cons.inj e0
  refine ⟨mg (mg (mg m 11 (nn why)) 12 (nn t.2.1 - m.1 16)) 13 (m.1 15), ?_, FR_g (FR_g (FR_g (FR_refl _ _ _) (by decide) _) (by decide) _) (by decide) _, rfl, rfl, rfl⟩
  rw [f131_alive h11, e3]
theorem v39 (A : ALV m0 E z trk m (t :: r) V S1 d e) (hV : V.length < 159) {q : mS} {I : List Nat} (hq : FR I [] m q) (h39 : ¬ 39 ∈ I) : ib (q.1 39) 160 := by
  rw [hq.1 39 h39, A.2.2.1.1]
  exact (nn_ib (by omega)).mpr (by omega)
/-- a number -/
theorem a_num (A : ALV m0 E z trk m (t :: r) V S1 d e) (hP : PFX S f a S1) (hO : OKS V S) (hV : V.length < 159) (h2 : t.1 = 2) : ARX m0 E z trk mode m (t :: r) V S d f a (xb (xExp 2 (t :: r)) fun r9 => some (.inl (t.2.2.1, e, r9))) := by
  have M := A.2.1
  have h11 := A.2.2.2.1
  have hb := A.2.2.2.2.1
  obtain ⟨T, t', r', e0, e1, e2, e3, e4, e5, e6, e7, e8, e9, e10⟩ := A.2.1
  obtain ⟨rfl, rfl⟩ := List.cons.inj e0
  have c2 : m.1 20 = 2 := by rw [e2]; exact tcode_2.mpr h2
  have n4 : ¬ m.1 20 = 4 := by rw [c2]; decide
  unfold xExp
  simp only [if_pos h2]
  cases hf : t.2.2.2.2 with
  | none =>
    have ev : m.1 22 = t.2.2.1 := e5.1 h2 hf
    refine at_ok (m1 := m) A hP hO hV (by omega) hf (FR_refl _ _ _) hb A.2.2.2.2.2 ?_
    unfold f147 f147_25
    rw [if_pos c2, takes_ok M hf (by omega), Option.bind_some, if_pos c2, ev]
    exact f64_push n4 hb (v39 A hV (FR_refl [] [] m) (by decide)) _
  | some w =>
    obtain ⟨q, q1, q2, q3, q4, q5⟩ := takes_bad M h11 hf (by omega)
    have bq : bz (q.1 38) := by rw [q2.1 38 (by decide)]; exact hb
    refine at_bad (x := q.1 22) A hP hO hV (FR_mono q2 (by decide) (by decide)) bq q3 (by decide) (by decide) q4 q5 ?_
    have c2q : q.1 20 = 2 := by rw [q2.1 20 (by decide)]; exact c2
    unfold f147 f147_25
    rw [if_pos c2, q1, Option.bind_some, if_pos c2q]
    exact f64_push (by rw [c2q]; decide) bq (v39 A hV q2 (by decide)) _
/-- a name -/
theorem a_name (N : NVI m0 E z trk mode) (A : ALV m0 E z trk m (t :: r) V S1 d e) (hP : PFX S f a S1) (hO : OKS V S) (hV : V.length < 159) (h1 : t.1 = 1) : ARX m0 E z trk mode m (t :: r) V S d f a (xName E e (t :: r)) := by
  have M := A.2.1
  have h11 := A.2.2.2.1
  have hb := A.2.2.2.2.1
  obtain ⟨T, t', r', e0, e1, e2, e3, e4, e5, e6, e7, e8, e9, e10⟩ := A.2.1
  obtain ⟨rfl, rfl⟩ := List.cons.inj e0
  have c1 : m.1 20 = 1 := by rw [e2]; exact tcode_1.mpr h1
  have n2 : ¬ m.1 20 = 2 := by rw [c1]; decide
  cases hf : t.2.2.2.2 with
  | none =>
    have hN := N.1 m t r e V S1 d A h1 hf
    cases hx : xName E e (t :: r) with
    | none => rw [hx] at hN; exact absurd hN id
    | some y =>
      rw [hx] at hN
      cases y with
      | inl q9 =>
        obtain ⟨v, e', r9⟩ := q9
        obtain ⟨n1, q, q1, q2, q3, q4⟩ := hN
        have n1 : r9 = r := n1
        subst n1
        have c1q : q.1 20 = 1 := by rw [q2.1 20 (by decide)]; exact c1
        refine at_ok (m1 := m) A hP hO hV (by omega) hf q2 q3 q4 ?_
        unfold f147 f147_25
        rw [if_neg n2, if_pos c1, takes_ok M hf (by omega), Option.bind_some, if_neg n2, if_pos c1, q1, Option.bind_some]
        exact f64_push (by rw [c1q]; decide) q3 (v39 A hV q2 (by decide)) _
      | inr p9 =>
        obtain ⟨pl, kd⟩ := p9
        obtain ⟨v, q, q1, q2, q3, q4, q5, q6, q7, q8⟩ := hN
        have c1q : q.1 20 = 1 := by rw [q2.1 20 (by decide)]; exact c1
        refine at_bad (x := v) A hP hO hV q2 q3 q4 q5 q6 q7 q8 ?_
        unfold f147 f147_25
        rw [if_neg n2, if_pos c1, takes_ok M hf (by omega), Option.bind_some, if_neg n2, if_pos c1, q1, Option.bind_some]
        exact f64_push (by rw [c1q]; decide) q3 (v39 A hV q2 (by decide)) _
  | some w =>
    have hx : xName E e (t :: r) = some (.inr (w, 1)) := by
      unfold xName xExp
      simp only [if_pos h1, hf]
      rfl
    rw [hx]
    obtain ⟨q, q1, q2, q3, q4, q5⟩ := takes_bad M h11 hf (by omega)
    have bq : bz (q.1 38) := by rw [q2.1 38 (by decide)]; exact hb
    have c1q : q.1 20 = 1 := by rw [q2.1 20 (by decide)]; exact c1
    have n11 : ¬ q.1 11 ≤ 0 := by rw [q3]; decide
    have h148 := N.2 q t r (FR_trans A.1 (FR_mono q2 (by decide) (by decide))) (MC_fr q2 M (by decide) (by decide)) h1 n11
    refine at_bad (x := 0) A hP hO hV (FR_mono q2 (by decide) (by decide)) bq q3 (by decide) (by decide) q4 q5 ?_
    unfold f147 f147_25
    rw [if_neg n2, if_pos c1, q1, Option.bind_some, if_neg (by rw [c1q]; decide), if_pos c1q, h148, Option.bind_some]
    exact f64_push (by rw [c1q]; decide) bq (v39 A hV q2 (by decide)) _
/-- the address here -/
theorem a_here (hm : mode = 0 ↔ E.2.2.2.2.2 = 0) (hh : m0.1 33 = E.2.2.2.2.1) (A : ALV m0 E z trk m (t :: r) V S1 d e) (hP : PFX S f a S1) (hO : OKS V S) (hV : V.length < 159) (h46 : t.1 = 46) (hf : t.2.2.2.2 = none) : ARX m0 E z trk mode m (t :: r) V S d f a (xHere E (t :: r)) := by
  have M := A.2.1
  have h11 := A.2.2.2.1
  have hb := A.2.2.2.2.1
  obtain ⟨T, t', r', e0, e1, e2, e3, e4, e5, e6, e7, e8, e9, e10⟩ := A.2.1
  obtain ⟨rfl, rfl⟩ := List.cons.inj e0
  have c4 : m.1 20 = 4 := by rw [e2]; exact tcode_4.mpr (by omega)
  have i46 : f142 m 46 = 1 := by
    have := m_is M h11 (k := 46) (by decide) (by decide) (by decide)
    rw [if_pos h46] at this
    exact this
  have e33 : m.1 33 = E.2.2.2.2.1 := by rw [A.1.1 33 (by decide)]; exact hh
  have n2 : ¬ m.1 20 = 2 := by rw [c4]; decide
  have n1 : ¬ m.1 20 = 1 := by rw [c4]; decide
  have step : f147 m mode = f147_86 m mode (m.1 33) 1 := by
    unfold f147 f147_25 f147_64 f147_81
    rw [if_neg n2, if_neg n1, i46, if_neg (by decide), takes_ok M hf (by omega), Option.bind_some, if_neg n2, if_neg n1]
    by_cases q : m.1 38 = 0
    · rw [if_pos q, if_pos c4]
    · rw [if_neg q]
  have F1 : FR [38] [] m (mg m 38 1) := FR_g (FR_refl _ _ _) (by decide) _
  have c4' : (mg m 38 1).1 20 = 4 := c4
  unfold xHere
  by_cases h0 : E.2.2.2.2.2 = 0
  · simp only [if_pos h0]
    have hq : f131 (mg m 38 1) 4 (m.1 21) = some (mg (mg (mg (mg m 38 1) 11 4) 12 (nn t.2.1 - m.1 16)) 13 (m.1 15)) := by
      rw [f131_alive (show (mg m 38 1).1 11 = 0 from h11), e3]
      rfl
    refine at_bad (x := m.1 33) (q := mg (mg (mg (mg m 38 1) 11 4) 12 (nn t.2.1 - m.1 16)) 13 (m.1 15)) (pl := t.2.1) (kd := 4) A hP hO hV (FR_g (FR_g (FR_g (FR_g (FR_refl _ _ _) (by decide) _) (by decide) _) (by decide) _) (by decide) _) (Or.inr rfl) rfl (by decide) (by decide) rfl rfl ?_
    rw [step]
    unfold f147_86 f147_110
    rw [if_pos (Or.inr rfl), if_pos c4, if_pos (hm.mpr h0), hq, Option.bind_some, if_pos (v39 A hV (FR_g (FR_g (FR_g (FR_g (FR_refl [11, 12, 13, 38] [] m) (by decide) 1) (by decide) 4) (by decide) _) (by decide) _) (by decide))]
  · simp only [if_neg h0]
    have ex : xExp 46 (t :: r) = some (.inl r) := by unfold xExp; simp only [if_pos h46, hf]
    rw [ex]
    show ARX m0 E z trk mode m (t :: r) V S d f a (some (.inl (E.2.2.2.2.1, false, r)))
    rw [← e33]
    refine at_ok (m1 := m) A hP hO hV (by omega) hf F1 (Or.inr rfl) (fun _ => rfl) ?_
    rw [step]
    unfold f147_86 f147_110
    rw [if_pos (Or.inr rfl), if_pos c4, if_neg (fun hh => h0 (hm.mp hh)), if_pos (v39 A hV F1 (by decide))]
end AU
