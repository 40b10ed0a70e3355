/-! THE REFERENCE's operands with brackets, signs before them, and what is no operand. -/
section OP
variable {m0 m ms : mS} {E : Ev} {z : Nat} {trk : Bool} {mode : Int32} {t : Tk} {r tsS : List Tk} {V : List Int32} {S S1 : List Sg} {d what : Nat} {e : Bool} {f a x : Int32} {X : Nat → Nat → Bool → List Tk → Option (Rx Xv)}
theorem DD_ne {p k : Nat} {mD : mS} (h : DD m0 p k mD) : ¬ mD.1 11 = 0 := by
  obtain ⟨_, h1, h2, h3, _⟩ := h
  rw [h1]
  intro hh
  have := (nn_eq (b := 0) (by omega) (by omega)).mp hh
  omega
theorem lp_st0 {m' : mS} {u : Nat} (hs : ms.1 11 = 0) (h : f147 ms mode = some (0, m')) : f146_19 (u + 1) ms mode 0 1 = f146_19 u m' mode 0 1 := by
  rw [lp_0 hs, h, Option.bind_some, if_pos rfl]
theorem Ru_dead {n : Nat} {w : Int32} {mD : mS} (hn : 0 < n) (h : ¬ mD.1 11 = 0) : Ru mode n mD w (0, mD) := by
  intro u hu
  have eu : u = (u - 1) + 1 := by omega
  rw [eu]
  exact lp_dead h w
/-- a bracket, from its opening on -/
theorem a_brk (PX : PXX m0 E z trk mode X) (A : ALV m0 E z trk m (t :: r) V S1 d e) (hP : PFX S f a S1) (hO : OKS V S) (h40 : t.1 = 40) (hd : d ≤ 16) (hb1 : S1.length + 1 ≤ 8 * (d + 1)) (hv : V.length ≤ S1.length) (hw : what = 1 ∨ what = 2 ∨ what = 3) (hs : ms.1 11 = 0) (hms : f147 ms mode = (f155 m (nn what)).bind fun r1 => some (0, r1)) (hlen : (t :: r).length ≤ tsS.length) : ARX m0 E z trk mode ms tsS V S d f a (xb (xBr X d e (t :: r)) fun q => some (.inl (brv what q.1, q.2.1, q.2.2))) := by
  have hf := MC_flaw A.2.1 (by omega) (by omega) (by omega)
  rw [List.length_cons] at hlen
  unfold xBr
  by_cases h16 : 16 ≤ d
  · simp only [if_pos h16]
    obtain ⟨m', q1, q2⟩ := br_deep A (by omega) (by omega) what
    rw [q1, Option.bind_some] at hms
    refine ⟨m', ?_, q2⟩
    intro u hu
    have eu : u = (u - 1) + 1 := by omega
    rw [eu, lp_st0 hs hms]
    exact Ru_dead (n := 1) (by omega) (DD_ne q2) (u - 1) (by omega)
  · simp only [if_neg h16]
    have ex : xExp 40 (t :: r) = some (.inl r) := by unfold xExp; simp only [if_pos h40, hf]
    rw [ex]
    obtain ⟨m', q1, q2⟩ := br_open A (by omega) h40 hf (by omega) what
    rw [q1, Option.bind_some] at hms
    have hw2 : what < 256 ∧ ¬ what = 4 ∧ lev what < 1 := by rcases hw with rfl | rfl | rfl <;> decide
    have hX := PX.1 1 (d + 1) e r m' V ((what, t.2.1, 1, 0) :: S1) (by decide) (by decide) (by omega) q2 hw2 (by rw [List.length_cons]; omega) (by rw [List.length_cons]; omega)
    show ARX m0 E z trk mode ms tsS V S d f a (xb (xb (X 1 (d + 1) e r) fun q => xb (xExp 41 q.2.2) fun r3 => some (.inl (q.1, q.2.1, r3))) fun q => some (.inl (brv what q.1, q.2.1, q.2.2)))
    cases hx : X 1 (d + 1) e r with
    | none => exact trivial
    | some y =>
      rw [hx] at hX
      cases y with
      | inr p =>
        obtain ⟨mD, k1, k2⟩ := hX
        refine ⟨mD, ?_, k2⟩
        intro u hu
        have eu : u = (u - 1) + 1 := by omega
        rw [eu, lp_st0 hs hms]
        exact k1 (u - 1) (by omega)
      | inl q9 =>
        obtain ⟨v, e', ts2⟩ := q9
        obtain ⟨k0, m2, t2, r2, k1, k2, k3, k4⟩ := hX
        have k1 : ts2 = t2 :: r2 := k1
        subst k1
        have k0 : (t2 :: r2).length < r.length := k0
        rw [List.length_cons] at k0
        have hl2 : lev t2.1 = 0 := by omega
        show ARX m0 E z trk mode ms tsS V S d f a (xb (xb (xExp 41 (t2 :: r2)) fun r3 => some (.inl (v, e', r3))) fun q => some (.inl (brv what q.1, q.2.1, q.2.2)))
        by_cases h41 : t2.1 = 41
        · have hf2 := MC_flaw k3.2.1 (by omega) (by omega) (by omega)
          have ex2 : xExp 41 (t2 :: r2) = some (.inl r2) := by unfold xExp; simp only [if_pos h41, hf2]
          rw [ex2]
          obtain ⟨m1, c1, c2⟩ := br_close (mode := mode) k3 hw (by omega) hP hO h41
          refine ⟨m1, t2, c1, by omega, hf2, by show r2.length < tsS.length; omega, ?_⟩
          intro n rr hC u hu
          have hu : n + (tsS.length - r2.length) ≤ u := hu
          have eu : u = (u - 1) + 1 := by omega
          rw [eu, lp_st0 hs hms]
          have := k4 (n + 1) rr (c2 n rr hC)
          refine this (u - 1) ?_
          show n + 1 + (r.length - (t2 :: r2).length) ≤ u - 1
          rw [List.length_cons]
          omega
        · have ex2 : xExp 41 (t2 :: r2) = some (.inr (t2.2.1, 1)) := by unfold xExp; simp only [if_neg h41]
          rw [ex2]
          obtain ⟨mD, c1, c2⟩ := br_none (mode := mode) k3 hw (by omega) hl2 h41
          refine ⟨mD, ?_, c2⟩
          intro u hu
          have eu : u = (u - 1) + 1 := by omega
          rw [eu, lp_st0 hs hms]
          refine k4 2 _ c1 (u - 1) ?_
          show 2 + (r.length - (t2 :: r2).length) ≤ u - 1
          rw [List.length_cons]
          omega
/-- what is no operand -/
theorem a_wrong (A : ALV m0 E z trk m (t :: r) V S1 d e) (h1 : ¬ t.1 = 1) (h2 : ¬ t.1 = 2) (h46 : ¬ t.1 = 46) (h45 : ¬ t.1 = 45) (h43 : ¬ t.1 = 43) (h126 : ¬ t.1 = 126) (h40 : ¬ t.1 = 40) (h37 : ¬ t.1 = 37) : ∃ mD, Ru mode ((t :: r).length + 1) m 0 (0, mD) ∧ DD m0 t.2.1 1 mD := by
  have M := A.2.1
  have h11 := A.2.2.2.1
  have e20 : m.1 20 = tcode t.1 := by
    obtain ⟨T, t', r', e0, e1, e2, e3⟩ := A.2.1
    obtain ⟨rfl, rfl⟩ := List.cons.inj e0
    exact e2
  have is0 : ∀ k : Nat, k < 256 → 4 < k → sgn k = true → ¬ t.1 = k → f142 m (nn k) = 0 := by
    intro k hk1 hk2 hk3 hk4
    rw [m_is M h11 hk1 hk2 hk3, if_neg hk4]
  obtain ⟨q, q1, q2, q3, q4, q5⟩ := fail_at M h11 1
  have q1 : f131 m 1 (m.1 21) = some q := q1
  have D : DD m0 t.2.1 1 q := ⟨FR_trans A.1 (FR_mono q2 (by decide) (by decide)), q3, by decide, by decide, by rw [q4, A.1.1 16 (by decide)], by rw [q5, A.1.1 15 (by decide)], by rw [q2.1 38 (by decide)]; exact A.2.2.2.2.1⟩
  have h147 : f147 m mode = some (0, q) := by
    unfold f147
    rw [if_neg (by rw [e20]; exact fun hh => h2 (tcode_2.mp hh)), if_neg (by rw [e20]; exact fun hh => h1 (tcode_1.mp hh)), show f142 m (46 : Int32) = 0 from is0 46 (by decide) (by decide) (by decide) h46, if_pos rfl, show f142 m (45 : Int32) = 0 from is0 45 (by decide) (by decide) (by decide) h45, if_pos rfl, show f142 m (43 : Int32) = 0 from is0 43 (by decide) (by decide) (by decide) h43, if_pos rfl, show f142 m (126 : Int32) = 0 from is0 126 (by decide) (by decide) (by decide) h126, if_pos rfl, show f142 m (40 : Int32) = 0 from is0 40 (by decide) (by decide) (by decide) h40, if_pos rfl, show f142 m (37 : Int32) = 0 from is0 37 (by decide) (by decide) (by decide) h37, if_pos rfl, q1]
    rfl
  refine ⟨q, ?_, D⟩
  intro u hu
  rw [List.length_cons] at hu
  have eu : u = (u - 1) + 1 := by omega
  rw [eu, lp_st0 h11 h147]
  exact Ru_dead (n := 1) (by omega) (DD_ne D) (u - 1) (by omega)
/-- a sign before an operand -/
theorem a_sign (A : ALV m0 E z trk m (t :: r) V S1 d e) (hP : PFX S f a S1) (hO : OKS V S) (hS : S1.length < 159) (hk : t.1 = 45 ∨ t.1 = 43 ∨ t.1 = 126) : ∃ m' S2, f147 m mode = some (0, m') ∧ PFX S (if t.1 = 43 then f else -f) (if t.1 = 126 then a - f else a) S2 ∧ S2.length ≤ S.length + 1 ∧ ALV m0 E z trk m' r V S2 d e := by
  have M := A.2.1
  have h11 := A.2.2.2.1
  have T := A.2.2.1
  have hf := MC_flaw M (by omega) (by omega) (by omega)
  have h256 := MC_256 M
  have e21 := MC_21 M
  have e20 : m.1 20 = tcode t.1 ∧ m.1 22 = nn t.1 := by
    obtain ⟨T, t', r', e0, e1, e2, e3, e4, e5, e6⟩ := A.2.1
    obtain ⟨rfl, rfl⟩ := List.cons.inj e0
    exact ⟨e2, e5.2.1 (by omega)⟩
  have is9 : ∀ k : Nat, k < 256 → 4 < k → sgn k = true → f142 m (nn k) = if t.1 = k then 1 else 0 := fun k hk1 hk2 hk3 => m_is M h11 hk1 hk2 hk3
  -- before
  have key : ∃ q S2, f153 m (nn t.1) = some q ∧ PFX S (if t.1 = 43 then f else -f) (if t.1 = 126 then a - f else a) S2 ∧ S2.length ≤ S.length + 1 ∧ ST q V S2 d ∧ FR [40] [43, 44, 45, 46] m q := by
    rcases hP with ⟨rfl, rfl, rfl⟩ | ⟨w, rfl⟩
    · obtain ⟨q1, p1, p2, p3⟩ := m_push T (by omega) 4 t.2.1
      obtain ⟨q2, b1, b2, b3⟩ := m_bef4 p2 hk
      refine ⟨q2, _, ?_, Or.inr ⟨t.2.1, rfl⟩, by rw [List.length_cons]; omega, b2, FR_trans (FR_mono p3 (by decide) (by decide)) (FR_mono b3 (by decide) (by decide))⟩
      have h22 : f153_22 m (nn t.1) = some q2 := by
        unfold f153_22
        rw [e21, show f154 m 4 (nn t.2.1) = some q1 from p1, Option.bind_some, b1]
      unfold f153
      cases S1 with
      | nil => rw [show m.1 40 = nn 0 from T.2.1, if_pos (show nn 0 = (0 : Int32) from rfl), h22]
      | cons g S9 =>
        obtain ⟨k9, w9, f9, s9⟩ := g
        obtain ⟨t1, t2, t3, t4, t5, t6⟩ := red_top T
        have o1 : k9 < 256 := hO.1
        have o2 : ¬ k9 = 4 := hO.2.1
        have c0 : ¬ m.1 40 = 0 := fun hh => top_pos T (by rw [hh]; decide)
        have c4 : ¬ nn k9 = (4 : Int32) := fun hh => o2 ((nn_eq (b := 4) (by omega) (by omega)).mp hh)
        rw [if_neg c0]
        simp only [t1, if_pos t2, t3, if_neg c4]
        exact h22
    · obtain ⟨t1, t2, t3, t4, t5, t6⟩ := red_top T
      obtain ⟨q2, b1, b2, b3⟩ := m_bef4 T hk
      have c0 : ¬ m.1 40 = 0 := fun hh => top_pos T (by rw [hh]; decide)
      refine ⟨q2, _, ?_, Or.inr ⟨w, rfl⟩, by rw [List.length_cons]; omega, b2, FR_mono b3 (by decide) (by decide)⟩
      unfold f153
      rw [if_neg c0]
      simp only [t1, if_pos t2, t3]
      rw [if_pos (show nn 4 = (4 : Int32) from rfl)]
      exact b1
  obtain ⟨q, S2, k1, k2, k3, k4, k5⟩ := key
  have Mq : MC q E.1 z (t :: r) := MC_fr k5 M (by decide) (by decide)
  obtain ⟨m', n1, n2, n3⟩ := m_adv Mq (by omega) hf
  refine ⟨m', S2, ?_, k2, k3, FR_trans A.1 (FR_trans (FR_mono k5 (by decide) (by decide)) (FR_mono n3 (by decide) (by decide))), n2, ST_fr n3 k4 (by decide) (by decide), ?_, ?_, ?_⟩
  · have h164 : f147_164 m = some (0, m') := by
      unfold f147_164
      rw [e20.2, k1, Option.bind_some, n1]
      rfl
    have i46 : f142 m (46 : Int32) = 0 := by rw [show f142 m (46 : Int32) = _ from is9 46 (by decide) (by decide) (by decide), if_neg (by omega)]
    unfold f147
    rw [if_neg (by rw [e20.1]; exact fun hh => by have := tcode_2.mp hh; omega), if_neg (by rw [e20.1]; exact fun hh => by have := tcode_1.mp hh; omega), i46, if_pos rfl, show f142 m (45 : Int32) = _ from is9 45 (by decide) (by decide) (by decide), show f142 m (43 : Int32) = _ from is9 43 (by decide) (by decide) (by decide), show f142 m (126 : Int32) = _ from is9 126 (by decide) (by decide) (by decide)]
    by_cases q1 : t.1 = 45
    · rw [if_pos q1, if_neg (by decide), h164]
    · rw [if_neg q1, if_pos rfl]
      by_cases q2 : t.1 = 43
      · rw [if_pos q2, if_neg (by decide), h164]
      · rw [if_neg q2, if_pos rfl, if_pos (show t.1 = 126 by omega), if_neg (show ¬ (1 : Int32) = 0 by decide), h164]
  · rw [n3.1 11 (by decide), k5.1 11 (by decide)]; exact h11
  · rw [n3.1 38 (by decide), k5.1 38 (by decide)]; exact A.2.2.2.2.1
  · intro h; rw [n3.1 38 (by decide), k5.1 38 (by decide)]; exact A.2.2.2.2.2 h
end OP
