/-! THE CLASS's operands are the spec's. -/
section KO
variable {s : cS} {L a z tl Ls : Nat} {T0 ts : List Tk} {E : Ev} {e : Bool}
theorem rg_len {w : List Nat} (h : ¬ rg w = none) : w.length ≤ 4 := by
  unfold rg at h
  split at h
  all_goals first | (simp only [List.length_cons, List.length_nil]; omega) | exact absurd rfl h
theorem rgI_m1 {w : List Nat} : rgI w = -1 ↔ rg w = none := by
  unfold rgI
  cases h : rg w with
  | none => exact ⟨fun _ => rfl, fun _ => rfl⟩
  | some n =>
    have hl : n < 1000 := by
      unfold rg rgL at h
      repeat' split at h
      all_goals first | (injection h with h; omega) | cases h
    refine ⟨fun h9 => absurd h9 (nn_m1 (by omega)), fun h9 => by cases h9⟩
/-- the register that the token at hand, or the one behind it, names -/
theorem k_ahead (X : CTX s L a z tl Ls T0 E) {i k : Nat} (h4 : s.1 11 15 = nn i) (hi : i < 70000) (hk : k < 3) {t : Tk} {r : List Tk} (hd : T0.drop (i + k) = t :: r) : f88 s (nn k) = some (if isR E.1 (t :: r) = true then rgI (tname E.1 t) else -1) := by
  have C := X.1
  obtain ⟨a1, a2, a3, l1, l2, l3, l4, _⟩ := C.1
  have hlen := drop_len hd
  have hl := C.2.2.2.1
  obtain ⟨k1, k2, k3⟩ := TKL_drop C.2.1 hd
  rw [Nat.zero_add] at k1 k2 k3
  have T := tok_of X hd
  have hcount : ∃ n, s.1 11 14 = nn n ∧ T0.length ≤ n ∧ n ≤ T0.length + 1 := by
    cases hf : lastF T0 with
    | none => exact ⟨_, (C.2.2.2.2.1 hf).2, Nat.le_refl _, by omega⟩
    | some w => exact ⟨_, (C.2.2.2.2.2 w hf).2.2.1, by omega, Nat.le_refl _⟩
  obtain ⟨n, hn, hn1, hn2⟩ := hcount
  have hjL : i + k < L := by omega
  have hib : ∀ q, cl s q = L → ib (nn (i + k)) (cl s q) := fun q hq => (nn_ib (by omega)).mpr (by rw [hq]; exact hjL)
  have tn : (nn (i + k)).toNatClampNeg = i + k := nn_tn (by omega)
  unfold f88
  rw [h4, nn_add, hn, if_neg (nn_neg (by omega)), nn_le2 (by omega) (by omega), if_neg (by omega), if_pos ⟨a1, hib _ l1⟩]
  have g1 : ce s (s.2.1 11 11) (nn (i + k)) = nn t.1 := by show (s.2.2.1 (s.2.1 11 11)).2.2 _ = _; rw [tn]; exact k1
  have g2 : ce s (s.2.1 11 12) (nn (i + k)) = nn t.2.1 := by show (s.2.2.1 (s.2.1 11 12)).2.2 _ = _; rw [tn]; exact k2
  have g3 : ce s (s.2.1 11 13) (nn (i + k)) = t.2.2.1 := by show (s.2.2.1 (s.2.1 11 13)).2.2 _ = _; rw [tn]; exact k3
  rw [g1, q_eq (x := 1) (k := 1) rfl T.1 (by decide)]
  by_cases h1 : t.1 = 1
  · obtain ⟨e1, e2, e3⟩ := T.2.2.2.1 h1
    rw [if_pos h1, if_pos ⟨a2, hib _ l2⟩, if_pos ⟨a3, hib _ l3⟩, g2, g3, e1, c_reg X.2.1 X.2.2.1 e3 T.2.1 (by omega), Option.bind_some]
    unfold isR
    simp only [h1, true_and]
    by_cases hr : rg (tname E.1 t) = none
    · rw [if_neg (by simp [hr])]
      exact congrArg some (rgI_m1.mpr hr)
    · rw [if_pos (by simp [hr])]
      rfl
  · rw [if_neg h1]
    unfold isR
    rw [if_neg (by simp [h1])]
theorem k_reg (D : cS → Prop) (hD : ∀ s', CF ICU s s' → D s') (X : CTX s L a z tl Ls T0 E) (hT : T0.length ≤ 65000) (U : CU s T0 ts e) : KR D (fun (q : Int32 × List Tk) (b : Int32 × cS) => b.1 = q.1 ∧ CU b.2 T0 q.2 e ∧ CF ICU s b.2) (xReg E.1 ts) (f90 s) := by
  have K := k_exp D hD X U (k := 1) (by decide) (by decide)
  obtain ⟨i, t, r, rfl, h1, h2, h3, h4, h5, h6⟩ := U
  have hlen := drop_len h1
  unfold f90 xReg
  have e8 : f88 s 0 = _ := k_ahead (k := 0) X h5 (by omega) (by decide) h1
  rw [e8, Option.bind_some]
  cases hx : xExp 1 (t :: r) with
  | none => exact trivial
  | some y =>
    cases y with
    | inr p =>
      rw [hx] at K
      obtain ⟨s', g1, g2⟩ := K
      refine ⟨s', ?_, g2⟩
      show tb (f45 s 1) _ = _
      rw [show (1 : Int32) = nn 1 from rfl, g1]
      rfl
    | inl q =>
      rw [hx] at K
      obtain ⟨s', g1, g2, g3⟩ := K
      have ht : t.1 = 1 := by
        unfold xExp at hx
        by_cases h : t.1 = 1
        · exact h
        · simp only [if_neg h] at hx
          cases hx
      show KR D _ (match rg (tname E.1 t) with | none => some (.inr (t.2.1, 1)) | some n => some (.inl (nn n, q))) (tb (f45 s 1) _)
      rw [show f45 s 1 = some (.inl s') from g1]
      show KR D _ _ (if (if isR E.1 (t :: r) = true then rgI (tname E.1 t) else -1) = (-1 : Int32) then some (.inr (f46 s' (s.1 11 4) 1)) else some (.inl ((if isR E.1 (t :: r) = true then rgI (tname E.1 t) else -1), s')))
      cases hr : rg (tname E.1 t) with
      | none =>
        have hi : isR E.1 (t :: r) = false := by unfold isR; simp [hr]
        rw [hi, if_neg (show ¬ (false = true) by decide), if_pos rfl, h3]
        exact ⟨s', rfl, hD _ g3⟩
      | some n =>
        have hi : isR E.1 (t :: r) = true := by unfold isR; simp [hr, ht]
        have hn : rgI (tname E.1 t) = nn n := by unfold rgI; rw [hr]
        rw [hi, if_pos rfl, if_neg (fun h => by rw [rgI_m1, hr] at h; cases h), hn]
        exact ⟨_, rfl, rfl, g2, g3⟩
/-- the operands' fields -/
def IOP : List (Nat × Nat) := (16, 11) :: (16, 12) :: (16, 13) :: (16, 14) :: ICU
def OPS (s : cS) (o : Op) : Prop := s.1 16 11 = o.1 ∧ s.1 16 12 = o.2.1 ∧ s.1 16 13 = o.2.2.1 ∧ s.1 16 14 = o.2.2.2.1
theorem pat_at {k i : Nat} {p : Int32} {ps : List Int32} (h : (pat k).drop i = p :: ps) (hi : i < 100) : sc k (nn i) = p ∧ (pat k).drop (i + 1) = ps ∧ i < sl k := by
  have hl : i < (pat k).length := by
    by_cases hh : i < (pat k).length
    · exact hh
    · rw [List.drop_eq_nil_of_le (by omega)] at h; cases h
  refine ⟨?_, ?_, hl⟩
  · show (pat k).getD (nn i).toNatClampNeg 0 = p
    rw [nn_tn (by omega), List.getD_eq_getElem?_getD]
    have h9 : (pat k)[i]? = some p := by
      have := congrArg (fun l => l[0]?) h
      simpa using this
    rw [h9]
    rfl
  · rw [← List.drop_drop, h]; rfl
theorem f91_at (X : CTX s L a z tl Ls T0 E) (hT : T0.length ≤ 65000) (U : CU s T0 ts e) {k i : Nat} {p : Int32} {ps : List Int32} (hk : k < 106) (h : (pat k).drop i = p :: ps) (hi : i + 1 < 100) : f91 s k (nn i) = some (eb (alone E.1 ps ts)) := by
  obtain ⟨i9, t, r, rfl, h1, h2, h3, h4, h5, h6⟩ := U
  have T := tok_of X h1
  have hlen := drop_len h1
  obtain ⟨p1, p2, p3⟩ := pat_at h (by omega)
  have hsl : sl k = (pat k).length := rfl
  have hl100 : (pat k).length ≤ 100 := by
    have : ∀ k, k < 106 → (pat k).length ≤ 100 := by decide
    exact this k hk
  unfold f91
  rw [if_pos hk, nn_add1, show Int32.ofNat (sl k) = nn (sl k) from rfl, nn_le2 (by omega) (by omega)]
  cases ps with
  | nil =>
    have hh : sl k ≤ i + 1 := by
      have := congrArg List.length p2
      rw [List.length_drop, List.length_nil] at this
      omega
    rw [if_pos hh]
    rfl
  | cons p9 ps9 =>
    obtain ⟨c1, c2, c3⟩ := pat_at p2 (by omega)
    rw [if_neg (by omega), if_pos ⟨hk, (nn_ib (by omega)).mpr c3⟩, c1, h2]
    by_cases d1 : p9 = 40
    · rw [if_pos d1, q_eq (x := 40) (k := 40) rfl T.1 (by decide)]
      by_cases d2 : t.1 = 40
      · rw [if_pos d2]
        have hf : t.2.2.2.2 = none := T.2.2.2.2.1 (by omega) (by omega) (by omega)
        obtain ⟨hW, _⟩ := WFT_drop X.1.2.2.1 h1
        obtain ⟨t', r', rfl⟩ := WFT_next hW hf (by omega)
        have hd' : T0.drop (i9 + 1) = t' :: r' := drop_next h1
        have e8 : f88 s 1 = _ := k_ahead (k := 1) X h5 (by omega) (by decide) hd'
        rw [e8, Option.bind_some]
        unfold alone
        simp only [d1, d2, true_and]
        cases hr : isR E.1 (t' :: r') with
        | false => rw [if_neg (show ¬ (false = true) by decide), if_pos rfl]; rfl
        | true =>
          rw [if_pos rfl, if_neg]
          · rfl
          · intro h9
            rw [rgI_m1] at h9
            unfold isR at hr
            simp [h9] at hr
      · rw [if_neg d2]
        unfold alone
        simp [d2, eb]
    · rw [if_neg d1]
      unfold alone
      simp [d1, eb]
theorem OPS_cf {s s' : cS} {o : Op} (F : CF ICU s s') (h : OPS s o) : OPS s' o := ⟨(F.1 16 11 (by decide)).trans h.1, (F.1 16 12 (by decide)).trans h.2.1, (F.1 16 13 (by decide)).trans h.2.2.1, (F.1 16 14 (by decide)).trans h.2.2.2⟩
theorem ICU_IOP : ∀ x, x ∈ ICU → x ∈ IOP := by decide
theorem k_ops (D : cS → Prop) {k : Nat} (hk : k < 106) (hp : ∀ p ∈ pat k, p = 97 ∨ p = 98 ∨ p = 100 ∨ p = 101 ∨ p = 110 ∨ p = 40 ∨ p = 41 ∨ p = 44) : ∀ (ps : List Int32) (i u : Nat) (s : cS) (o : Op) (ts : List Tk), (pat k).drop i = ps → ps.length < u → i + ps.length < 100 → (∀ s', CF IOP s s' → D s') → CTX s L a z tl Ls T0 E → T0.length ≤ 65000 → CU s T0 ts o.2.2.2.2 → OPS s o → KR D (fun (q : Op × List Tk) s' => OPS s' q.1 ∧ CU s' T0 q.2 q.1.2.2.2.2 ∧ CF IOP s s') (xOps E ps o ts) (f89_2 u s k (nn i)) := by
  intro ps
  induction ps with
  | nil =>
    intro i u s o ts h hu hi hD X hT U O
    have hsl : sl k = (pat k).length := rfl
    have hh : sl k ≤ i := by
      have := congrArg List.length h
      rw [List.length_drop, List.length_nil] at this
      omega
    have hl100 : (pat k).length ≤ 100 := by
      have : ∀ k, k < 106 → (pat k).length ≤ 100 := by decide
      exact this k hk
    have eu : u = (u - 1) + 1 := by simp at hu; omega
    rw [eu, f89_2, if_pos hk, show Int32.ofNat (sl k) = nn (sl k) from rfl, nn_le2 (by omega) (by simp at hi; omega), if_pos hh]
    exact ⟨s, rfl, O, U, CF_refl _ _⟩
  | cons p ps ih =>
    intro i u s o ts h hu hi hD X hT U O
    rw [List.length_cons] at hu hi
    obtain ⟨p1, p2, p3⟩ := pat_at h (by omega)
    have hsl : sl k = (pat k).length := rfl
    have hl100 : (pat k).length ≤ 100 := by
      have : ∀ k, k < 106 → (pat k).length ≤ 100 := by decide
      exact this k hk
    have hmem : p ∈ pat k := by
      have : p ∈ (pat k).drop i := by rw [h]; exact List.mem_cons_self ..
      exact List.mem_of_mem_drop this
    have hc := hp p hmem
    have eu : u = (u - 1) + 1 := by omega
    have hDc : ∀ s', CF ICU s s' → D s' := fun s' F => hD s' (CF_mono F ICU_IOP)
    have step : ∀ (s1 : cS) (o1 : Op) (ts1 : List Tk), CF IOP s s1 → CU s1 T0 ts1 o1.2.2.2.2 → OPS s1 o1 → KR D (fun (q : Op × List Tk) s' => OPS s' q.1 ∧ CU s' T0 q.2 q.1.2.2.2.2 ∧ CF IOP s s') (xOps E ps o1 ts1) (f89_165 (f89_2 (u - 1)) s1 k (nn i)) := by
      intro s1 o1 ts1 F1 U1 O1
      unfold f89_165
      rw [nn_add1]
      refine kr_mono (ih (i + 1) (u - 1) s1 o1 ts1 p2 (by omega) (by omega) (fun s' F => hD s' (CF_trans F1 F)) (CTX_cf F1 (by decide) X) hT U1 O1) (fun _ h => h) ?_
      intro q b hq
      exact ⟨hq.1, hq.2.1, CF_trans F1 hq.2.2⟩
    rw [eu, f89_2, if_pos hk, show Int32.ofNat (sl k) = nn (sl k) from rfl, nn_le2 (by omega) (by omega), if_neg (by omega), if_pos ⟨hk, (nn_ib (by omega)).mpr p3⟩, p1]
    rw [xOps]
    by_cases c1 : p = 97
    · rw [if_pos c1, if_pos c1]
      refine kr_b (k_reg D hDc X hT U) ?_
      rintro q b ⟨b1, b2, b3⟩
      exact step _ _ _ (CF_g (CF_mono b3 ICU_IOP) (by decide) _) (CU_cf (CF_g (CF_refl [(16, 12)] _) (by decide) _) (by decide) b2) ⟨(OPS_cf b3 O).1, b1, (OPS_cf b3 O).2.2⟩
    rw [if_neg c1, if_neg c1]
    by_cases c2 : p = 98
    · rw [if_pos c2, if_pos c2]
      refine kr_b (k_reg D hDc X hT U) ?_
      rintro q b ⟨b1, b2, b3⟩
      exact step _ _ _ (CF_g (CF_mono b3 ICU_IOP) (by decide) _) (CU_cf (CF_g (CF_refl [(16, 13)] _) (by decide) _) (by decide) b2) ⟨(OPS_cf b3 O).1, (OPS_cf b3 O).2.1, b1, (OPS_cf b3 O).2.2.2⟩
    rw [if_neg c2, if_neg c2]
    by_cases c3 : p = 100
    · rw [if_pos c3, if_pos c3]
      refine kr_b (k_reg D hDc X hT U) ?_
      rintro q b ⟨b1, b2, b3⟩
      exact step _ _ _ (CF_g (CF_mono b3 ICU_IOP) (by decide) _) (CU_cf (CF_g (CF_refl [(16, 11)] _) (by decide) _) (by decide) b2) ⟨b1, (OPS_cf b3 O).2⟩
    rw [if_neg c3, if_neg c3]
    by_cases c4 : p = 101
    · rw [if_pos c4, if_pos c4, f91_at X hT U hk h (by omega), Option.bind_some]
      cases ha : alone E.1 ps ts with
      | true =>
        rw [if_pos rfl, if_neg (by decide)]
        exact step s o ts (CF_refl _ _) U O
      | false =>
        rw [if_neg (show ¬ (false = true) by decide), if_pos (show eb false = 0 from rfl)]
        refine kr_b (k_x D hDc X hT U) ?_
        rintro q b ⟨b1, b2, b3⟩
        exact step _ (o.1, o.2.1, o.2.2.1, q.1, q.2.1) _ (CF_g (CF_mono b3 ICU_IOP) (by decide) _) (CU_cf (CF_g (CF_refl [(16, 14)] _) (by decide) _) (by decide) b2) ⟨(OPS_cf b3 O).1, (OPS_cf b3 O).2.1, (OPS_cf b3 O).2.2.1, b1⟩
    rw [if_neg c4, if_neg c4]
    by_cases c5 : p = 110
    · rw [if_pos c5, if_pos c5]
      refine kr_b (k_exp D hDc X U (k := 1) (by decide) (by decide)) ?_
      rintro q b ⟨b2, b3⟩
      exact step _ _ _ (CF_mono b3 ICU_IOP) b2 (OPS_cf b3 O)
    · rw [if_neg c5, if_neg c5]
      have hpn : p.toNatClampNeg < 256 ∧ 0 < p.toNatClampNeg ∧ nn p.toNatClampNeg = p := by
        rcases hc with hc | hc | hc | hc | hc | hc | hc | hc
        · exact absurd hc c1
        · exact absurd hc c2
        · exact absurd hc c3
        · exact absurd hc c4
        · exact absurd hc c5
        · subst hc; exact ⟨by decide, by decide, rfl⟩
        · subst hc; exact ⟨by decide, by decide, rfl⟩
        · subst hc; exact ⟨by decide, by decide, rfl⟩
      have K := k_exp D hDc X U hpn.1 hpn.2.1
      rw [hpn.2.2] at K
      refine kr_b K ?_
      rintro q b ⟨b2, b3⟩
      exact step _ _ _ (CF_mono b3 ICU_IOP) b2 (OPS_cf b3 O)
end KO
