/-! THE CLASS takes the next line. -/
theorem cfr_n (n : Nat) : cfr (42 + n) = true := by
  unfold cfr
  split
  all_goals first | omega | skip
  simp
/-- what is left as it was when the token arrays are made anew -/
def GT (s s' : cS) : Prop := s'.1 = s.1 ∧ s.2.2.2 ≤ s'.2.2.2 ∧ (∀ p q, ¬ (p = 11 ∧ (q = 11 ∨ q = 12 ∨ q = 13)) → s'.2.1 p q = s.2.1 p q) ∧ (∀ q, q < 42 + s.2.2.2 → s'.2.2.1 q = s.2.2.1 q) ∧ ∀ j, j = 11 ∨ j = 12 ∨ j = 13 → s'.2.1 11 j = s.2.1 11 j ∨ 42 + s.2.2.2 ≤ s'.2.1 11 j
/-- a new array at a reference of cell 11 -/
def na (s : cS) (M j : Nat) : cS := cr (cn s 1 M) 11 j (42 + s.2.2.2)
theorem na_r {s : cS} {M j : Nat} : (na s M j).2.1 11 j = 42 + s.2.2.2 := by
  show (if j = j ∧ 11 = 11 then _ else _) = _
  rw [if_pos ⟨rfl, rfl⟩]
theorem na_o {s : cS} {M j p q : Nat} (h : ¬ (p, q) = (11, j)) : (na s M j).2.1 p q = s.2.1 p q := by
  show (if q = j ∧ p = 11 then _ else s.2.1 p q) = _
  rw [if_neg (fun hh => h (by rw [hh.1, hh.2]))]
theorem na_c {s : cS} {M j : Nat} : (na s M j).2.2.1 (42 + s.2.2.2) = (1, M, fun _ => 0) := by
  show (if 42 + s.2.2.2 = 42 + s.2.2.2 then _ else _) = _
  rw [if_pos rfl]
theorem na_k {s : cS} {M j q : Nat} (h : ¬ q = 42 + s.2.2.2) : (na s M j).2.2.1 q = s.2.2.1 q := by
  show (if q = 42 + s.2.2.2 then _ else s.2.2.1 q) = _
  rw [if_neg h]
theorem na_n {s : cS} {M j : Nat} : (na s M j).2.2.2 = s.2.2.2 + 1 := rfl
theorem na_csz {s : cS} {M j : Nat} : csz (na s M j) = csz s + M := by
  have := csz_new (c := s) (c' := na s M j) (t := 1) (m := M) na_n (fun q hq => by rw [na_k (by omega)]; exact ⟨rfl, rfl⟩) (by rw [na_c]; exact ⟨rfl, rfl⟩)
  rw [if_neg (by decide)] at this
  exact this
theorem na_sep {s : cS} {M j : Nat} (hj : (11, j) ∈ OW) (S : SEP s) : SEP (na s M j) := SEP_new hj na_r (fun p q h => na_o h) na_n S
section KN
variable {s0 s : cS} {k L tl Ls ln need : Nat} {B : Nat → Nat} {tb : List Sy} {base : Int32} {e ag : Bool}
theorem k_24 (R : RSX s k L Ls) (hn : need ≤ 20000) : ∃ s' L', f24 s (nn need) = some s' ∧ GT s s' ∧ RSX s' k L' Ls ∧ need ≤ L' := by
  obtain ⟨r1, r2, r3, r4, r5, r6, r7, r8, r9, r10, r11, r12, r13, r14⟩ := R
  obtain ⟨t1, t2, t3, t4, t5, t6, t7⟩ := r1
  have e1 : Int32.ofNat (cl s (s.2.1 11 11)) = nn L := by rw [t4]
  unfold f24
  rw [if_pos t1, e1, nn_le2 (by omega) (by omega)]
  by_cases c : need ≤ L
  · rw [if_pos c]
    exact ⟨s, L, rfl, ⟨rfl, Nat.le_refl _, fun _ _ _ => rfl, fun _ _ => rfl, fun _ _ => Or.inl rfl⟩, ⟨⟨t1, t2, t3, t4, t5, t6, t7⟩, r2, r3, r4, r5, r6, r7, r8, r9, r10, r11, r12, r13, r14⟩, c⟩
  · rw [if_neg c, if_pos t1]
    have e2 : nn L * 2 = nn (L * 2) := (Int32.ofNat_mul L 2).symm
    have hM : ∃ M, (if nn need < nn L * 2 then nn L * 2 else nn need) = nn M ∧ need ≤ M ∧ 2 * L ≤ M ∧ M ≤ 40000 := by
      rw [e2]
      by_cases cc : nn need < nn (L * 2)
      · have := (nn_lt (by omega) (by omega)).mp cc
        rw [if_pos cc]; exact ⟨_, rfl, by omega, by omega, by omega⟩
      · rw [if_neg cc]
        have : ¬ need < L * 2 := fun h => cc ((nn_lt (by omega) (by omega)).mpr h)
        exact ⟨_, rfl, by omega, by omega, by omega⟩
    obtain ⟨M, hM, m1, m2, m3⟩ := hM
    rw [hM]
    have hcN : cN (nn M) := ⟨nn_neg (by omega), by rw [nn_tn (by omega)]; omega⟩
    rw [if_pos hcN, if_pos hcN, if_pos hcN, nn_tn (by omega)]
    have g1 : ∀ q, q < 42 + s.2.2.2 → (na (na (na s M 11) M 12) M 13).2.2.1 q = s.2.2.1 q := by
      intro q hq
      rw [na_k (by rw [na_n, na_n]; omega), na_k (by rw [na_n]; omega), na_k (by omega)]
    have g2 : ∀ p q, ¬ (p = 11 ∧ (q = 11 ∨ q = 12 ∨ q = 13)) → (na (na (na s M 11) M 12) M 13).2.1 p q = s.2.1 p q := by
      intro p q h
      rw [na_o (fun hh => h (by cases hh; exact ⟨rfl, by omega⟩)), na_o (fun hh => h (by cases hh; exact ⟨rfl, by omega⟩)), na_o (fun hh => h (by cases hh; exact ⟨rfl, by omega⟩))]
    have gn : (na (na (na s M 11) M 12) M 13).2.2.2 = s.2.2.2 + 3 := rfl
    have rA : (na (na (na s M 11) M 12) M 13).2.1 11 11 = 42 + s.2.2.2 := by rw [na_o (by decide), na_o (by decide), na_r]
    have rB : (na (na (na s M 11) M 12) M 13).2.1 11 12 = 42 + (s.2.2.2 + 1) := by rw [na_o (by decide), na_r]; rfl
    have rC : (na (na (na s M 11) M 12) M 13).2.1 11 13 = 42 + (s.2.2.2 + 2) := by rw [na_r]; rfl
    have cA' : (na (na (na s M 11) M 12) M 13).2.2.1 (42 + s.2.2.2) = (1, M, fun _ => 0) := by rw [na_k (by rw [na_n, na_n]; omega), na_k (by rw [na_n]; omega), na_c]
    have cB' : (na (na (na s M 11) M 12) M 13).2.2.1 (42 + (s.2.2.2 + 1)) = (1, M, fun _ => 0) := by rw [na_k (by rw [na_n, na_n]; omega)]; exact na_c (s := na s M 11)
    have cC' : (na (na (na s M 11) M 12) M 13).2.2.1 (42 + (s.2.2.2 + 2)) = (1, M, fun _ => 0) := na_c (s := na (na s M 11) M 12)
    have hS : SEP (na (na (na s M 11) M 12) M 13) := na_sep (by decide) (na_sep (by decide) (na_sep (by decide) r8))
    have hz : csz (na (na (na s M 11) M 12) M 13) = csz s + M + M + M := by rw [na_csz, na_csz, na_csz]
    have hcA : ∀ t q, cA s t q → cA (na (na (na s M 11) M 12) M 13) t q := fun t q h => ⟨h.1, by rw [gn]; have := h.2.1; omega, by rw [g1 q h.2.1]; exact h.2.2⟩
    have hcl : ∀ t q, cA s t q → cl (na (na (na s M 11) M 12) M 13) q = cl s q := fun t q h => by unfold cl; rw [g1 q h.2.1]
    refine ⟨na (na (na s M 11) M 12) M 13, M, rfl, ⟨rfl, by rw [gn]; omega, g2, g1, fun j hj => Or.inr (by rcases hj with rfl | rfl | rfl; rw [rA]; omega; rw [rB]; omega; rw [rC]; omega)⟩, ?_, m1⟩
    have k22 := g2 2 2 (by decide)
    have k00 := g2 0 0 (by decide)
    have k184 := g2 18 4 (by decide)
    have k204 := g2 20 4 (by decide)
    have k160 := g2 16 0 (by decide)
    have k161 := g2 16 1 (by decide)
    unfold RSX
    rw [k22, k00, k184, k204, k160, k161, hz, gn, hcl 1 _ r4.1, hcl 0 _ r9.1, hcl 0 _ r10.1, hcl 0 _ r11.1]
    refine ⟨?_, by omega, m3, ⟨hcA _ _ r4.1, r4.2⟩, fun kk h3 h8 => ?_, r6, r7, hS, ⟨hcA _ _ r9.1, r9.2⟩, ⟨hcA _ _ r10.1, r10.2⟩, ⟨hcA _ _ r11.1, r11.2⟩, r12, by omega, by omega⟩
    · unfold TA cl
      rw [rA, rB, rC, cA', cB', cC']
      exact ⟨⟨cfr_n _, by rw [gn]; omega, by rw [cA']⟩, ⟨cfr_n _, by rw [gn]; omega, by rw [cB']⟩, ⟨cfr_n _, by rw [gn]; omega, by rw [cC']⟩, rfl, rfl, rfl, by omega, by omega, by omega, by omega⟩
    · rw [g2 2 kk (by omega)]
      exact ⟨hcA _ _ (r5 kk h3 h8).1, by rw [hcl 1 _ (r5 kk h3 h8).1]; exact (r5 kk h3 h8).2⟩
end KN
