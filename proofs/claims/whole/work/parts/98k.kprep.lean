/-! THE CLASS prepares the image. -/
def ni (s : cS) (M x0 : Nat) : cS := cr (cn s 0 M) x0 4 (42 + s.2.2.2)
theorem ni_r {s : cS} {M x0 : Nat} : (ni s M x0).2.1 x0 4 = 42 + s.2.2.2 := by
  show (if 4 = 4 ∧ x0 = x0 then _ else _) = _
  rw [if_pos ⟨rfl, rfl⟩]
theorem ni_o {s : cS} {M x0 p q : Nat} (h : ¬ (p, q) = (x0, 4)) : (ni s M x0).2.1 p q = s.2.1 p q := by
  show (if q = 4 ∧ p = x0 then _ else s.2.1 p q) = _
  rw [if_neg (fun hh => h (by rw [hh.1, hh.2]))]
theorem ni_c {s : cS} {M x0 : Nat} : (ni s M x0).2.2.1 (42 + s.2.2.2) = (0, M, fun _ => 0) := by
  show (if 42 + s.2.2.2 = 42 + s.2.2.2 then _ else _) = _
  rw [if_pos rfl]
theorem ni_k {s : cS} {M x0 q : Nat} (h : ¬ q = 42 + s.2.2.2) : (ni s M x0).2.2.1 q = s.2.2.1 q := by
  show (if q = 42 + s.2.2.2 then _ else s.2.2.1 q) = _
  rw [if_neg h]
theorem ni_csz {s : cS} {M x0 : Nat} : csz (ni s M x0) = csz s + M := by
  have := csz_new (c := s) (c' := ni s M x0) (t := 0) (m := M) rfl (fun q hq => by rw [ni_k (by omega)]; exact ⟨rfl, rfl⟩) (by rw [ni_c]; exact ⟨rfl, rfl⟩)
  rw [if_neg (by decide)] at this
  exact this
theorem RSX_img {s : cS} {k L Ls M x0 : Nat} (R : RSX s k L Ls) (hx : x0 = 18 ∨ x0 = 20) (h1 : cl s (s.2.1 x0 4) < M) (h2 : M ≤ 65536) (h3 : 2 * cl s (s.2.1 x0 4) ≤ M ∨ M = 65536) (h4 : 84 ≤ M) : RSX (ni s M x0) k L Ls := by
  obtain ⟨r1, r2, r3, r4, r5, r6, r7, r8, r9, r10, r11, r12, r13, r14⟩ := R
  obtain ⟨t1, t2, t3, t4, t5, t6, t7⟩ := r1
  have gn : (ni s M x0).2.2.2 = s.2.2.2 + 1 := rfl
  have hS : SEP (ni s M x0) := SEP_new (i := x0) (j := 4) (by rcases hx with rfl | rfl <;> decide) ni_r (fun p q h => ni_o h) gn r8
  have g1 : ∀ q, q < 42 + s.2.2.2 → (ni s M x0).2.2.1 q = s.2.2.1 q := fun q hq => ni_k (by omega)
  have hcA : ∀ t q, cA s t q → cA (ni s M x0) t q := fun t q h => ⟨h.1, by rw [gn]; have := h.2.1; omega, by rw [g1 q h.2.1]; exact h.2.2⟩
  have hcl : ∀ t q, cA s t q → cl (ni s M x0) q = cl s q := fun t q h => by unfold cl; rw [g1 q h.2.1]
  have hnA : cA (ni s M x0) 0 (42 + s.2.2.2) := ⟨cfr_n _, by rw [gn]; omega, by rw [ni_c]⟩
  have hnl : cl (ni s M x0) (42 + s.2.2.2) = M := by unfold cl; rw [ni_c]
  have e11 : ∀ q, (ni s M x0).2.1 11 q = s.2.1 11 q := fun q => ni_o (fun h => by have := congrArg Prod.fst h; simp only at this; omega)
  have e2 : ∀ q, (ni s M x0).2.1 2 q = s.2.1 2 q := fun q => ni_o (fun h => by have := congrArg Prod.fst h; simp only at this; omega)
  have e0 : ∀ q, (ni s M x0).2.1 0 q = s.2.1 0 q := fun q => ni_o (fun h => by have := congrArg Prod.fst h; simp only at this; omega)
  have e16 : ∀ q, (ni s M x0).2.1 16 q = s.2.1 16 q := fun q => ni_o (fun h => by have := congrArg Prod.fst h; simp only at this; omega)
  have hz := ni_csz (s := s) (M := M) (x0 := x0)
  have hTA : TA (ni s M x0) L := by
    unfold TA
    rw [e11, e11, e11, hcl 1 _ t1, hcl 1 _ t2, hcl 1 _ t3]
    exact ⟨hcA _ _ t1, hcA _ _ t2, hcA _ _ t3, t4, t5, t6, t7⟩
  have h2k : ∀ kk, 3 ≤ kk → kk ≤ 8 → cA (ni s M x0) 1 ((ni s M x0).2.1 2 kk) ∧ cl (ni s M x0) ((ni s M x0).2.1 2 kk) = Ls := fun kk h3 h8 => by
    rw [e2, hcl 1 _ (r5 kk h3 h8).1]
    exact ⟨hcA _ _ (r5 kk h3 h8).1, (r5 kk h3 h8).2⟩
  -- what the image takes
  have bud : ∀ l, cl s (s.2.1 x0 4) = l → ipt l + M ≤ ipt M ∧ iqt l + 84 ≤ iqt M := by
    intro l hl
    have h5 : l = 0 ∨ 84 ≤ l := by
      rw [← hl]
      rcases hx with rfl | rfl
      · exact r10.2.2
      · exact r11.2.2
    rw [hl] at h1 h3
    unfold ipt iqt
    simp only [if_neg (show ¬ l = 65536 by omega)]
    by_cases c : M = 65536
    · simp only [if_pos c]; omega
    · simp only [if_neg c]; omega
  rcases hx with rfl | rfl
  · have e204 : (ni s M 18).2.1 20 4 = s.2.1 20 4 := ni_o (by decide)
    obtain ⟨b1, b2⟩ := bud _ rfl
    unfold RSX
    rw [e2, e0, ni_r, e204, e16, e16, hz, gn, hcl 1 _ r4.1, hcl 0 _ r9.1, hcl 0 _ r11.1, hnl]
    exact ⟨hTA, r2, r3, ⟨hcA _ _ r4.1, r4.2⟩, h2k, r6, r7, hS, ⟨hcA _ _ r9.1, r9.2⟩, ⟨hnA, h2, Or.inr h4⟩, ⟨hcA _ _ r11.1, r11.2⟩, r12, by omega, by omega⟩
  · have e184 : (ni s M 20).2.1 18 4 = s.2.1 18 4 := ni_o (by decide)
    obtain ⟨b1, b2⟩ := bud _ rfl
    unfold RSX
    rw [e2, e0, ni_r, e184, e16, e16, hz, gn, hcl 1 _ r4.1, hcl 0 _ r9.1, hcl 0 _ r10.1, hnl]
    exact ⟨hTA, r2, r3, ⟨hcA _ _ r4.1, r4.2⟩, h2k, r6, r7, hS, ⟨hcA _ _ r9.1, r9.2⟩, ⟨hcA _ _ r10.1, r10.2⟩, ⟨hnA, h2, Or.inr h4⟩, r12, by omega, by omega⟩
