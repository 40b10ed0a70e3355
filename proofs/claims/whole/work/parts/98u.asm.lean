/-! THE CALL assemble. -/
theorem and_i8 (v : Int32) : v.toInt8.toInt32 &&& 255 = v &&& 255 := by
  apply Int32.toBitVec_inj.mp
  rw [Int32.toBitVec_and, Int32.toBitVec_and, Int8.toBitVec_toInt32, Int32.toBitVec_toInt8]
  show _ &&& 255#32 = _ &&& 255#32
  apply BitVec.eq_of_getLsbD_eq
  intro i hi
  have key : ∀ i, i < 32 → (255#32).getLsbD i = decide (i < 8) := by decide
  rw [BitVec.getLsbD_and, BitVec.getLsbD_and, key i hi]
  by_cases c : i < 8
  · rw [BitVec.getLsbD_signExtend, if_pos c, BitVec.getLsbD_signExtend, if_pos hi]
    simp [c, hi]
  · simp [c]
section AS
variable {k L Ls : Nat} {c s : cS} {m : mS}
theorem RSX_46 (R : RSX s k L Ls) (x y : Int32) : RSX (f46 s x y) (k + 1) L Ls := by
  unfold f46
  have R1 : RSX (cg (cg (cg s 11 0 (s.1 11 6)) 11 1 (x - s.1 11 9)) 11 2 y) k L Ls := RSX_sh rfl rfl (fun q => ⟨rfl, rfl⟩) R
  generalize cg (cg (cg s 11 0 (s.1 11 6)) 11 1 (x - s.1 11 9)) 11 2 y = t at R1
  obtain ⟨r1, r2, r3, r4, r5, r6, r7, r8, r9, r10, r11, r12, r13, r14⟩ := R1
  obtain ⟨t1, t2, t3, t4, t5, t6, t7⟩ := r1
  have g1 : ∀ q, q < 42 + t.2.2.2 → (cn t 9 0).2.2.1 q = t.2.2.1 q := fun q hq => by
    show (if q = 42 + t.2.2.2 then _ else t.2.2.1 q) = _
    rw [if_neg (by omega)]
  have gn : (cn t 9 0).2.2.2 = t.2.2.2 + 1 := rfl
  have gr : (cn t 9 0).2.1 = t.2.1 := rfl
  have hcA : ∀ ty q, cA t ty q → cA (cn t 9 0) ty q := fun ty q h => ⟨h.1, by rw [gn]; have := h.2.1; omega, by rw [g1 q h.2.1]; exact h.2.2⟩
  have hcl : ∀ ty q, cA t ty q → cl (cn t 9 0) q = cl t q := fun ty q h => by unfold cl; rw [g1 q h.2.1]
  have hz : csz (cn t 9 0) = csz t + 6 := by
    have := csz_new (c := t) (c' := cn t 9 0) (t := 9) (m := 0) rfl (fun q hq => by rw [g1 q hq]; exact ⟨rfl, rfl⟩) (by
      show (if 42 + t.2.2.2 = 42 + t.2.2.2 then ((9, 0, fun _ => 0) : Nat × Nat × (Nat → Int32)) else _).1 = 9 ∧ (if 42 + t.2.2.2 = 42 + t.2.2.2 then ((9, 0, fun _ => 0) : Nat × Nat × (Nat → Int32)) else _).2.1 = 0
      rw [if_pos rfl]
      exact ⟨rfl, rfl⟩)
    rw [if_pos rfl] at this
    exact this
  have hTA : TA (cn t 9 0) L := by
    unfold TA
    rw [gr, hcl 1 _ t1, hcl 1 _ t2, hcl 1 _ t3]
    exact ⟨hcA _ _ t1, hcA _ _ t2, hcA _ _ t3, t4, t5, t6, t7⟩
  have hS : SEP (cn t 9 0) := ⟨r8.1, fun p hp => by have := r8.2 p hp; show t.2.1 p.1 p.2 < 42 + (t.2.2.2 + 1); omega⟩
  unfold RSX
  rw [gr, hz, gn, hcl 1 _ r4.1, hcl 0 _ r9.1, hcl 0 _ r10.1, hcl 0 _ r11.1]
  refine ⟨hTA, r2, r3, ⟨hcA _ _ r4.1, r4.2⟩, fun kk h3 h8 => ?_, r6, r7, hS, ⟨hcA _ _ r9.1, r9.2⟩, ⟨hcA _ _ r10.1, r10.2⟩, ⟨hcA _ _ r11.1, r11.2⟩, r12, by omega, by omega⟩
  rw [hcl 1 _ (r5 kk h3 h8).1]
  exact ⟨hcA _ _ (r5 kk h3 h8).1, (r5 kk h3 h8).2⟩
/-- the two images are changed -/
theorem RSX_sw (R : RSX s k L Ls) : RSX (cr (cr s 16 0 (s.2.1 16 1)) 16 1 (s.2.1 16 0)) k L Ls := by
  generalize hs' : cr (cr s 16 0 (s.2.1 16 1)) 16 1 (s.2.1 16 0) = s'
  have e0 : s'.2.1 16 0 = s.2.1 16 1 := by rw [← hs']; rfl
  have e1 : s'.2.1 16 1 = s.2.1 16 0 := by rw [← hs']; rfl
  have hr : ∀ p q, ¬ p = 16 → s'.2.1 p q = s.2.1 p q := by
    intro p q h
    rw [← hs']
    show (if q = 1 ∧ p = 16 then _ else if q = 0 ∧ p = 16 then _ else s.2.1 p q) = _
    rw [if_neg (fun hh => h hh.2), if_neg (fun hh => h hh.2)]
  have h2 : s'.2.2 = s.2.2 := by rw [← hs']; rfl
  have hz : csz s' = csz s := by unfold csz; rw [h2]
  have hA : ∀ t q, cA s t q → cA s' t q := fun t q h => by unfold cA at h ⊢; rw [h2]; exact h
  have hcl : ∀ q, cl s' q = cl s q := fun q => by unfold cl; rw [h2]
  obtain ⟨r1, r2, r3, r4, r5, r6, r7, r8, r9, r10, r11, r12, r13, r14⟩ := R
  obtain ⟨t1, t2, t3, t4, t5, t6, t7⟩ := r1
  have nw : ∀ p ∈ OW, ¬ p.1 = 16 := by decide
  have hS : SEP s' := by
    refine ⟨fun p hp q hq e => ?_, fun p hp => ?_⟩
    · rw [hr _ _ (nw p hp), hr _ _ (nw q hq)] at e
      exact r8.1 p hp q hq e
    · rw [hr _ _ (nw p hp), h2]
      exact r8.2 p hp
  unfold RSX TA
  rw [hr 11 11 (by decide), hr 11 12 (by decide), hr 11 13 (by decide), hr 2 2 (by decide), hr 0 0 (by decide), hr 18 4 (by decide), hr 20 4 (by decide), e0, e1, hz, h2]
  simp only [hcl]
  refine ⟨⟨hA _ _ t1, hA _ _ t2, hA _ _ t3, t4, t5, t6, t7⟩, r2, r3, ⟨hA _ _ r4.1, r4.2⟩, fun kk h3 h8 => ?_, r6, r7, hS, ⟨hA _ _ r9.1, r9.2⟩, ⟨hA _ _ r10.1, r10.2⟩, ⟨hA _ _ r11.1, r11.2⟩, ?_, r13, r14⟩
  · rw [hr 2 kk (by decide)]
    exact ⟨hA _ _ (r5 kk h3 h8).1, (r5 kk h3 h8).2⟩
  · rcases r12 with h | h
    · exact Or.inr ⟨h.2, h.1⟩
    · exact Or.inl ⟨h.2, h.1⟩
end AS
