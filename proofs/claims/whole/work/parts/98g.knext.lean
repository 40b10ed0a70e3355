/-! THE CLASS at the next line. -/
def INX : List (Nat × Nat) := [(11, 3), (11, 4), (11, 5), (11, 6), (11, 9), (11, 10), (11, 14), (11, 15), (11, 16), (11, 17)]
/-- what taking a line leaves -/
def NX (s s' : cS) : Prop := (∀ i j, ¬ (i, j) ∈ INX → s'.1 i j = s.1 i j) ∧ s.2.2.2 ≤ s'.2.2.2 ∧ (∀ p q, ¬ (p = 11 ∧ (q = 11 ∨ q = 12 ∨ q = 13)) → s'.2.1 p q = s.2.1 p q) ∧ ∀ q, q < 42 + s.2.2.2 → ¬ q = s.2.1 11 11 → ¬ q = s.2.1 11 12 → ¬ q = s.2.1 11 13 → s'.2.2.1 q = s.2.2.1 q
theorem cg_cg (c : cS) (i j : Nat) (x y : Int32) : cg (cg c i j x) i j y = cg c i j y := by
  refine Prod.ext (funext fun p => funext fun q => ?_) rfl
  show (if q = j ∧ p = i then y else if q = j ∧ p = i then x else c.1 p q) = if q = j ∧ p = i then y else c.1 p q
  by_cases h : q = j ∧ p = i
  · rw [if_pos h, if_pos h]
  · rw [if_neg h, if_neg h, if_neg h]
theorem SYM_keep {c c' : cS} {B : Nat → Nat} {tl Ls : Nat} {tb : List Sy} (h0 : c'.1 2 0 = c.1 2 0) (hr : ∀ k, c'.2.1 2 k = c.2.1 2 k) (hc : ∀ k, 2 ≤ k → k ≤ 8 → c'.2.2.1 (c.2.1 2 k) = c.2.2.1 (c.2.1 2 k)) (hn : c.2.2.2 ≤ c'.2.2.2) (S : SYM c B tl tb Ls) : SYM c' B tl tb Ls := by
  obtain ⟨y1, y2, y3, y4, y5, y6, y7, y8, y9⟩ := S
  have hcA : ∀ t q, cA c t q → c'.2.2.1 q = c.2.2.1 q → cA c' t q := fun t q h e => ⟨h.1, by have := h.2.1; omega, by rw [e]; exact h.2.2⟩
  refine ⟨h0.trans y1, y2, y3, by rw [hr]; exact hcA _ _ y4 (hc 2 (by omega) (by omega)), by rw [hr]; show (c'.2.2.1 _).2.1 = _; rw [hc 2 (by omega) (by omega)]; exact y5, fun k h3 h8 => ?_, fun i hi => ?_, fun h hh => ?_, fun i hi => ?_⟩
  · rw [hr]
    exact ⟨hcA _ _ (y6 k h3 h8).1 (hc k (by omega) h8), by show (c'.2.2.1 _).2.1 = _; rw [hc k (by omega) h8]; exact (y6 k h3 h8).2⟩
  · rw [hr, hr, hr, hr, hr, hc 4 (by omega) (by omega), hc 5 (by omega) (by omega), hc 6 (by omega) (by omega), hc 7 (by omega) (by omega), hc 8 (by omega) (by omega)]
    exact y7 i hi
  · rw [hr, hc 2 (by omega) (by omega)]; exact y8 h hh
  · rw [hr, hc 3 (by omega) (by omega)]; exact y9 i hi
theorem ct_self (c : cS) {L : Nat} (T : TA c L) : ct c (c.1 11 14) (c.1 11 16) (c.1 11 17) (c.2.2.1 (c.2.1 11 11)).2.2 (c.2.2.1 (c.2.1 11 12)).2.2 (c.2.2.1 (c.2.1 11 13)).2.2 = c := by
  unfold ct
  refine Prod.ext (funext fun i => funext fun j => ?_) (Prod.ext rfl (Prod.ext (funext fun q => ?_) rfl))
  · show (if j = 14 ∧ i = 11 then _ else if j = 16 ∧ i = 11 then _ else if j = 17 ∧ i = 11 then _ else c.1 i j) = c.1 i j
    by_cases h1 : j = 14 ∧ i = 11
    · rw [if_pos h1, h1.1, h1.2]
    rw [if_neg h1]
    by_cases h2 : j = 16 ∧ i = 11
    · rw [if_pos h2, h2.1, h2.2]
    rw [if_neg h2]
    by_cases h3 : j = 17 ∧ i = 11
    · rw [if_pos h3, h3.1, h3.2]
    rw [if_neg h3]
  · show (if q = c.2.1 11 11 then _ else if q = c.2.1 11 12 then _ else if q = c.2.1 11 13 then _ else c.2.2.1 q) = c.2.2.1 q
    by_cases h1 : q = c.2.1 11 11
    · rw [if_pos h1, h1]
    rw [if_neg h1]
    by_cases h2 : q = c.2.1 11 12
    · rw [if_pos h2, h2]
    rw [if_neg h2]
    by_cases h3 : q = c.2.1 11 13
    · rw [if_pos h3, h3]
    rw [if_neg h3]
theorem WF_ct {c : cS} {L : Nat} (T : TA c L) (n fl fw : Int32) (k s v : Nat → Int32) : WF [(11, 14), (11, 16), (11, 17)] [c.2.1 11 11, c.2.1 11 12, c.2.1 11 13] c (ct c n fl fw k s v) := by
  refine ⟨fun i j h => ?_, rfl, rfl, fun q => ⟨ct_ty, ct_cl⟩, fun q h => ?_⟩
  · show (if j = 14 ∧ i = 11 then _ else if j = 16 ∧ i = 11 then _ else if j = 17 ∧ i = 11 then _ else c.1 i j) = c.1 i j
    rw [if_neg (fun hh => h (by rw [hh.1, hh.2]; decide)), if_neg (fun hh => h (by rw [hh.1, hh.2]; decide)), if_neg (fun hh => h (by rw [hh.1, hh.2]; decide))]
  · simp only [List.mem_cons, List.not_mem_nil, or_false, not_or] at h
    show (if q = c.2.1 11 11 then _ else if q = c.2.1 11 12 then _ else if q = c.2.1 11 13 then _ else c.2.2.1 q) = c.2.2.1 q
    rw [if_neg h.1, if_neg h.2.1, if_neg h.2.2]
theorem ct_arr {c : cS} {L : Nat} (T : TA c L) (n fl fw : Int32) (k s v : Nat → Int32) : ((ct c n fl fw k s v).2.2.1 (c.2.1 11 11)).2.2 = k ∧ ((ct c n fl fw k s v).2.2.1 (c.2.1 11 12)).2.2 = s ∧ ((ct c n fl fw k s v).2.2.1 (c.2.1 11 13)).2.2 = v := by
  obtain ⟨_, _, _, _, _, _, _, d1, d2, d3⟩ := T
  refine ⟨?_, ?_, ?_⟩
  · show (if c.2.1 11 11 = c.2.1 11 11 then _ else _ : Nat × Nat × (Nat → Int32)).2.2 = k
    rw [if_pos rfl]
  · show (if c.2.1 11 12 = c.2.1 11 11 then _ else if c.2.1 11 12 = c.2.1 11 12 then _ else _ : Nat × Nat × (Nat → Int32)).2.2 = s
    rw [if_neg (Ne.symm d1), if_pos rfl]
  · show (if c.2.1 11 13 = c.2.1 11 11 then _ else if c.2.1 11 13 = c.2.1 11 12 then _ else if c.2.1 11 13 = c.2.1 11 13 then _ else _ : Nat × Nat × (Nat → Int32)).2.2 = v
    rw [if_neg (Ne.symm d2), if_neg (Ne.symm d3), if_pos rfl]
section KM
variable {s0 s : cS} {k L tl Ls ln a : Nat} {B : Nat → Nat} {tb : List Sy} {base : Int32} {e ag : Bool}
theorem IMG_nx {s' : cS} {tt dd : Nat} {mt md : List Int32} (R : RSX s k L Ls) (N : NX s s') (I : IMG s tt dd mt md) : IMG s' tt dd mt md := by
  obtain ⟨n1, n2, n3, n4⟩ := N
  have SP := R.2.2.2.2.2.2.2.1
  have e161 := n3 16 1 (by omega)
  have hq := I.1
  have key : ∀ q, (q = 18 ∨ q = 20) → s.2.1 16 1 = q → IMG s' tt dd mt md := by
    intro q hq hs
    have e4 : s'.2.1 q 4 = s.2.1 q 4 := n3 q 4 (by omega)
    have hOW : (q, 4) ∈ OW := by rcases hq with rfl | rfl <;> decide
    have hne : ∀ j, (11, j) ∈ OW → ¬ s.2.1 q 4 = s.2.1 11 j := by
      intro j hj hh
      have := SP.1 (q, 4) hOW (11, j) hj hh
      have := congrArg Prod.fst this
      simp only at this
      omega
    have ec := n4 (s.2.1 q 4) (SP.2 (q, 4) hOW) (hne 11 (by decide)) (hne 12 (by decide)) (hne 13 (by decide))
    have ef : ∀ j, s'.1 q j = s.1 q j := fun j => n1 q j (by unfold INX; rcases hq with rfl | rfl <;> simp)
    have I2 := I
    unfold IMG cA cl at I2 ⊢
    rw [hs] at I2
    rw [e161, hs, e4, ec, ef, ef, ef]
    exact ⟨I2.1, I2.2.1, I2.2.2.1, I2.2.2.2.1, ⟨I2.2.2.2.2.1.1, by have := I2.2.2.2.2.1.2.1; omega, I2.2.2.2.2.1.2.2⟩, I2.2.2.2.2.2⟩
  rcases hq with h | h
  · exact key 18 (Or.inl rfl) h
  · exact key 20 (Or.inr rfl) h
/-- the class between lines -/
def LG (s0 : cS) (k tl : Nat) (B : Nat → Nat) (tb : List Sy) (ln a : Nat) (base : Int32) (s : cS) : Prop := ∃ L Ls, BY s ∧ SXT s B tl ∧ SYM s B tl tb Ls ∧ s.1 17 2 = base ∧ s.1 11 6 = nn ln ∧ s.2.1 11 7 = s.2.1 0 0 ∧ s.2.1 2 1 = s.2.1 0 0 ∧ RSX s k L Ls ∧ KP s0 s ∧ s.1 11 10 + 1 = nn a
theorem lp_22 (Y : BY s) (X : SXT s B tl) (h7 : s.2.1 11 7 = s.2.1 0 0) (h1 : s.2.1 2 1 = s.2.1 0 0) (h8 : s.1 11 8 = nn tl) : ∀ (n p u : Nat), tl - p = n → p ≤ tl → n < u → f22_31 u (cg s 11 10 (nn p)) = f22_69 (cg s 11 10 (nn (zl B tl p))) := by
  obtain ⟨x1, x2, x3, x4, x5⟩ := X
  rw [h1] at x1 x2 x3 x4 x5
  intro n
  induction n with
  | zero =>
    intro p u hn hp hu
    have eu : u = (u - 1) + 1 := by omega
    have ez : zl B tl p = p := by unfold zl; exact scan_end (by omega)
    rw [eu, f22_31, show (cg s 11 10 (nn p)).1 11 8 = nn tl from h8, show (cg s 11 10 (nn p)).1 11 10 = nn p from rfl, if_pos ((nn_le (by omega) (by omega)).mpr (by omega)), ez]
  | succ n ih =>
    intro p u hn hp hu
    have eu : u = (u - 1) + 1 := by omega
    have hcB : cB (cg s 11 10 (nn p)) 0 ((cg s 11 10 (nn p)).2.1 11 7) (nn p) := by
      show cA s 0 (s.2.1 11 7) ∧ ib (nn p) (cl s (s.2.1 11 7))
      rw [h7]
      exact ⟨x1, (nn_ib (by omega)).mpr (by omega)⟩
    have hce : ce (cg s 11 10 (nn p)) ((cg s 11 10 (nn p)).2.1 11 7) (nn p) = (s.2.2.1 (s.2.1 0 0)).2.2 p := by
      show (s.2.2.1 (s.2.1 11 7)).2.2 (nn p).toNatClampNeg = _
      rw [h7, nn_tn (by omega)]
    have h10 : (s.2.2.1 (s.2.1 0 0)).2.2 p = 10 ↔ B p = 10 := by
      have e4 := x4 p (by omega)
      constructor
      · intro h; rw [← e4, h]; decide
      · intro h
        have := byte_nn (x5 p) (by rw [e4, h]; decide)
        rw [e4, h] at this
        exact this
    rw [eu, f22_31, show (cg s 11 10 (nn p)).1 11 8 = nn tl from h8, show (cg s 11 10 (nn p)).1 11 10 = nn p from rfl, if_neg (fun h => by have := (nn_le (by omega) (by omega)).mp h; omega), if_pos hcB, hce]
    by_cases c : (s.2.2.1 (s.2.1 0 0)).2.2 p = 10
    · have ez : zl B tl p = p := by
        unfold zl
        exact scan_no (by have := h10.mp c; simp [this])
      rw [if_pos c, ez]
    · have ez : zl B tl p = zl B tl (p + 1) := by
        unfold zl
        exact scan_go (by omega) (by have : ¬ B p = 10 := fun h => c (h10.mpr h); simp [this])
      rw [if_neg c, nn_add1, cg_cg, ez]
      exact ih (p + 1) (u - 1) (by omega) (by omega) (by omega)
end KM
