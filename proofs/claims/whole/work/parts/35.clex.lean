/-! THE CLASS's tokens: ct c with the fields that splitting a line writes. -/
def ct (c : cS) (n fl fw : Int32) (k s v : Nat → Int32) : cS :=
  (fun i j => if j = 14 ∧ i = 11 then n else if j = 16 ∧ i = 11 then fl else if j = 17 ∧ i = 11 then fw else c.1 i j, c.2.1,
   fun q => if q = c.2.1 11 11 then ((c.2.2.1 q).1, (c.2.2.1 q).2.1, k) else if q = c.2.1 11 12 then ((c.2.2.1 q).1, (c.2.2.1 q).2.1, s) else if q = c.2.1 11 13 then ((c.2.2.1 q).1, (c.2.2.1 q).2.1, v) else c.2.2.1 q, c.2.2.2)
/-- the token arrays: of one length, apart from each other -/
def TA (c : cS) (L : Nat) : Prop := cA c 1 (c.2.1 11 11) ∧ cA c 1 (c.2.1 11 12) ∧ cA c 1 (c.2.1 11 13) ∧ cl c (c.2.1 11 11) = L ∧ cl c (c.2.1 11 12) = L ∧ cl c (c.2.1 11 13) = L ∧ L < 1000000 ∧ ¬ c.2.1 11 11 = c.2.1 11 12 ∧ ¬ c.2.1 11 11 = c.2.1 11 13 ∧ ¬ c.2.1 11 12 = c.2.1 11 13
/-- the line of the text that the class reads: from a to z -/
def TC (c : cS) (B : Nat → Nat) (a z : Nat) : Prop := c.1 11 9 = nn a ∧ c.1 11 10 = nn z ∧ a ≤ z ∧ z ≤ cl c (c.2.1 11 7) ∧ cl c (c.2.1 11 7) ≤ 65536 ∧ cA c 0 (c.2.1 11 7) ∧ (∀ i, B i < 256) ∧ ∀ i, i < z → b8 ((c.2.2.1 (c.2.1 11 7)).2.2 i) = B i
section CT
variable {c : cS} {n fl fw x : Int32} {k s v : Nat → Int32} {B : Nat → Nat} {a z p L t q : Nat}
theorem ct_ty : ((ct c n fl fw k s v).2.2.1 q).1 = (c.2.2.1 q).1 := by
  unfold ct
  by_cases h1 : q = c.2.1 11 11
  · simp [h1]
  by_cases h2 : q = c.2.1 11 12
  · by_cases h4 : c.2.1 11 12 = c.2.1 11 11 <;> simp [h2, h4]
  by_cases h3 : q = c.2.1 11 13
  · simp [h1, h2, if_pos h3]
  simp [h1, h2, h3]
theorem ct_cl : cl (ct c n fl fw k s v) q = cl c q := by
  unfold cl ct
  by_cases h1 : q = c.2.1 11 11
  · simp [h1]
  by_cases h2 : q = c.2.1 11 12
  · by_cases h4 : c.2.1 11 12 = c.2.1 11 11 <;> simp [h2, h4]
  by_cases h3 : q = c.2.1 11 13
  · simp [h1, h2, if_pos h3]
  simp [h1, h2, h3]
theorem ct_R : (ct c n fl fw k s v).2.1 = c.2.1 := rfl
theorem ct_cA (h : cA c t q) : cA (ct c n fl fw k s v) t q := ⟨h.1, h.2.1, by rw [ct_ty]; exact h.2.2⟩
theorem ct_n : (ct c n fl fw k s v).1 11 14 = n := rfl
theorem ct_fl : (ct c n fl fw k s v).1 11 16 = fl := rfl
theorem ct_fw : (ct c n fl fw k s v).1 11 17 = fw := rfl
theorem ct_9 : (ct c n fl fw k s v).1 11 9 = c.1 11 9 := rfl
theorem ct_10 : (ct c n fl fw k s v).1 11 10 = c.1 11 10 := rfl
theorem ct_14 : cg (ct c n fl fw k s v) 11 14 x = ct c x fl fw k s v := by
  refine Prod.ext (funext fun i => funext fun j => ?_) rfl
  show (if j = 14 ∧ i = 11 then x else (ct c n fl fw k s v).1 i j) = _
  unfold ct
  by_cases h : j = 14 ∧ i = 11 <;> simp [h]
theorem ct_16 : cg (ct c n fl fw k s v) 11 16 x = ct c n x fw k s v := by
  refine Prod.ext (funext fun i => funext fun j => ?_) rfl
  show (if j = 16 ∧ i = 11 then x else (ct c n fl fw k s v).1 i j) = _
  unfold ct
  by_cases h : j = 16 ∧ i = 11 <;> simp [h]
theorem ct_17 : cg (ct c n fl fw k s v) 11 17 x = ct c n fl x k s v := by
  refine Prod.ext (funext fun i => funext fun j => ?_) rfl
  show (if j = 17 ∧ i = 11 then x else (ct c n fl fw k s v).1 i j) = _
  unfold ct
  by_cases h : j = 17 ∧ i = 11 <;> simp [h]
theorem ct_K {j : Int32} : cw (ct c n fl fw k s v) (c.2.1 11 11) j x = ct c n fl fw (upd k j.toNatClampNeg x) s v := by
  unfold cw ca ct
  refine Prod.ext rfl (Prod.ext rfl (Prod.ext (funext fun q => ?_) rfl))
  by_cases h : q = c.2.1 11 11 <;> simp [h]
theorem ct_S {j : Int32} (T : TA c L) : cw (ct c n fl fw k s v) (c.2.1 11 12) j x = ct c n fl fw k (upd s j.toNatClampNeg x) v := by
  have h1 := T.2.2.2.2.2.2.2.1
  unfold cw ca ct
  refine Prod.ext rfl (Prod.ext rfl (Prod.ext (funext fun q => ?_) rfl))
  by_cases h : q = c.2.1 11 12
  · simp [h, Ne.symm h1]
  · simp [h]
theorem ct_V {j : Int32} (T : TA c L) : cw (ct c n fl fw k s v) (c.2.1 11 13) j x = ct c n fl fw k s (upd v j.toNatClampNeg x) := by
  have h1 := T.2.2.2.2.2.2.2.2.1
  have h2 := T.2.2.2.2.2.2.2.2.2
  unfold cw ca ct
  refine Prod.ext rfl (Prod.ext rfl (Prod.ext (funext fun q => ?_) rfl))
  by_cases h : q = c.2.1 11 13
  · simp [h, Ne.symm h1, Ne.symm h2]
  · simp [h]
theorem ct_txt (TT : TA c L) (h : cA c 0 (c.2.1 11 7)) : (ct c n fl fw k s v).2.2.1 (c.2.1 11 7) = c.2.2.1 (c.2.1 11 7) := by
  have h0 := h.2.2
  have h1 : ¬ c.2.1 11 7 = c.2.1 11 11 := fun e => by have := TT.1.2.2; rw [← e, h0] at this; omega
  have h2 : ¬ c.2.1 11 7 = c.2.1 11 12 := fun e => by have := TT.2.1.2.2; rw [← e, h0] at this; omega
  have h3 : ¬ c.2.1 11 7 = c.2.1 11 13 := fun e => by have := TT.2.2.1.2.2; rw [← e, h0] at this; omega
  show (if c.2.1 11 7 = c.2.1 11 11 then _ else _) = _
  rw [if_neg h1, if_neg h2, if_neg h3]
theorem ct_TC (TT : TA c L) (T : TC c B a z) : TC (ct c n fl fw k s v) B a z := by
  obtain ⟨h1, h2, h3, h4, h5, h6, h7, h8⟩ := T
  refine ⟨h1, h2, h3, ?_, ?_, ct_cA h6, h7, ?_⟩
  · rw [ct_R, ct_cl]; exact h4
  · rw [ct_R, ct_cl]; exact h5
  · intro i hi
    rw [ct_R, ct_txt TT h6]
    exact h8 i hi
/-- one more token -/
theorem c_add {j : Nat} (TT : TA c L) (hj : j < L) (x1 x2 x3 : Int32) : f30 (ct c (nn j) fl fw k s v) x1 x2 x3 = some (ct c (nn (j + 1)) fl fw (upd k j x1) (upd s j x2) (upd v j x3)) := by
  obtain ⟨a1, a2, a3, l1, l2, l3, hL, n1, n2, n3⟩ := TT
  have TT : TA c L := ⟨a1, a2, a3, l1, l2, l3, hL, n1, n2, n3⟩
  unfold f30
  rw [ct_R, ct_n, if_pos (ct_cA a1), if_neg (fun hh => by rw [ct_cl, l1] at hh; have := (nn_le (by omega) (by omega)).mp hh; omega), if_pos ⟨ct_cA a1, by rw [ct_cl, l1]; exact (nn_ib (by omega)).mpr hj⟩]
  rw [ct_K, if_pos ⟨ct_cA a2, by rw [ct_cl, l2]; exact (nn_ib (by omega)).mpr hj⟩, ct_S TT, if_pos ⟨ct_cA a3, by rw [ct_cl, l3]; exact (nn_ib (by omega)).mpr hj⟩, ct_V TT, ct_14, nn_tn (by omega), nn_add1]
theorem c_spoil {j : Nat} (hj : 0 < j) : f31 (ct c (nn j) fl fw k s v) x = ct c (nn j) (nn (j - 1)) x k s v := by
  unfold f31
  have e1 : (1 : Int32) = nn 1 := rfl
  rw [ct_n, ct_16, ct_17, e1, nn_sub hj]
/-- a byte of the line, -1 beyond it -/
def gc (B : Nat → Nat) (z p : Nat) : Int32 := if p < z then nn (B p) else -1
theorem c_byte (T : TC c B a z) (ha : a ≤ p) (hp : p < 1000000) : f25 c (nn p) = some (gc B z p) := by
  obtain ⟨h1, h2, h3, h4, h5, h6, h7, h8⟩ := T
  unfold f25 gc
  rw [h1, h2, if_neg (fun hh => by have := (nn_lt (by omega) (by omega)).mp hh; omega)]
  by_cases h : p < z
  · rw [if_neg (fun hh => by have := (nn_le (by omega) (by omega)).mp hh; omega), if_pos h6, if_neg (fun hh => by have := (nn_le (by omega) (by omega)).mp hh; omega), if_pos ⟨h6, (nn_ib (by omega)).mpr (by omega)⟩, if_pos h]
    unfold ce
    rw [nn_tn (by omega), and255, h8 p h]
  · rw [if_pos ((nn_le (by omega) (by omega)).mpr (by omega)), if_neg h]
theorem gc_q {α : Type} {k2 : Nat} {A C : α} (hB : ∀ i, B i < 256) (hx : nn k2 = x) (h0 : 0 < k2) (hk : k2 < 256) : (if gc B z p = x then A else C) = if gb B z p = k2 then A else C := by
  unfold gc gb
  by_cases h : p < z
  · rw [if_pos h, if_pos h]; exact q_eq hx (hB p) hk
  · rw [if_neg h, if_neg h, if_neg (by subst hx; exact fun hh => nn_m1 (by omega) hh.symm), if_neg (by omega)]
theorem gc_lt {α : Type} {k2 : Nat} {A C : α} (hB : ∀ i, B i < 256) (hx : nn k2 = x) (h0 : 0 < k2) (hk : k2 < 256) : (if gc B z p < x then A else C) = if gb B z p < k2 then A else C := by
  unfold gc gb
  by_cases h : p < z
  · rw [if_pos h, if_pos h]; exact q_lt hx (hB p) hk
  · rw [if_neg h, if_neg h, if_pos h0]
    subst hx
    rw [if_pos]
    rw [Int32.lt_iff_toInt_lt, nn_int (by omega)]
    have : (-1 : Int32).toInt = -1 := rfl
    omega
theorem gc_gt {α : Type} {k2 : Nat} {A C : α} (hB : ∀ i, B i < 256) (hx : nn k2 = x) (hk : k2 < 256) : (if x < gc B z p then A else C) = if k2 < gb B z p then A else C := by
  unfold gc gb
  by_cases h : p < z
  · rw [if_pos h, if_pos h]; exact q_gt hx (hB p) hk
  · subst hx
    have e : ¬ nn k2 < -1 := by
      rw [Int32.lt_iff_toInt_lt, nn_int (by omega)]
      have : (-1 : Int32).toInt = -1 := rfl
      omega
    rw [if_neg h, if_neg h, if_neg e, if_neg (show ¬ k2 < 0 by omega)]
theorem gc_name (hB : ∀ i, B i < 256) : f27 (gc B z p) = if isN (gb B z p) = true then 1 else 0 := by
  unfold gc gb
  by_cases h : p < z
  · rw [if_pos h, if_pos h]; exact cc_name (hB p)
  · rw [if_neg h, if_neg h]; decide
theorem gc_digit (hB : ∀ i, B i < 256) : f28 (gc B z p) = if isD (gb B z p) = true then 1 else 0 := by
  unfold gc gb
  by_cases h : p < z
  · rw [if_pos h, if_pos h]; exact cc_digit (hB p)
  · rw [if_neg h, if_neg h]; decide
theorem gc_hex (hB : ∀ i, B i < 256) : f33 (gc B z p) = if isH (gb B z p) = true then nn (hxd (gb B z p)) else -1 := by
  unfold gc gb
  by_cases h : p < z
  · rw [if_pos h, if_pos h]; exact cc_hex (hB p)
  · rw [if_neg h, if_neg h]; decide
theorem gc_esc (hB : ∀ i, B i < 256) : f37 (gc B z p) = if esc (gb B z p) = 999 then -1 else nn (esc (gb B z p)) := by
  unfold gc gb
  by_cases h : p < z
  · rw [if_pos h, if_pos h]; exact cc_esc (hB p)
  · rw [if_neg h, if_neg h]; decide
theorem c_mean (T : TC c B a z) (ha : a ≤ p) (hp : p < 900000) {g : Nat} (hg0 : 0 < g) (hg : g < 256) : f36 c (nn p) (nn g) = some (if mean B z g p = 999 then -1 else nn (mean B z g p)) := by
  have hB := T.2.2.2.2.2.2.1
  unfold f36 mean
  rw [c_byte T ha (by omega), Option.bind_some, gc_q (x := 92) (k2 := 92) hB rfl (by decide) (by decide)]
  by_cases h1 : gb B z p = 92
  · rw [if_pos h1, if_pos h1, nn_add1, c_byte T (by omega) (by omega), Option.bind_some, gc_esc hB]
  · rw [if_neg h1, if_neg h1, gc_lt (x := 32) (k2 := 32) hB rfl (by decide) (by decide), gc_gt (x := 126) (k2 := 126) hB rfl (by decide), gc_q (x := nn g) (k2 := g) hB rfl hg0 hg]
    by_cases a1 : gb B z p < 32
    · rw [if_pos a1, if_neg (show ¬ (32 ≤ gb B z p ∧ gb B z p ≤ 126 ∧ ¬ gb B z p = g) by omega), if_pos rfl]
    rw [if_neg a1]
    by_cases a2 : 126 < gb B z p
    · rw [if_pos a2, if_neg (show ¬ (32 ≤ gb B z p ∧ gb B z p ≤ 126 ∧ ¬ gb B z p = g) by omega), if_pos rfl]
    rw [if_neg a2]
    by_cases a3 : gb B z p = g
    · rw [if_pos a3, if_neg (show ¬ (32 ≤ gb B z p ∧ gb B z p ≤ 126 ∧ ¬ gb B z p = g) by omega), if_pos rfl]
    rw [if_neg a3, if_pos (show (32 ≤ gb B z p ∧ gb B z p ≤ 126 ∧ ¬ gb B z p = g) from ⟨by omega, by omega, a3⟩), if_neg (by omega)]
    have hpz : p < z := Nat.lt_of_not_le (fun hh => by rw [gb_out hh] at a1; omega)
    unfold gc gb
    rw [if_pos hpz, if_pos hpz]
theorem c_wid (T : TC c B a z) (ha : a ≤ p) (hp : p < 900000) : f38 c (nn p) = some (nn (wid B z p)) := by
  have hB := T.2.2.2.2.2.2.1
  unfold f38 wid
  rw [c_byte T ha (by omega), Option.bind_some, gc_q (x := 92) (k2 := 92) hB rfl (by decide) (by decide)]
  by_cases h1 : gb B z p = 92
  · rw [if_pos h1, if_pos h1]; rfl
  · rw [if_neg h1, if_neg h1]; rfl
end CT
theorem dec_step {b : Nat} (h : isD b = true) : nn b - 48 = nn (hxd b) := by
  unfold isD at h
  simp only [decide_eq_true_eq] at h
  have e : (48 : Int32) = nn 48 := rfl
  unfold hxd
  rw [if_pos h, e, nn_sub h.1]
theorem hex_step (v : Int32) {d : Nat} (h : d < 16) : (v <<< ((4 : Int32) &&& 31)) ||| nn d = v * 16 + nn d := by
  apply Int32.toBitVec_inj.mp
  rw [Int32.toBitVec_or, Int32.toBitVec_add, Int32.toBitVec_mul, Int32.toBitVec_shiftLeft]
  have e1 : ((4 : Int32) &&& 31).toBitVec.smod 32 = 4#32 := by decide
  have e2 : (16 : Int32).toBitVec = 16#32 := rfl
  have e3 : (nn d).toBitVec = BitVec.ofNat 32 d := rfl
  rw [e1, e2, e3]
  generalize v.toBitVec = x
  have e4 : x <<< (4#32 : BitVec 32) = x * 16#32 := by
    rw [BitVec.shiftLeft_eq']
    show x <<< 4 = _
    rw [BitVec.shiftLeft_eq_mul_twoPow]
    rfl
  rw [e4, ← e4, BitVec.add_eq_or_of_and_eq_zero]
  rw [BitVec.shiftLeft_eq']
  show x <<< 4 &&& BitVec.ofNat 32 d = 0#32
  apply BitVec.eq_of_getLsbD_eq
  intro i hi
  simp only [BitVec.getLsbD_and, BitVec.getLsbD_shiftLeft, BitVec.getLsbD_ofNat, BitVec.getLsbD_zero]
  by_cases h4 : i < 4
  · simp [h4]
  · have : d.testBit i = false := Nat.testBit_lt_two_pow (by
      have : 2 ^ 4 ≤ 2 ^ i := Nat.pow_le_pow_right (by decide) (by omega)
      omega)
    simp [this]
