/-! LAYER 3. Small numbers: a place in a text is nn n, n a Nat. -/
abbrev nn (n : Nat) : Int32 := Int32.ofNat n
theorem nn_int {n : Nat} (h : n < 2147483648) : (nn n).toInt = n := Int32.toInt_ofNat_of_lt h
theorem nn_add (a b : Nat) : nn a + nn b = nn (a + b) := (Int32.ofNat_add a b).symm
theorem nn_add1 (a : Nat) : nn a + 1 = nn (a + 1) := nn_add a 1
theorem nn_add2 (a : Nat) : nn a + 2 = nn (a + 2) := nn_add a 2
theorem nn_lt {a b : Nat} (ha : a < 2147483648) (hb : b < 2147483648) : (nn a < nn b) ↔ a < b := by
  rw [Int32.lt_iff_toInt_lt, nn_int ha, nn_int hb]; omega
theorem nn_le {a b : Nat} (ha : a < 2147483648) (hb : b < 2147483648) : (nn a ≤ nn b) ↔ a ≤ b := by
  rw [Int32.le_iff_toInt_le, nn_int ha, nn_int hb]; omega
theorem nn_eq {a b : Nat} (ha : a < 2147483648) (hb : b < 2147483648) : (nn a = nn b) ↔ a = b := by
  constructor
  · intro h
    have := congrArg Int32.toInt h
    rw [nn_int ha, nn_int hb] at this
    omega
  · intro h; rw [h]
theorem nn_tn {a : Nat} (ha : a < 2147483648) : (nn a).toNatClampNeg = a := by
  show (nn a).toInt.toNat = a
  rw [nn_int ha]; omega
theorem nn_sub {a b : Nat} (h : b ≤ a) : nn a - nn b = nn (a - b) := by
  have : nn a = nn (a - b) + nn b := by rw [nn_add, Nat.sub_add_cancel h]
  rw [this, Int32.add_sub_cancel]
theorem nn_neg {a : Nat} (ha : a < 2147483648) : ¬ nn a < 0 := by
  have : (0 : Int32) = nn 0 := rfl
  rw [this, nn_lt ha (by omega)]; omega
theorem nn_pos {a : Nat} (ha : a < 2147483648) : 0 ≤ nn a := by
  have : (0 : Int32) = nn 0 := rfl
  rw [this, nn_le (by omega) ha]; omega
theorem nn_ib {a m : Nat} (ha : a < 2147483648) : ib (nn a) m ↔ a < m := by
  unfold ib
  rw [nn_tn ha]
  have := nn_neg ha
  constructor
  · intro h; refine Nat.lt_of_not_le (fun hh => h (Or.inr hh))
  · intro h hh; rcases hh with hh | hh
    · exact this hh
    · omega
theorem nn_m1 {a : Nat} (ha : a < 2147483648) : ¬ nn a = -1 := by
  intro h
  have := congrArg Int32.toInt h
  rw [nn_int ha] at this
  have e : (-1 : Int32).toInt = -1 := rfl
  omega
/-- a byte's number -/
def b8 (x : Int32) : Nat := (x.toBitVec &&& 255#32).toNat
theorem b8_lt (x : Int32) : b8 x < 256 := by
  unfold b8
  rw [BitVec.toNat_and]
  have : (255#32 : BitVec 32).toNat = 255 := rfl
  rw [this]
  have := @Nat.and_le_right x.toBitVec.toNat 255
  omega
theorem and255 (x : Int32) : x &&& 255 = nn (b8 x) := by
  unfold b8
  show _ = Int32.ofNat _
  apply Int32.toBitVec_inj.mp
  rw [Int32.toBitVec_and]
  show x.toBitVec &&& 255#32 = BitVec.ofNat 32 _
  rw [BitVec.ofNat_toNat, BitVec.setWidth_eq]
/-- the first place from p on, before z, where P fails -/
def scanF (P : Nat → Bool) : Nat → Nat → Nat
  | 0, p => p
  | u + 1, p => if P p = true then scanF P u (p + 1) else p
def scan (P : Nat → Bool) (z p : Nat) : Nat := scanF P (z - p) p
theorem scan_go {P : Nat → Bool} {z p : Nat} (h : p < z) (hp : P p = true) : scan P z p = scan P z (p + 1) := by
  unfold scan
  have : z - p = (z - (p + 1)) + 1 := by omega
  rw [this, scanF, if_pos hp]
theorem scan_end {P : Nat → Bool} {z p : Nat} (h : z ≤ p) : scan P z p = p := by
  unfold scan
  have : z - p = 0 := by omega
  rw [this]; rfl
theorem scan_no {P : Nat → Bool} {z p : Nat} (hp : ¬ P p = true) : scan P z p = p := by
  unfold scan
  cases h : z - p with
  | zero => rfl
  | succ u => rw [scanF, if_neg hp]
theorem scan_ge (P : Nat → Bool) (z : Nat) : ∀ p, p ≤ scan P z p := by
  have : ∀ u p, p ≤ scanF P u p := by
    intro u
    induction u with
    | zero => intro p; exact Nat.le_refl _
    | succ u ih =>
      intro p
      rw [scanF]
      by_cases h : P p = true
      · rw [if_pos h]; have := ih (p + 1); omega
      · rw [if_neg h]; exact Nat.le_refl _
  intro p; exact this _ _
theorem scan_le {P : Nat → Bool} {z : Nat} : ∀ {p}, p ≤ z → scan P z p ≤ z := by
  have : ∀ u p, scanF P u p ≤ p + u := by
    intro u
    induction u with
    | zero => intro p; exact Nat.le_refl _
    | succ u ih =>
      intro p
      rw [scanF]
      by_cases h : P p = true
      · rw [if_pos h]; have := ih (p + 1); omega
      · rw [if_neg h]; omega
  intro p hp
  have := this (z - p) p
  unfold scan
  omega
theorem scan_in {P : Nat → Bool} {z : Nat} : ∀ {p i}, p ≤ i → i < scan P z p → P i = true := by
  have : ∀ u p i, p ≤ i → i < scanF P u p → P i = true := by
    intro u
    induction u with
    | zero => intro p i h1 h2; rw [scanF] at h2; omega
    | succ u ih =>
      intro p i h1 h2
      rw [scanF] at h2
      by_cases h : P p = true
      · rw [if_pos h] at h2
        by_cases e : i = p
        · rw [e]; exact h
        · exact ih (p + 1) i (by omega) h2
      · rw [if_neg h] at h2; omega
  intro p i; exact this _ _ _
theorem scan_at {P : Nat → Bool} {z p : Nat} (hp : p ≤ z) (h : scan P z p < z) : P (scan P z p) = false := by
  have : ∀ u p, p + u = z → scanF P u p < z → P (scanF P u p) = false := by
    intro u
    induction u with
    | zero => intro p h1 h2; rw [scanF] at h2; omega
    | succ u ih =>
      intro p h1 h2
      rw [scanF] at h2 ⊢
      by_cases h : P p = true
      · rw [if_pos h] at h2 ⊢
        exact ih (p + 1) (by omega) h2
      · rw [if_neg h]; simpa using h
  exact this _ _ (by omega) h
