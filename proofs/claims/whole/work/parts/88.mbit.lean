/-! THE BITS of the instructions. -/
theorem b31 (x : Int32) : (x &&& 1) <<< ((31 : Int32) &&& 31) = x <<< ((31 : Int32) &&& 31) := by
  rw [Int32.shiftLeft_and, show (1 : Int32) <<< ((31 : Int32) &&& 31) = (-1) <<< ((31 : Int32) &&& 31) by decide, Int32.and_comm, Int32.neg_one_shiftLeft_and_shiftLeft]
theorem z7 : (0 : Int32) <<< ((7 : Int32) &&& 31) = 0 := by decide
theorem z15 : (0 : Int32) <<< ((15 : Int32) &&& 31) = 0 := by decide
theorem z20 : (0 : Int32) <<< ((20 : Int32) &&& 31) = 0 := by decide
theorem bA (c b a y d : Int32) (e : Int32 × Bool) : f143 c b a y d = sAlw (((c <<< ((25 : Int32) &&& 31)) ||| (y <<< ((12 : Int32) &&& 31))) ||| 51) (d, a, b, e) := by
  unfold f143 sAlw
  dsimp only
  generalize c <<< ((25 : Int32) &&& 31) = g0
  generalize b <<< ((20 : Int32) &&& 31) = g1
  generalize a <<< ((15 : Int32) &&& 31) = g2
  generalize y <<< ((12 : Int32) &&& 31) = g3
  generalize d <<< ((7 : Int32) &&& 31) = g4
  generalize (51 : Int32) = g5
  ac_rfl
theorem bB (k v a y d : Int32) (b : Bool) (K : Int32) : f160 (v ||| k) a y d K = sAlw (((k <<< ((20 : Int32) &&& 31)) ||| (y <<< ((12 : Int32) &&& 31))) ||| K) (d, a, 0, v, b) ||| (v <<< ((20 : Int32) &&& 31)) := by
  unfold f160 sAlw
  dsimp only
  rw [z20, Int32.shiftLeft_or, Int32.or_zero]
  generalize v <<< ((20 : Int32) &&& 31) = g0
  generalize k <<< ((20 : Int32) &&& 31) = g1
  generalize a <<< ((15 : Int32) &&& 31) = g2
  generalize y <<< ((12 : Int32) &&& 31) = g3
  generalize d <<< ((7 : Int32) &&& 31) = g4
  ac_rfl
theorem bB0 (v a y d : Int32) (b : Bool) (K : Int32) : f160 v a y d K = sAlw ((y <<< ((12 : Int32) &&& 31)) ||| K) (d, a, 0, v, b) ||| (v <<< ((20 : Int32) &&& 31)) := by
  unfold f160 sAlw
  dsimp only
  rw [z20, Int32.or_zero]
  generalize v <<< ((20 : Int32) &&& 31) = g0
  generalize a <<< ((15 : Int32) &&& 31) = g1
  generalize y <<< ((12 : Int32) &&& 31) = g2
  generalize d <<< ((7 : Int32) &&& 31) = g3
  ac_rfl
theorem bS (v a y c : Int32) (b : Bool) : (((((((v >>> ((5 : Int32) &&& 31)) <<< ((25 : Int32) &&& 31)) ||| (c <<< ((20 : Int32) &&& 31))) ||| (a <<< ((15 : Int32) &&& 31))) ||| (y <<< ((12 : Int32) &&& 31))) ||| ((v &&& (31 : Int32)) <<< ((7 : Int32) &&& 31))) ||| (35 : Int32)) = ((sAlw ((y <<< ((12 : Int32) &&& 31)) ||| 35) (0, a, c, v, b) ||| ((v >>> ((5 : Int32) &&& 31)) <<< ((25 : Int32) &&& 31))) ||| ((v &&& (31 : Int32)) <<< ((7 : Int32) &&& 31))) := by
  unfold sAlw
  dsimp only
  rw [z7, Int32.or_zero]
  generalize (v >>> ((5 : Int32) &&& 31)) <<< ((25 : Int32) &&& 31) = g0
  generalize c <<< ((20 : Int32) &&& 31) = g1
  generalize a <<< ((15 : Int32) &&& 31) = g2
  generalize y <<< ((12 : Int32) &&& 31) = g3
  generalize (v &&& (31 : Int32)) <<< ((7 : Int32) &&& 31) = g4
  generalize (35 : Int32) = g5
  ac_rfl
theorem bD (y a c v r : Int32) (b : Bool) : bBr y a c r = sAlw ((y <<< ((12 : Int32) &&& 31)) ||| 99) (0, a, c, v, b) ||| f95 r := by
  unfold bBr sAlw f95
  dsimp only
  rw [z7, Int32.or_zero, b31]
  generalize (r >>> ((12 : Int32) &&& 31)) <<< ((31 : Int32) &&& 31) = g0
  generalize ((r >>> ((5 : Int32) &&& 31)) &&& (63 : Int32)) <<< ((25 : Int32) &&& 31) = g1
  generalize c <<< ((20 : Int32) &&& 31) = g2
  generalize a <<< ((15 : Int32) &&& 31) = g3
  generalize y <<< ((12 : Int32) &&& 31) = g4
  generalize ((r >>> ((1 : Int32) &&& 31)) &&& (15 : Int32)) <<< ((8 : Int32) &&& 31) = g5
  generalize ((r >>> ((11 : Int32) &&& 31)) &&& (1 : Int32)) <<< ((7 : Int32) &&& 31) = g6
  generalize (99 : Int32) = g7
  ac_rfl
theorem bE (d v K : Int32) (b : Bool) : ((v <<< ((12 : Int32) &&& 31)) ||| (d <<< ((7 : Int32) &&& 31))) ||| K = sAlw K (d, 0, 0, v, b) ||| (v <<< ((12 : Int32) &&& 31)) := by
  unfold sAlw
  dsimp only
  rw [z15, z20, Int32.or_zero, Int32.or_zero]
  generalize v <<< ((12 : Int32) &&& 31) = g0
  generalize d <<< ((7 : Int32) &&& 31) = g1
  ac_rfl
theorem bJ (d v r : Int32) (b : Bool) : bJp d r = sAlw 111 (d, 0, 0, v, b) ||| f96 r := by
  unfold bJp sAlw f96
  dsimp only
  rw [z15, z20, Int32.or_zero, Int32.or_zero, b31]
  generalize (r >>> ((20 : Int32) &&& 31)) <<< ((31 : Int32) &&& 31) = g0
  generalize ((r >>> ((1 : Int32) &&& 31)) &&& (1023 : Int32)) <<< ((21 : Int32) &&& 31) = g1
  generalize ((r >>> ((11 : Int32) &&& 31)) &&& (1 : Int32)) <<< ((20 : Int32) &&& 31) = g2
  generalize ((r >>> ((12 : Int32) &&& 31)) &&& (255 : Int32)) <<< ((12 : Int32) &&& 31) = g3
  generalize d <<< ((7 : Int32) &&& 31) = g4
  generalize (111 : Int32) = g5
  ac_rfl
theorem par1 (x : Int32) : x &&& 1 = 0 ↔ x.toInt % 2 = 0 := by
  have e : x &&& 1 = 0 ↔ x.toBitVec.toNat % 2 = 0 := by
    rw [← Int32.toBitVec_inj, Int32.toBitVec_and]
    show x.toBitVec &&& 1#32 = 0#32 ↔ _
    rw [← BitVec.toNat_inj, BitVec.toNat_and]
    show x.toBitVec.toNat &&& (2 ^ 1 - 1) = 0 ↔ _
    rw [Nat.and_two_pow_sub_one_eq_mod]
  rw [e]
  have h : x.toInt = if 2 * x.toBitVec.toNat < 2 ^ 32 then (x.toBitVec.toNat : Int) else (x.toBitVec.toNat : Int) - (2 ^ 32 : Nat) := BitVec.toInt_eq_toNat_cond x.toBitVec
  split at h <;> omega
theorem par2 (x : Int32) : x - x / 2 * 2 = 0 ↔ x.toInt % 2 = 0 := by
  have hl := Int32.minValue_le_toInt x
  have hu := Int32.toInt_le x
  have e2 : (2 : Int32).toInt = 2 := rfl
  have emn : Int32.minValue.toInt = -2147483648 := rfl
  have emx : Int32.maxValue.toInt = 2147483647 := rfl
  rw [emn] at hl
  rw [emx] at hu
  have hd : (x / 2).toInt = x.toInt.tdiv 2 := Int32.toInt_div_of_ne_right x 2 (by decide)
  have key : (x - x / 2 * 2).toInt = x.toInt - x.toInt.tdiv 2 * 2 := by
    rw [Int32.toInt_sub, Int32.toInt_mul, hd, e2]
    by_cases c : 0 ≤ x.toInt
    · have := Int.tdiv_eq_ediv_of_nonneg (b := 2) c
      rw [this]
      simp only [Int.bmod]
      omega
    · have h9 : x.toInt.tdiv 2 = -((-x.toInt) / 2) := by
        have h1 := Int.neg_tdiv (-x.toInt) 2
        rw [Int.neg_neg] at h1
        rw [h1, Int.tdiv_eq_ediv_of_nonneg (by omega)]
      rw [h9]
      simp only [Int.bmod]
      omega
  have e0 : x - x / 2 * 2 = 0 ↔ (x - x / 2 * 2).toInt = 0 := by
    rw [← Int32.toInt_inj]
    exact Iff.rfl
  rw [e0, key]
  by_cases c : 0 ≤ x.toInt
  · rw [Int.tdiv_eq_ediv_of_nonneg (b := 2) c]; omega
  · have h9 : x.toInt.tdiv 2 = -((-x.toInt) / 2) := by
      have h1 := Int.neg_tdiv (-x.toInt) 2
      rw [Int.neg_neg] at h1
      rw [h1, Int.tdiv_eq_ediv_of_nonneg (by omega)]
    rw [h9]; omega
theorem far_b (v h : Int32) : far v h (-4096) 4094 ↔ (¬ (v - h) &&& 1 = 0 ∨ v - h < -4096 ∨ (4096 : Int32) ≤ v - h) := by
  unfold far
  generalize v - h = x
  rw [par1, par2]
  have e1 : (x < -4096) ↔ x.toInt < -4096 := Int32.lt_iff_toInt_lt
  have e2 : ((4094 : Int32) < x) ↔ 4094 < x.toInt := Int32.lt_iff_toInt_lt
  have e3 : ((4096 : Int32) ≤ x) ↔ 4096 ≤ x.toInt := Int32.le_iff_toInt_le
  rw [e1, e2, e3]
  omega
theorem far_j (v h : Int32) : far v h (-1048576) 1048574 ↔ (¬ (v - h) &&& 1 = 0 ∨ v - h < -1048576 ∨ (1048576 : Int32) ≤ v - h) := by
  unfold far
  generalize v - h = x
  rw [par1, par2]
  have e1 : (x < -1048576) ↔ x.toInt < -1048576 := Int32.lt_iff_toInt_lt
  have e2 : ((1048574 : Int32) < x) ↔ 1048574 < x.toInt := Int32.lt_iff_toInt_lt
  have e3 : ((1048576 : Int32) ≤ x) ↔ 1048576 ≤ x.toInt := Int32.le_iff_toInt_le
  rw [e1, e2, e3]
  omega
/-! the tables of both programs -/
theorem tA : ∀ j, j < 83 → mw j < 18 → sFrm j = 7 ∧ pat (sPat j) = [100, 44, 97, 44, 98] ∧ sCod j = (((if mw j = 1 ∨ mw j = 7 then 32 else if mw j ≤ 9 then 0 else 1 : Int32) <<< ((25 : Int32) &&& 31)) ||| (mm_prt (mw j) <<< ((12 : Int32) &&& 31))) ||| 51 := by decide +kernel
theorem tB : ∀ j, j < 83 → 18 ≤ mw j → mw j < 27 → sFrm j = (if 24 ≤ mw j then 9 else 8) ∧ pat (sPat j) = [100, 44, 97, 44, 101] ∧ sCod j = (((if mw j = 26 then 1024 else 0 : Int32) <<< ((20 : Int32) &&& 31)) ||| (mm_prt (mw j) <<< ((12 : Int32) &&& 31))) ||| 19 := by decide +kernel
theorem tC : ∀ j, j < 83 → 27 ≤ mw j → mw j < 32 → sFrm j = 8 ∧ pat (sPat j) = [100, 44, 101, 40, 97, 41] ∧ sCod j = (mm_prt (mw j) <<< ((12 : Int32) &&& 31)) ||| 3 := by decide +kernel
theorem tS : ∀ j, j < 83 → 32 ≤ mw j → mw j < 35 → sFrm j = 10 ∧ pat (sPat j) = [98, 44, 101, 40, 97, 41] ∧ sCod j = (mm_prt (mw j) <<< ((12 : Int32) &&& 31)) ||| 35 := by decide +kernel
theorem tD : ∀ j, j < 83 → 35 ≤ mw j → mw j < 51 → sFrm j = 11 ∧ pat (sPat j) = (if mw j < 41 then [97, 44, 98, 44, 101] else if mw j < 45 then [98, 44, 97, 44, 101] else if mw j < 49 then [97, 44, 101] else [98, 44, 101]) ∧ sCod j = (mm_prt (mw j) <<< ((12 : Int32) &&& 31)) ||| 99 := by decide +kernel
theorem tE : ∀ j, j < 83 → 51 ≤ mw j → mw j < 53 → sFrm j = 12 ∧ pat (sPat j) = [100, 44, 101] ∧ sCod j = (if mw j = 51 then 55 else 23) := by decide +kernel
theorem tJ : mw 39 = 53 ∧ sFrm 39 = 13 ∧ pat (sPat 39) = [100, 44, 101] ∧ sCod 39 = 111 ∧ mw 40 = 54 ∧ sFrm 40 = 8 ∧ pat (sPat 40) = [100, 44, 101, 40, 97, 41] ∧ sCod 40 = 103 ∧ pat 6 = [101] ∧ pat 7 = [97] := by decide +kernel
theorem tF : ∀ j, j < 83 → 55 ≤ mw j → mw j < 60 → sFrm j = 7 ∧ pat (sPat j) = [] ∧ sCod j = (if mw j = 55 then 15 else if mw j = 56 then 115 else if mw j = 57 then 1048691 else if mw j = 58 then 19 else f160 0 1 0 0 103) := by decide +kernel
theorem tG : ∀ j, j < 83 → 60 ≤ mw j → mw j < 67 → sFrm j = 7 ∧ pat (sPat j) = (if mw j = 60 ∨ mw j = 61 ∨ mw j = 63 ∨ mw j = 65 then [100, 44, 97] else [100, 44, 98]) ∧ sCod j = (if mw j = 60 then 19 else if mw j = 61 then f160 (-1) 0 4 0 19 else if mw j = 62 then f143 32 0 0 0 0 else if mw j = 63 then f160 1 0 3 0 19 else if mw j = 64 then f143 0 0 0 3 0 else f143 0 0 0 2 0) := by decide +kernel
theorem tH : ∀ j, j < 83 → 67 ≤ mw j → mw j < 69 → sFrm j = 13 ∧ pat (sPat j) = [101] ∧ sCod j = (((nn (mw j) - 67) <<< ((7 : Int32) &&& 31)) ||| 111) := by decide +kernel
theorem tI : ∀ j, j < 83 → mw j = 69 → sFrm j = 7 ∧ pat (sPat j) = [97] ∧ sCod j = 103 := by decide +kernel
theorem tL : ∀ j, j < 83 → mw j = 70 → sFrm j = 14 ∧ pat (sPat j) = [100, 44, 101] := by decide +kernel
theorem tM : ∀ j, j < 83 → mw j = 71 → sFrm j = 15 ∧ pat (sPat j) = [100, 44, 101] := by decide +kernel
theorem tK : sCod 48 = 55 ∧ sCod 12 = 19 := by decide +kernel
theorem tN : ∀ j, j < 83 → (mw j = 53 ↔ j = 39) ∧ (mw j = 54 ↔ j = 40) := by decide +kernel
theorem tV : ∀ j, j < 83 → mw j < 72 → 7 ≤ sFrm j ∧ ¬ sFrm j = 2 ∧ ¬ sFrm j = 3 ∧ ¬ sFrm j = 6 ∧ ¬ sFrm j = 4 ∧ ¬ sFrm j = 5 ∧ ¬ sFrm j = 1 := by decide +kernel
