/-! THE STATEMENTS by their names. -/
def spl9 (j : Nat) : List Nat := sn (en (400 + j)).1
def bsr (w : List Nat) : Nat → Nat → Nat → Option Nat
  | 0, _, _ => none
  | u + 1, lo, h1 => if h1 ≤ lo then none else if lcmp w (spl9 ((lo + (h1 - 1)) / 2)) = 0 then some ((lo + (h1 - 1)) / 2) else if 0 ≤ lcmp w (spl9 ((lo + (h1 - 1)) / 2)) then bsr w u ((lo + (h1 - 1)) / 2 + 1) h1 else bsr w u lo ((lo + (h1 - 1)) / 2)
theorem bsr_fuel {w : List Nat} : ∀ (u u2 lo h1 : Nat), h1 - lo < u → h1 - lo < u2 → bsr w u lo h1 = bsr w u2 lo h1 := by
  intro u
  induction u with
  | zero => intro u2 lo h1 h; omega
  | succ u ih =>
    intro u2 lo h1 h h2
    cases u2 with
    | zero => omega
    | succ u2 =>
      rw [bsr, bsr]
      by_cases hle : h1 ≤ lo
      · rw [if_pos hle, if_pos hle]
      · rw [if_neg hle, if_neg hle, ih u2 _ _ (by omega) (by omega), ih u2 _ _ (by omega) (by omega)]
theorem bsr_ok {w : List Nat} : ∀ (u lo h1 j : Nat), bsr w u lo h1 = some j → w = spl9 j ∧ j < h1 := by
  intro u
  induction u with
  | zero => intro lo h1 j h; cases h
  | succ u ih =>
    intro lo h1 j h
    rw [bsr] at h
    by_cases hle : h1 ≤ lo
    · rw [if_pos hle] at h; cases h
    · rw [if_neg hle] at h
      by_cases h0 : lcmp w (spl9 ((lo + (h1 - 1)) / 2)) = 0
      · rw [if_pos h0] at h
        cases h
        exact ⟨lcmp_eq _ _ h0, by omega⟩
      · rw [if_neg h0] at h
        by_cases hp : 0 ≤ lcmp w (spl9 ((lo + (h1 - 1)) / 2))
        · rw [if_pos hp] at h; exact ih _ _ _ h
        · rw [if_neg hp] at h
          have := ih _ _ _ h
          exact ⟨this.1, by omega⟩
/-- which statement has this name -/
def stOf (w : List Nat) : Option Nat := bsr w 100 0 83
theorem stOf_some {w : List Nat} {j : Nat} (h : stOf w = some j) : w = spl9 j ∧ j < 83 := bsr_ok _ _ _ _ h
theorem stOf_all : ∀ j, j < 83 → stOf (spl9 j) = some j := by decide +kernel
theorem spl9_sm : ∀ j, j < 83 → (en (400 + j)).1 < 106 := by decide +kernel
theorem half_nn {n : Nat} (h : n < 200) : nn n / 2 = nn (n / 2) := by
  have key : ∀ n : Nat, n < 200 → nn n / 2 = nn (n / 2) := by decide +kernel
  exact key n h
theorem lcmp_sm : ∀ (x y : List Nat), (∀ b ∈ x, b < 128) → (∀ b ∈ y, b < 128) → -128 < lcmp x y ∧ lcmp x y < 128 := by
  intro x
  induction x with
  | nil => intro y h1 h2; cases y with
    | nil => simp [lcmp]
    | cons b q => simp [lcmp]
  | cons a r ih => intro y h1 h2; cases y with
    | nil => simp [lcmp]
    | cons b q =>
      rw [lcmp]
      have ha := h1 a List.mem_cons_self
      have hb := h2 b List.mem_cons_self
      by_cases e : a = b
      · rw [if_pos e]
        exact ih q (fun b hb => h1 b (List.mem_cons_of_mem _ hb)) (fun b hb => h2 b (List.mem_cons_of_mem _ hb))
      · rw [if_neg e]; omega
theorem ofInt_sm {i : Int} (h1 : -128 < i) (h2 : i < 128) : (Int32.ofInt i).toInt = i := by
  have e : Int32.size = 4294967296 := rfl
  rw [Int32.toInt_ofInt, e, Int.bmod_eq_of_le (by omega) (by omega)]
section CS
variable {c : cS} {B : Nat → Nat} {a z s l : Nat}
theorem nb_sm (hn : NM B z s l) : ∀ b ∈ nb B s l, b < 128 := by
  intro b hb
  simp only [nb, List.mem_map, List.mem_range] at hb
  obtain ⟨i, hi, rfl⟩ := hb
  exact (isN_lt (hn.2 i hi)).2
theorem sn_sm {k : Nat} (hk : k < 106) : ∀ b ∈ sn k, b < 128 := by
  intro b hb
  obtain ⟨i, hi, rfl⟩ := List.mem_iff_getElem.mp hb
  have := (sn_at hk (show i < sl k by rw [← sn_len]; exact hi)).2
  rw [List.getD_eq_getElem?_getD, List.getElem?_eq_getElem hi] at this
  exact this
theorem c_search (T : TC c B a z) (Y : BY c) (hn : NM B z s l) (hl : l < 100000) : ∀ (u lo h1 : Nat), h1 - lo < u → h1 ≤ 83 → lo ≤ 83 → f65_10 u c (nn s) (nn l) (nn lo) (nn h1 - 1) = some ((bsr (nb B s l) u lo h1).map (fun j => 400 + j)) := by
  intro u
  induction u with
  | zero => intro lo h1 h; omega
  | succ u ih =>
    intro lo h1 h h83 hlo
    have e1 : (1 : Int32) = nn 1 := rfl
    have hz : (nn h1 - 1 < nn lo) ↔ h1 ≤ lo := by
      rw [Int32.lt_iff_toInt_lt, Int32.toInt_sub, nn_int (by omega), nn_int (by omega), e1, nn_int (by omega), Int.bmod_eq_of_le (by omega) (by omega)]
      omega
    rw [f65_10, bsr]
    by_cases hle : h1 ≤ lo
    · rw [if_pos (hz.mpr hle), if_pos hle]; rfl
    · rw [if_neg (fun hh => hle (hz.mp hh)), if_neg hle]
      have em : (nn lo + (nn h1 - 1)) / 2 = nn ((lo + (h1 - 1)) / 2) := by
        rw [e1, nn_sub (by omega), nn_add, half_nn (by omega)]
      generalize hm : (lo + (h1 - 1)) / 2 = m at em
      have hm1 : lo ≤ m ∧ m < h1 := by omega
      rw [em, if_pos ((nn_ib (by omega)).mpr (by omega)), nn_tn (by omega), if_pos ⟨by omega, by omega⟩]
      have hk := spl9_sm m (by omega)
      have hcm := lcmp_sm _ _ (nb_sm hn) (sn_sm hk)
      rw [c_cmp T Y hn hl hk, Option.bind_some]
      have eL : lcmp (nb B s l) (spl9 m) = lcmp (nb B s l) (sn (en (400 + m)).1) := rfl
      rw [eL]
      generalize lcmp (nb B s l) (sn (en (400 + m)).1) = y at hcm
      have hy := ofInt_sm hcm.1 hcm.2
      by_cases h0 : y = 0
      · have : Int32.ofInt y = 0 := by rw [h0]; rfl
        rw [if_pos this, if_pos h0]
        unfold f65_49
        rw [if_pos ((nn_ib (by omega)).mpr (by omega)), nn_tn (by omega)]
        rfl
      · have : ¬ Int32.ofInt y = 0 := by
          intro hh
          rw [hh] at hy
          have : (0 : Int32).toInt = 0 := rfl
          omega
        rw [if_neg this, if_neg h0]
        unfold f65_75
        have hpos : (0 ≤ Int32.ofInt y) ↔ 0 ≤ y := by
          rw [Int32.le_iff_toInt_le, hy]
          have : (0 : Int32).toInt = 0 := rfl
          omega
        by_cases hp : 0 ≤ y
        · rw [if_pos (hpos.mpr hp), if_pos hp, nn_add1, ih (m + 1) h1 (by omega) h83 (by omega)]
        · rw [if_neg (fun hh => hp (hpos.mp hh)), if_neg hp, ih lo m (by omega) (by omega) hlo]
theorem c_stm (T : TC c B a z) (Y : BY c) (hn : NM B z s l) (hl : l < 100000) : f65 c (nn s) (nn l) = some ((stOf (nb B s l)).map (fun j => 400 + j)) := by
  unfold f65
  have e : (83 : Int32) = nn 83 := rfl
  have e0 : (0 : Int32) = nn 0 := rfl
  rw [e, e0, c_search T Y hn hl mm_U 0 83 (by show 83 < 200000; omega) (by omega) (by omega)]
  unfold stOf
  rw [bsr_fuel mm_U 100 0 83 (by show 83 < 200000; omega) (by omega)]
end CS
