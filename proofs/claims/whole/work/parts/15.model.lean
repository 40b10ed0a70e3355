/-! THE REFERENCE's OBJECT as a state: G its ints by their fields' numbers, B its arrays (but the three tables) by theirs. -/
def mm_f (G : Nat → Int32) : List Value := [.ref 23, .ref 24, .ref 25, .int (G 3), .ref 26, .int (G 5), .ref 27, .int (G 7), .int (G 8), .int (G 9), .int (G 10), .int (G 11), .int (G 12), .int (G 13), .int (G 14), .int (G 15), .int (G 16), .int (G 17), .int (G 18), .int (G 19), .int (G 20), .int (G 21), .int (G 22), .int (G 23), .int (G 24), .ref 28, .int (G 26), .ref 29, .ref 30, .ref 31, .ref 32, .ref 33, .int (G 32), .int (G 33), .int (G 34), .ref 34, .ref 35, .int (G 37), .int (G 38), .int (G 39), .int (G 40), .int (G 41), .ref 36, .ref 37, .ref 38, .ref 39, .ref 40, .int (G 47)]
def mm_F (G : Nat → Int32) (B : Nat → Nat → Int32) (F0 : Nat → ab_C) : Nat → ab_C := fun i => match i with
  | 22 => .inr (6, mm_f G)
  | 26 => .inl (0, 65536, .inl (B 4))
  | 27 => .inl (0, 65536, .inl (B 6))
  | 28 => .inl (0, 65536, .inl (B 25))
  | 29 => .inl (1, 17500, .inl (B 27))
  | 30 => .inl (1, 17500, .inl (B 28))
  | 31 => .inl (1, 17500, .inl (B 29))
  | 32 => .inl (1, 17500, .inl (B 30))
  | 33 => .inl (1, 17500, .inl (B 31))
  | 34 => .inl (1, 2, .inl (B 35))
  | 35 => .inl (0, 130840, .inl (B 36))
  | 36 => .inl (1, 160, .inl (B 42))
  | 37 => .inl (1, 160, .inl (B 43))
  | 38 => .inl (1, 160, .inl (B 44))
  | 39 => .inl (1, 160, .inl (B 45))
  | 40 => .inl (1, 160, .inl (B 46))
  | i => F0 i
def mm_bu (B : Nat → Nat → Int32) (k : Nat) (f : Nat → Int32) : Nat → Nat → Int32 := fun j => if j = k then f else B j
theorem mm_set3 (G : Nat → Int32) (v : Int32) : (mm_f G).set 3 (.int v) = mm_f (upd G 3 v) := rfl
theorem mm_set5 (G : Nat → Int32) (v : Int32) : (mm_f G).set 5 (.int v) = mm_f (upd G 5 v) := rfl
theorem mm_set7 (G : Nat → Int32) (v : Int32) : (mm_f G).set 7 (.int v) = mm_f (upd G 7 v) := rfl
theorem mm_set8 (G : Nat → Int32) (v : Int32) : (mm_f G).set 8 (.int v) = mm_f (upd G 8 v) := rfl
theorem mm_set9 (G : Nat → Int32) (v : Int32) : (mm_f G).set 9 (.int v) = mm_f (upd G 9 v) := rfl
theorem mm_set10 (G : Nat → Int32) (v : Int32) : (mm_f G).set 10 (.int v) = mm_f (upd G 10 v) := rfl
theorem mm_set11 (G : Nat → Int32) (v : Int32) : (mm_f G).set 11 (.int v) = mm_f (upd G 11 v) := rfl
theorem mm_set12 (G : Nat → Int32) (v : Int32) : (mm_f G).set 12 (.int v) = mm_f (upd G 12 v) := rfl
theorem mm_set13 (G : Nat → Int32) (v : Int32) : (mm_f G).set 13 (.int v) = mm_f (upd G 13 v) := rfl
theorem mm_set14 (G : Nat → Int32) (v : Int32) : (mm_f G).set 14 (.int v) = mm_f (upd G 14 v) := rfl
theorem mm_set15 (G : Nat → Int32) (v : Int32) : (mm_f G).set 15 (.int v) = mm_f (upd G 15 v) := rfl
theorem mm_set16 (G : Nat → Int32) (v : Int32) : (mm_f G).set 16 (.int v) = mm_f (upd G 16 v) := rfl
theorem mm_set17 (G : Nat → Int32) (v : Int32) : (mm_f G).set 17 (.int v) = mm_f (upd G 17 v) := rfl
theorem mm_set18 (G : Nat → Int32) (v : Int32) : (mm_f G).set 18 (.int v) = mm_f (upd G 18 v) := rfl
theorem mm_set19 (G : Nat → Int32) (v : Int32) : (mm_f G).set 19 (.int v) = mm_f (upd G 19 v) := rfl
theorem mm_set20 (G : Nat → Int32) (v : Int32) : (mm_f G).set 20 (.int v) = mm_f (upd G 20 v) := rfl
theorem mm_set21 (G : Nat → Int32) (v : Int32) : (mm_f G).set 21 (.int v) = mm_f (upd G 21 v) := rfl
theorem mm_set22 (G : Nat → Int32) (v : Int32) : (mm_f G).set 22 (.int v) = mm_f (upd G 22 v) := rfl
theorem mm_set23 (G : Nat → Int32) (v : Int32) : (mm_f G).set 23 (.int v) = mm_f (upd G 23 v) := rfl
theorem mm_set24 (G : Nat → Int32) (v : Int32) : (mm_f G).set 24 (.int v) = mm_f (upd G 24 v) := rfl
theorem mm_set26 (G : Nat → Int32) (v : Int32) : (mm_f G).set 26 (.int v) = mm_f (upd G 26 v) := rfl
theorem mm_set32 (G : Nat → Int32) (v : Int32) : (mm_f G).set 32 (.int v) = mm_f (upd G 32 v) := rfl
theorem mm_set33 (G : Nat → Int32) (v : Int32) : (mm_f G).set 33 (.int v) = mm_f (upd G 33 v) := rfl
theorem mm_set34 (G : Nat → Int32) (v : Int32) : (mm_f G).set 34 (.int v) = mm_f (upd G 34 v) := rfl
theorem mm_set37 (G : Nat → Int32) (v : Int32) : (mm_f G).set 37 (.int v) = mm_f (upd G 37 v) := rfl
theorem mm_set38 (G : Nat → Int32) (v : Int32) : (mm_f G).set 38 (.int v) = mm_f (upd G 38 v) := rfl
theorem mm_set39 (G : Nat → Int32) (v : Int32) : (mm_f G).set 39 (.int v) = mm_f (upd G 39 v) := rfl
theorem mm_set40 (G : Nat → Int32) (v : Int32) : (mm_f G).set 40 (.int v) = mm_f (upd G 40 v) := rfl
theorem mm_set41 (G : Nat → Int32) (v : Int32) : (mm_f G).set 41 (.int v) = mm_f (upd G 41 v) := rfl
theorem mm_set47 (G : Nat → Int32) (v : Int32) : (mm_f G).set 47 (.int v) = mm_f (upd G 47 v) := rfl
theorem mm_obj (G G2 : Nat → Int32) (B : Nat → Nat → Int32) (F0 : Nat → ab_C) : ab_fu (mm_F G B F0) 22 (.inr (6, mm_f G2)) = mm_F G2 B F0 := by
  funext i
  unfold ab_fu
  by_cases h : i = 22
  · subst h; rfl
  · rw [if_neg h]
    unfold mm_F
    split <;> first | rfl | (exact absurd rfl h)
theorem mm_arr4 (G : Nat → Int32) (B : Nat → Nat → Int32) (F0 : Nat → ab_C) (f : Nat → Int32) : ab_fu (mm_F G B F0) 26 (.inl (0, 65536, .inl f)) = mm_F G (mm_bu B 4 f) F0 := by
  funext i
  unfold ab_fu
  by_cases h : i = 26
  · subst h; rfl
  · rw [if_neg h]
    unfold mm_F
    split <;> first | rfl | (exact absurd rfl h)
theorem mm_arr6 (G : Nat → Int32) (B : Nat → Nat → Int32) (F0 : Nat → ab_C) (f : Nat → Int32) : ab_fu (mm_F G B F0) 27 (.inl (0, 65536, .inl f)) = mm_F G (mm_bu B 6 f) F0 := by
  funext i
  unfold ab_fu
  by_cases h : i = 27
  · subst h; rfl
  · rw [if_neg h]
    unfold mm_F
    split <;> first | rfl | (exact absurd rfl h)
theorem mm_arr25 (G : Nat → Int32) (B : Nat → Nat → Int32) (F0 : Nat → ab_C) (f : Nat → Int32) : ab_fu (mm_F G B F0) 28 (.inl (0, 65536, .inl f)) = mm_F G (mm_bu B 25 f) F0 := by
  funext i
  unfold ab_fu
  by_cases h : i = 28
  · subst h; rfl
  · rw [if_neg h]
    unfold mm_F
    split <;> first | rfl | (exact absurd rfl h)
theorem mm_arr27 (G : Nat → Int32) (B : Nat → Nat → Int32) (F0 : Nat → ab_C) (f : Nat → Int32) : ab_fu (mm_F G B F0) 29 (.inl (1, 17500, .inl f)) = mm_F G (mm_bu B 27 f) F0 := by
  funext i
  unfold ab_fu
  by_cases h : i = 29
  · subst h; rfl
  · rw [if_neg h]
    unfold mm_F
    split <;> first | rfl | (exact absurd rfl h)
theorem mm_arr28 (G : Nat → Int32) (B : Nat → Nat → Int32) (F0 : Nat → ab_C) (f : Nat → Int32) : ab_fu (mm_F G B F0) 30 (.inl (1, 17500, .inl f)) = mm_F G (mm_bu B 28 f) F0 := by
  funext i
  unfold ab_fu
  by_cases h : i = 30
  · subst h; rfl
  · rw [if_neg h]
    unfold mm_F
    split <;> first | rfl | (exact absurd rfl h)
theorem mm_arr29 (G : Nat → Int32) (B : Nat → Nat → Int32) (F0 : Nat → ab_C) (f : Nat → Int32) : ab_fu (mm_F G B F0) 31 (.inl (1, 17500, .inl f)) = mm_F G (mm_bu B 29 f) F0 := by
  funext i
  unfold ab_fu
  by_cases h : i = 31
  · subst h; rfl
  · rw [if_neg h]
    unfold mm_F
    split <;> first | rfl | (exact absurd rfl h)
theorem mm_arr30 (G : Nat → Int32) (B : Nat → Nat → Int32) (F0 : Nat → ab_C) (f : Nat → Int32) : ab_fu (mm_F G B F0) 32 (.inl (1, 17500, .inl f)) = mm_F G (mm_bu B 30 f) F0 := by
  funext i
  unfold ab_fu
  by_cases h : i = 32
  · subst h; rfl
  · rw [if_neg h]
    unfold mm_F
    split <;> first | rfl | (exact absurd rfl h)
theorem mm_arr31 (G : Nat → Int32) (B : Nat → Nat → Int32) (F0 : Nat → ab_C) (f : Nat → Int32) : ab_fu (mm_F G B F0) 33 (.inl (1, 17500, .inl f)) = mm_F G (mm_bu B 31 f) F0 := by
  funext i
  unfold ab_fu
  by_cases h : i = 33
  · subst h; rfl
  · rw [if_neg h]
    unfold mm_F
    split <;> first | rfl | (exact absurd rfl h)
theorem mm_arr35 (G : Nat → Int32) (B : Nat → Nat → Int32) (F0 : Nat → ab_C) (f : Nat → Int32) : ab_fu (mm_F G B F0) 34 (.inl (1, 2, .inl f)) = mm_F G (mm_bu B 35 f) F0 := by
  funext i
  unfold ab_fu
  by_cases h : i = 34
  · subst h; rfl
  · rw [if_neg h]
    unfold mm_F
    split <;> first | rfl | (exact absurd rfl h)
theorem mm_arr36 (G : Nat → Int32) (B : Nat → Nat → Int32) (F0 : Nat → ab_C) (f : Nat → Int32) : ab_fu (mm_F G B F0) 35 (.inl (0, 130840, .inl f)) = mm_F G (mm_bu B 36 f) F0 := by
  funext i
  unfold ab_fu
  by_cases h : i = 35
  · subst h; rfl
  · rw [if_neg h]
    unfold mm_F
    split <;> first | rfl | (exact absurd rfl h)
theorem mm_arr42 (G : Nat → Int32) (B : Nat → Nat → Int32) (F0 : Nat → ab_C) (f : Nat → Int32) : ab_fu (mm_F G B F0) 36 (.inl (1, 160, .inl f)) = mm_F G (mm_bu B 42 f) F0 := by
  funext i
  unfold ab_fu
  by_cases h : i = 36
  · subst h; rfl
  · rw [if_neg h]
    unfold mm_F
    split <;> first | rfl | (exact absurd rfl h)
theorem mm_arr43 (G : Nat → Int32) (B : Nat → Nat → Int32) (F0 : Nat → ab_C) (f : Nat → Int32) : ab_fu (mm_F G B F0) 37 (.inl (1, 160, .inl f)) = mm_F G (mm_bu B 43 f) F0 := by
  funext i
  unfold ab_fu
  by_cases h : i = 37
  · subst h; rfl
  · rw [if_neg h]
    unfold mm_F
    split <;> first | rfl | (exact absurd rfl h)
theorem mm_arr44 (G : Nat → Int32) (B : Nat → Nat → Int32) (F0 : Nat → ab_C) (f : Nat → Int32) : ab_fu (mm_F G B F0) 38 (.inl (1, 160, .inl f)) = mm_F G (mm_bu B 44 f) F0 := by
  funext i
  unfold ab_fu
  by_cases h : i = 38
  · subst h; rfl
  · rw [if_neg h]
    unfold mm_F
    split <;> first | rfl | (exact absurd rfl h)
theorem mm_arr45 (G : Nat → Int32) (B : Nat → Nat → Int32) (F0 : Nat → ab_C) (f : Nat → Int32) : ab_fu (mm_F G B F0) 39 (.inl (1, 160, .inl f)) = mm_F G (mm_bu B 45 f) F0 := by
  funext i
  unfold ab_fu
  by_cases h : i = 39
  · subst h; rfl
  · rw [if_neg h]
    unfold mm_F
    split <;> first | rfl | (exact absurd rfl h)
theorem mm_arr46 (G : Nat → Int32) (B : Nat → Nat → Int32) (F0 : Nat → ab_C) (f : Nat → Int32) : ab_fu (mm_F G B F0) 40 (.inl (1, 160, .inl f)) = mm_F G (mm_bu B 46 f) F0 := by
  funext i
  unfold ab_fu
  by_cases h : i = 40
  · subst h; rfl
  · rw [if_neg h]
    unfold mm_F
    split <;> first | rfl | (exact absurd rfl h)
