/-! Branches. -/
section RB
variable {d mi pc len a b : Nat} {l : ab_L} {r : List Value} {h h' : ab_H} {o : Option Value ⊕ Unit} {P : ab_M × List ab_I} {off : Int}
theorem r_if_eq {x : Int32} (hP : ab_prog[mi]? = some P) (hf : ab_fetch P.2 pc = some (.ifCond .eq off, len, a, b)) (kt : x = 0 → ab_Rn d mi a l r h o h') (kf : ¬ x = 0 → ab_Rn d mi (pc + 3) l r h o h') : ab_Rn d mi pc l (.int x :: r) h o h' := by
  by_cases c : x = 0
  · refine r_nx (z := (a, l, r, h)) hP hf ?_ (kt c)
    simp [ab_nx, ab_op, ab_ld, ab_sto, ab_br, ab_if1, c]
  · refine r_nx (z := (pc + 3, l, r, h)) hP hf ?_ (kf c)
    have e9 : (x == 0) = false := by simpa using c
    simp [ab_nx, ab_op, ab_ld, ab_sto, ab_br, ab_if1, bne, e9]
theorem r_if_ne {x : Int32} (hP : ab_prog[mi]? = some P) (hf : ab_fetch P.2 pc = some (.ifCond .ne off, len, a, b)) (kt : ¬ x = 0 → ab_Rn d mi a l r h o h') (kf : x = 0 → ab_Rn d mi (pc + 3) l r h o h') : ab_Rn d mi pc l (.int x :: r) h o h' := by
  by_cases c : x = 0
  · refine r_nx (z := (pc + 3, l, r, h)) hP hf ?_ (kf c)
    simp [ab_nx, ab_op, ab_ld, ab_sto, ab_br, ab_if1, c]
  · refine r_nx (z := (a, l, r, h)) hP hf ?_ (kt c)
    have e9 : (x == 0) = false := by simpa using c
    simp [ab_nx, ab_op, ab_ld, ab_sto, ab_br, ab_if1, bne, e9]
theorem r_if_lt {x : Int32} (hP : ab_prog[mi]? = some P) (hf : ab_fetch P.2 pc = some (.ifCond .lt off, len, a, b)) (kt : x < 0 → ab_Rn d mi a l r h o h') (kf : ¬ x < 0 → ab_Rn d mi (pc + 3) l r h o h') : ab_Rn d mi pc l (.int x :: r) h o h' := by
  by_cases c : x < 0
  · refine r_nx (z := (a, l, r, h)) hP hf ?_ (kt c)
    simp [ab_nx, ab_op, ab_ld, ab_sto, ab_br, ab_if1, c]
  · refine r_nx (z := (pc + 3, l, r, h)) hP hf ?_ (kf c)
    simp [ab_nx, ab_op, ab_ld, ab_sto, ab_br, ab_if1, c]
theorem r_if_ge {x : Int32} (hP : ab_prog[mi]? = some P) (hf : ab_fetch P.2 pc = some (.ifCond .ge off, len, a, b)) (kt : 0 ≤ x → ab_Rn d mi a l r h o h') (kf : ¬ 0 ≤ x → ab_Rn d mi (pc + 3) l r h o h') : ab_Rn d mi pc l (.int x :: r) h o h' := by
  by_cases c : 0 ≤ x
  · refine r_nx (z := (a, l, r, h)) hP hf ?_ (kt c)
    simp [ab_nx, ab_op, ab_ld, ab_sto, ab_br, ab_if1, c]
  · refine r_nx (z := (pc + 3, l, r, h)) hP hf ?_ (kf c)
    simp [ab_nx, ab_op, ab_ld, ab_sto, ab_br, ab_if1, c]
theorem r_if_gt {x : Int32} (hP : ab_prog[mi]? = some P) (hf : ab_fetch P.2 pc = some (.ifCond .gt off, len, a, b)) (kt : 0 < x → ab_Rn d mi a l r h o h') (kf : ¬ 0 < x → ab_Rn d mi (pc + 3) l r h o h') : ab_Rn d mi pc l (.int x :: r) h o h' := by
  by_cases c : 0 < x
  · refine r_nx (z := (a, l, r, h)) hP hf ?_ (kt c)
    simp [ab_nx, ab_op, ab_ld, ab_sto, ab_br, ab_if1, c]
  · refine r_nx (z := (pc + 3, l, r, h)) hP hf ?_ (kf c)
    simp [ab_nx, ab_op, ab_ld, ab_sto, ab_br, ab_if1, c]
theorem r_if_le {x : Int32} (hP : ab_prog[mi]? = some P) (hf : ab_fetch P.2 pc = some (.ifCond .le off, len, a, b)) (kt : x ≤ 0 → ab_Rn d mi a l r h o h') (kf : ¬ x ≤ 0 → ab_Rn d mi (pc + 3) l r h o h') : ab_Rn d mi pc l (.int x :: r) h o h' := by
  by_cases c : x ≤ 0
  · refine r_nx (z := (a, l, r, h)) hP hf ?_ (kt c)
    simp [ab_nx, ab_op, ab_ld, ab_sto, ab_br, ab_if1, c]
  · refine r_nx (z := (pc + 3, l, r, h)) hP hf ?_ (kf c)
    simp [ab_nx, ab_op, ab_ld, ab_sto, ab_br, ab_if1, c]
theorem r_ic_eq {x y : Int32} (hP : ab_prog[mi]? = some P) (hf : ab_fetch P.2 pc = some (.if_icmp .eq off, len, a, b)) (kt : x = y → ab_Rn d mi a l r h o h') (kf : ¬ x = y → ab_Rn d mi (pc + 3) l r h o h') : ab_Rn d mi pc l (.int y :: .int x :: r) h o h' := by
  by_cases c : x = y
  · refine r_nx (z := (a, l, r, h)) hP hf ?_ (kt c)
    simp [ab_nx, ab_op, ab_ld, ab_sto, ab_br, ab_if2, c]
  · refine r_nx (z := (pc + 3, l, r, h)) hP hf ?_ (kf c)
    have e9 : (x == y) = false := by simpa using c
    simp [ab_nx, ab_op, ab_ld, ab_sto, ab_br, ab_if2, bne, e9]
theorem r_ic_ne {x y : Int32} (hP : ab_prog[mi]? = some P) (hf : ab_fetch P.2 pc = some (.if_icmp .ne off, len, a, b)) (kt : ¬ x = y → ab_Rn d mi a l r h o h') (kf : x = y → ab_Rn d mi (pc + 3) l r h o h') : ab_Rn d mi pc l (.int y :: .int x :: r) h o h' := by
  by_cases c : x = y
  · refine r_nx (z := (pc + 3, l, r, h)) hP hf ?_ (kf c)
    simp [ab_nx, ab_op, ab_ld, ab_sto, ab_br, ab_if2, c]
  · refine r_nx (z := (a, l, r, h)) hP hf ?_ (kt c)
    have e9 : (x == y) = false := by simpa using c
    simp [ab_nx, ab_op, ab_ld, ab_sto, ab_br, ab_if2, bne, e9]
theorem r_ic_lt {x y : Int32} (hP : ab_prog[mi]? = some P) (hf : ab_fetch P.2 pc = some (.if_icmp .lt off, len, a, b)) (kt : x < y → ab_Rn d mi a l r h o h') (kf : ¬ x < y → ab_Rn d mi (pc + 3) l r h o h') : ab_Rn d mi pc l (.int y :: .int x :: r) h o h' := by
  by_cases c : x < y
  · refine r_nx (z := (a, l, r, h)) hP hf ?_ (kt c)
    simp [ab_nx, ab_op, ab_ld, ab_sto, ab_br, ab_if2, c]
  · refine r_nx (z := (pc + 3, l, r, h)) hP hf ?_ (kf c)
    simp [ab_nx, ab_op, ab_ld, ab_sto, ab_br, ab_if2, c]
theorem r_ic_ge {x y : Int32} (hP : ab_prog[mi]? = some P) (hf : ab_fetch P.2 pc = some (.if_icmp .ge off, len, a, b)) (kt : y ≤ x → ab_Rn d mi a l r h o h') (kf : ¬ y ≤ x → ab_Rn d mi (pc + 3) l r h o h') : ab_Rn d mi pc l (.int y :: .int x :: r) h o h' := by
  by_cases c : y ≤ x
  · refine r_nx (z := (a, l, r, h)) hP hf ?_ (kt c)
    simp [ab_nx, ab_op, ab_ld, ab_sto, ab_br, ab_if2, c]
  · refine r_nx (z := (pc + 3, l, r, h)) hP hf ?_ (kf c)
    simp [ab_nx, ab_op, ab_ld, ab_sto, ab_br, ab_if2, c]
theorem r_ic_gt {x y : Int32} (hP : ab_prog[mi]? = some P) (hf : ab_fetch P.2 pc = some (.if_icmp .gt off, len, a, b)) (kt : y < x → ab_Rn d mi a l r h o h') (kf : ¬ y < x → ab_Rn d mi (pc + 3) l r h o h') : ab_Rn d mi pc l (.int y :: .int x :: r) h o h' := by
  by_cases c : y < x
  · refine r_nx (z := (a, l, r, h)) hP hf ?_ (kt c)
    simp [ab_nx, ab_op, ab_ld, ab_sto, ab_br, ab_if2, c]
  · refine r_nx (z := (pc + 3, l, r, h)) hP hf ?_ (kf c)
    simp [ab_nx, ab_op, ab_ld, ab_sto, ab_br, ab_if2, c]
theorem r_ic_le {x y : Int32} (hP : ab_prog[mi]? = some P) (hf : ab_fetch P.2 pc = some (.if_icmp .le off, len, a, b)) (kt : x ≤ y → ab_Rn d mi a l r h o h') (kf : ¬ x ≤ y → ab_Rn d mi (pc + 3) l r h o h') : ab_Rn d mi pc l (.int y :: .int x :: r) h o h' := by
  by_cases c : x ≤ y
  · refine r_nx (z := (a, l, r, h)) hP hf ?_ (kt c)
    simp [ab_nx, ab_op, ab_ld, ab_sto, ab_br, ab_if2, c]
  · refine r_nx (z := (pc + 3, l, r, h)) hP hf ?_ (kf c)
    simp [ab_nx, ab_op, ab_ld, ab_sto, ab_br, ab_if2, c]
end RB
abbrev ib (j : Int32) (m : Nat) : Prop := ¬ (j < 0 ∨ m ≤ j.toNatClampNeg)
