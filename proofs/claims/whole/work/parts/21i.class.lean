theorem p93 : ab_prog[93]? = some (ab_m93, ab_c93) := rfl
theorem k93_0 : ab_fetch ab_c93 0 = some (.iload_n 1, 1, 0, 0) := rfl
theorem k93_1 : ab_fetch ab_c93 1 = some (.iload_n 2, 1, 0, 0) := rfl
theorem k93_2 : ab_fetch ab_c93 2 = some (.if_icmp .lt 8, 3, 10, 0) := rfl
theorem k93_5 : ab_fetch ab_c93 5 = some (.iload_n 1, 1, 0, 0) := rfl
theorem k93_6 : ab_fetch ab_c93 6 = some (.iload_n 3, 1, 0, 0) := rfl
theorem k93_7 : ab_fetch ab_c93 7 = some (.if_icmp .le 16, 3, 23, 0) := rfl
theorem k93_10 : ab_fetch ab_c93 10 = some (.aload_n 0, 1, 0, 0) := rfl
theorem k93_11 : ab_fetch ab_c93 11 = some (.getfield 21, 3, 0, 2) := rfl
theorem k93_14 : ab_fetch ab_c93 14 = some (.aload_n 0, 1, 0, 0) := rfl
theorem k93_15 : ab_fetch ab_c93 15 = some (.getfield 92, 3, 0, 10) := rfl
theorem k93_18 : ab_fetch ab_c93 18 = some (.bipush 10, 2, 0, 0) := rfl
theorem k93_20 : ab_fetch ab_c93 20 = some (.invokevirtual 106, 3, 46, 2) := rfl
theorem k93_23 : ab_fetch ab_c93 23 = some (.return_, 1, 0, 0) := rfl
/- CodeSmith$Assembler checkNumber(III)V -/
def f93_10 (s : cS) : Option (cS ⊕ cS) := some (.inr (f46 s (s.1 16 10) (10 : Int32)))
theorem t93_10 {d : Nat} {Z : Nat → ab_C} : ∀ (s : cS) (l : ab_L)  (h0 : ab_get l 0 = some (.ref 16)) (r : cS ⊕ cS) (e : f93_10 s  = some r), ab_Rn (d + 1) 93 10 l [] (ch s Z) (oV r) (ch (zV r) Z) := by
  intro s l h0 r e
  unfold f93_10 at e
  refine r_aload_n (pc := 10) p93 k93_10 h0 ?_
  refine c_get (i := 16) rfl (pc := 11) p93 k93_11 rfl rfl (v := .ref 11) rfl ?_
  refine r_aload_n (pc := 14) p93 k93_14 h0 ?_
  refine c_get (i := 16) rfl (pc := 15) p93 k93_15 rfl rfl (v := .int (s.1 16 10)) rfl ?_
  refine r_bipush (pc := 18) p93 k93_18 (v := (10 : Int32)) rfl ?_
  cases e
  exact c_cvx (i := 11) rfl (pc := 20) p93 k93_20 rfl p46 (r := []) rfl rfl rfl rfl rfl rfl (t46 s (s.1 16 10) (10 : Int32) _ rfl)
def f93 (s : cS) (x1 : Int32) (x2 : Int32) (x3 : Int32) : Option (cS ⊕ cS) := (if x1 < x2 then f93_10 s else (if x1 ≤ x3 then some (.inl s) else f93_10 s))
theorem t93 {d : Nat} {Z : Nat → ab_C} (s : cS) (x1 : Int32) (x2 : Int32) (x3 : Int32) (r : cS ⊕ cS) (e : f93 s x1 x2 x3 = some r) : ab_Rn (d + 1) 93 0 (lv_args 0 [.ref 16, .int x1, .int x2, .int x3]) [] (ch s Z) (oV r) (ch (zV r) Z) := by
  unfold f93 at e
  obtain ⟨l, hl⟩ : ∃ l, l = (lv_args 0 [.ref 16, .int x1, .int x2, .int x3]) := ⟨_, rfl⟩
  rw [← hl]
  have h0 : ab_get l 0 = some (.ref 16) := by rw [hl]; rfl
  have h1 : ab_get l 1 = some (.int x1) := by rw [hl]; rfl
  have h2 : ab_get l 2 = some (.int x2) := by rw [hl]; rfl
  have h3 : ab_get l 3 = some (.int x3) := by rw [hl]; rfl
  refine r_iload_n (pc := 0) p93 k93_0 h1 ?_
  refine r_iload_n (pc := 1) p93 k93_1 h2 ?_
  refine r_ic_lt (pc := 2) p93 k93_2 (fun c => ?_) (fun c => ?_)
  · have e := (if_pos c).symm.trans e
    exact t93_10 s l h0 r e
  · have e := (if_neg c).symm.trans e
    refine r_iload_n (pc := 5) p93 k93_5 h1 ?_
    refine r_iload_n (pc := 6) p93 k93_6 h3 ?_
    refine r_ic_le (pc := 7) p93 k93_7 (fun c => ?_) (fun c => ?_)
    · have e := (if_pos c).symm.trans e
      obtain rfl := Option.some.inj e
      exact r_retV (pc := 23) p93 k93_23 rfl
    · have e := (if_neg c).symm.trans e
      exact t93_10 s l h0 r e

theorem p94 : ab_prog[94]? = some (ab_m94, ab_c94) := rfl
theorem k94_0 : ab_fetch ab_c94 0 = some (.iload_n 1, 1, 0, 0) := rfl
theorem k94_1 : ab_fetch ab_c94 1 = some (.iconst 1, 1, 0, 0) := rfl
theorem k94_2 : ab_fetch ab_c94 2 = some (.iand, 1, 0, 0) := rfl
theorem k94_3 : ab_fetch ab_c94 3 = some (.ifCond .ne 14, 3, 17, 0) := rfl
theorem k94_6 : ab_fetch ab_c94 6 = some (.iload_n 1, 1, 0, 0) := rfl
theorem k94_7 : ab_fetch ab_c94 7 = some (.iload_n 2, 1, 0, 0) := rfl
theorem k94_8 : ab_fetch ab_c94 8 = some (.ineg, 1, 0, 0) := rfl
theorem k94_9 : ab_fetch ab_c94 9 = some (.if_icmp .lt 8, 3, 17, 0) := rfl
theorem k94_12 : ab_fetch ab_c94 12 = some (.iload_n 1, 1, 0, 0) := rfl
theorem k94_13 : ab_fetch ab_c94 13 = some (.iload_n 2, 1, 0, 0) := rfl
theorem k94_14 : ab_fetch ab_c94 14 = some (.if_icmp .lt 16, 3, 30, 0) := rfl
theorem k94_17 : ab_fetch ab_c94 17 = some (.aload_n 0, 1, 0, 0) := rfl
theorem k94_18 : ab_fetch ab_c94 18 = some (.getfield 21, 3, 0, 2) := rfl
theorem k94_21 : ab_fetch ab_c94 21 = some (.aload_n 0, 1, 0, 0) := rfl
theorem k94_22 : ab_fetch ab_c94 22 = some (.getfield 92, 3, 0, 10) := rfl
theorem k94_25 : ab_fetch ab_c94 25 = some (.bipush 10, 2, 0, 0) := rfl
theorem k94_27 : ab_fetch ab_c94 27 = some (.invokevirtual 106, 3, 46, 2) := rfl
theorem k94_30 : ab_fetch ab_c94 30 = some (.return_, 1, 0, 0) := rfl
/- CodeSmith$Assembler checkDistance(II)V -/
def f94_17 (s : cS) : Option (cS ⊕ cS) := some (.inr (f46 s (s.1 16 10) (10 : Int32)))
theorem t94_17 {d : Nat} {Z : Nat → ab_C} : ∀ (s : cS) (l : ab_L)  (h0 : ab_get l 0 = some (.ref 16)) (r : cS ⊕ cS) (e : f94_17 s  = some r), ab_Rn (d + 1) 94 17 l [] (ch s Z) (oV r) (ch (zV r) Z) := by
  intro s l h0 r e
  unfold f94_17 at e
  refine r_aload_n (pc := 17) p94 k94_17 h0 ?_
  refine c_get (i := 16) rfl (pc := 18) p94 k94_18 rfl rfl (v := .ref 11) rfl ?_
  refine r_aload_n (pc := 21) p94 k94_21 h0 ?_
  refine c_get (i := 16) rfl (pc := 22) p94 k94_22 rfl rfl (v := .int (s.1 16 10)) rfl ?_
  refine r_bipush (pc := 25) p94 k94_25 (v := (10 : Int32)) rfl ?_
  cases e
  exact c_cvx (i := 11) rfl (pc := 27) p94 k94_27 rfl p46 (r := []) rfl rfl rfl rfl rfl rfl (t46 s (s.1 16 10) (10 : Int32) _ rfl)
def f94 (s : cS) (x1 : Int32) (x2 : Int32) : Option (cS ⊕ cS) := (if (x1 &&& (1 : Int32)) = 0 then (if x1 < (-x2) then f94_17 s else (if x1 < x2 then some (.inl s) else f94_17 s)) else f94_17 s)
theorem t94 {d : Nat} {Z : Nat → ab_C} (s : cS) (x1 : Int32) (x2 : Int32) (r : cS ⊕ cS) (e : f94 s x1 x2 = some r) : ab_Rn (d + 1) 94 0 (lv_args 0 [.ref 16, .int x1, .int x2]) [] (ch s Z) (oV r) (ch (zV r) Z) := by
  unfold f94 at e
  obtain ⟨l, hl⟩ : ∃ l, l = (lv_args 0 [.ref 16, .int x1, .int x2]) := ⟨_, rfl⟩
  rw [← hl]
  have h0 : ab_get l 0 = some (.ref 16) := by rw [hl]; rfl
  have h1 : ab_get l 1 = some (.int x1) := by rw [hl]; rfl
  have h2 : ab_get l 2 = some (.int x2) := by rw [hl]; rfl
  refine r_iload_n (pc := 0) p94 k94_0 h1 ?_
  refine r_iconst (pc := 1) p94 k94_1 (v := (1 : Int32)) rfl ?_
  refine r_iand (pc := 2) p94 k94_2 ?_
  refine r_if_ne (pc := 3) p94 k94_3 (fun c => ?_) (fun c => ?_)
  · have e := (if_neg c).symm.trans e
    exact t94_17 s l h0 r e
  · have e := (if_pos c).symm.trans e
    refine r_iload_n (pc := 6) p94 k94_6 h1 ?_
    refine r_iload_n (pc := 7) p94 k94_7 h2 ?_
    refine r_ineg (pc := 8) p94 k94_8 ?_
    refine r_ic_lt (pc := 9) p94 k94_9 (fun c => ?_) (fun c => ?_)
    · have e := (if_pos c).symm.trans e
      exact t94_17 s l h0 r e
    · have e := (if_neg c).symm.trans e
      refine r_iload_n (pc := 12) p94 k94_12 h1 ?_
      refine r_iload_n (pc := 13) p94 k94_13 h2 ?_
      refine r_ic_lt (pc := 14) p94 k94_14 (fun c => ?_) (fun c => ?_)
      · have e := (if_pos c).symm.trans e
        obtain rfl := Option.some.inj e
        exact r_retV (pc := 30) p94 k94_30 rfl
      · have e := (if_neg c).symm.trans e
        exact t94_17 s l h0 r e

theorem p95 : ab_prog[95]? = some (ab_m95, ab_c95) := rfl
theorem k95_0 : ab_fetch ab_c95 0 = some (.iload_n 0, 1, 0, 0) := rfl
theorem k95_1 : ab_fetch ab_c95 1 = some (.bipush 12, 2, 0, 0) := rfl
theorem k95_3 : ab_fetch ab_c95 3 = some (.ishr, 1, 0, 0) := rfl
theorem k95_4 : ab_fetch ab_c95 4 = some (.bipush 31, 2, 0, 0) := rfl
theorem k95_6 : ab_fetch ab_c95 6 = some (.ishl, 1, 0, 0) := rfl
theorem k95_7 : ab_fetch ab_c95 7 = some (.iload_n 0, 1, 0, 0) := rfl
theorem k95_8 : ab_fetch ab_c95 8 = some (.iconst 5, 1, 0, 0) := rfl
theorem k95_9 : ab_fetch ab_c95 9 = some (.ishr, 1, 0, 0) := rfl
theorem k95_10 : ab_fetch ab_c95 10 = some (.bipush 63, 2, 0, 0) := rfl
theorem k95_12 : ab_fetch ab_c95 12 = some (.iand, 1, 0, 0) := rfl
theorem k95_13 : ab_fetch ab_c95 13 = some (.bipush 25, 2, 0, 0) := rfl
theorem k95_15 : ab_fetch ab_c95 15 = some (.ishl, 1, 0, 0) := rfl
theorem k95_16 : ab_fetch ab_c95 16 = some (.ior, 1, 0, 0) := rfl
theorem k95_17 : ab_fetch ab_c95 17 = some (.iload_n 0, 1, 0, 0) := rfl
theorem k95_18 : ab_fetch ab_c95 18 = some (.iconst 1, 1, 0, 0) := rfl
theorem k95_19 : ab_fetch ab_c95 19 = some (.ishr, 1, 0, 0) := rfl
theorem k95_20 : ab_fetch ab_c95 20 = some (.bipush 15, 2, 0, 0) := rfl
theorem k95_22 : ab_fetch ab_c95 22 = some (.iand, 1, 0, 0) := rfl
theorem k95_23 : ab_fetch ab_c95 23 = some (.bipush 8, 2, 0, 0) := rfl
theorem k95_25 : ab_fetch ab_c95 25 = some (.ishl, 1, 0, 0) := rfl
theorem k95_26 : ab_fetch ab_c95 26 = some (.ior, 1, 0, 0) := rfl
theorem k95_27 : ab_fetch ab_c95 27 = some (.iload_n 0, 1, 0, 0) := rfl
theorem k95_28 : ab_fetch ab_c95 28 = some (.bipush 11, 2, 0, 0) := rfl
theorem k95_30 : ab_fetch ab_c95 30 = some (.ishr, 1, 0, 0) := rfl
theorem k95_31 : ab_fetch ab_c95 31 = some (.iconst 1, 1, 0, 0) := rfl
theorem k95_32 : ab_fetch ab_c95 32 = some (.iand, 1, 0, 0) := rfl
theorem k95_33 : ab_fetch ab_c95 33 = some (.bipush 7, 2, 0, 0) := rfl
theorem k95_35 : ab_fetch ab_c95 35 = some (.ishl, 1, 0, 0) := rfl
theorem k95_36 : ab_fetch ab_c95 36 = some (.ior, 1, 0, 0) := rfl
theorem k95_37 : ab_fetch ab_c95 37 = some (.ireturn, 1, 0, 0) := rfl
/- CodeSmith$Assembler branchBits(I)I -/
def f95 (x0 : Int32) : Int32 := (((((x0 >>> ((12 : Int32) &&& 31)) <<< ((31 : Int32) &&& 31)) ||| (((x0 >>> ((5 : Int32) &&& 31)) &&& (63 : Int32)) <<< ((25 : Int32) &&& 31))) ||| (((x0 >>> ((1 : Int32) &&& 31)) &&& (15 : Int32)) <<< ((8 : Int32) &&& 31))) ||| (((x0 >>> ((11 : Int32) &&& 31)) &&& (1 : Int32)) <<< ((7 : Int32) &&& 31)))
theorem t95 {d : Nat} {h : ab_H} (x0 : Int32) (r : Int32) (e : f95 x0 = r) : ab_Rn d 95 0 (lv_args 0 [.int x0]) [] h (.inl (some (.int r))) h := by
  unfold f95 at e
  obtain ⟨l, hl⟩ : ∃ l, l = (lv_args 0 [.int x0]) := ⟨_, rfl⟩
  rw [← hl]
  have h0 : ab_get l 0 = some (.int x0) := by rw [hl]; rfl
  refine r_iload_n (pc := 0) p95 k95_0 h0 ?_
  refine r_bipush (pc := 1) p95 k95_1 (v := (12 : Int32)) rfl ?_
  refine r_ishr (pc := 3) p95 k95_3 ?_
  refine r_bipush (pc := 4) p95 k95_4 (v := (31 : Int32)) rfl ?_
  refine r_ishl (pc := 6) p95 k95_6 ?_
  refine r_iload_n (pc := 7) p95 k95_7 h0 ?_
  refine r_iconst (pc := 8) p95 k95_8 (v := (5 : Int32)) rfl ?_
  refine r_ishr (pc := 9) p95 k95_9 ?_
  refine r_bipush (pc := 10) p95 k95_10 (v := (63 : Int32)) rfl ?_
  refine r_iand (pc := 12) p95 k95_12 ?_
  refine r_bipush (pc := 13) p95 k95_13 (v := (25 : Int32)) rfl ?_
  refine r_ishl (pc := 15) p95 k95_15 ?_
  refine r_ior (pc := 16) p95 k95_16 ?_
  refine r_iload_n (pc := 17) p95 k95_17 h0 ?_
  refine r_iconst (pc := 18) p95 k95_18 (v := (1 : Int32)) rfl ?_
  refine r_ishr (pc := 19) p95 k95_19 ?_
  refine r_bipush (pc := 20) p95 k95_20 (v := (15 : Int32)) rfl ?_
  refine r_iand (pc := 22) p95 k95_22 ?_
  refine r_bipush (pc := 23) p95 k95_23 (v := (8 : Int32)) rfl ?_
  refine r_ishl (pc := 25) p95 k95_25 ?_
  refine r_ior (pc := 26) p95 k95_26 ?_
  refine r_iload_n (pc := 27) p95 k95_27 h0 ?_
  refine r_bipush (pc := 28) p95 k95_28 (v := (11 : Int32)) rfl ?_
  refine r_ishr (pc := 30) p95 k95_30 ?_
  refine r_iconst (pc := 31) p95 k95_31 (v := (1 : Int32)) rfl ?_
  refine r_iand (pc := 32) p95 k95_32 ?_
  refine r_bipush (pc := 33) p95 k95_33 (v := (7 : Int32)) rfl ?_
  refine r_ishl (pc := 35) p95 k95_35 ?_
  refine r_ior (pc := 36) p95 k95_36 ?_
  subst e
  exact r_retI (pc := 37) p95 k95_37 rfl

theorem p96 : ab_prog[96]? = some (ab_m96, ab_c96) := rfl
theorem k96_0 : ab_fetch ab_c96 0 = some (.iload_n 0, 1, 0, 0) := rfl
theorem k96_1 : ab_fetch ab_c96 1 = some (.bipush 20, 2, 0, 0) := rfl
theorem k96_3 : ab_fetch ab_c96 3 = some (.ishr, 1, 0, 0) := rfl
theorem k96_4 : ab_fetch ab_c96 4 = some (.bipush 31, 2, 0, 0) := rfl
theorem k96_6 : ab_fetch ab_c96 6 = some (.ishl, 1, 0, 0) := rfl
theorem k96_7 : ab_fetch ab_c96 7 = some (.iload_n 0, 1, 0, 0) := rfl
theorem k96_8 : ab_fetch ab_c96 8 = some (.iconst 1, 1, 0, 0) := rfl
theorem k96_9 : ab_fetch ab_c96 9 = some (.ishr, 1, 0, 0) := rfl
theorem k96_10 : ab_fetch ab_c96 10 = some (.sipush 1023, 3, 0, 0) := rfl
theorem k96_13 : ab_fetch ab_c96 13 = some (.iand, 1, 0, 0) := rfl
theorem k96_14 : ab_fetch ab_c96 14 = some (.bipush 21, 2, 0, 0) := rfl
theorem k96_16 : ab_fetch ab_c96 16 = some (.ishl, 1, 0, 0) := rfl
theorem k96_17 : ab_fetch ab_c96 17 = some (.ior, 1, 0, 0) := rfl
theorem k96_18 : ab_fetch ab_c96 18 = some (.iload_n 0, 1, 0, 0) := rfl
theorem k96_19 : ab_fetch ab_c96 19 = some (.bipush 11, 2, 0, 0) := rfl
theorem k96_21 : ab_fetch ab_c96 21 = some (.ishr, 1, 0, 0) := rfl
theorem k96_22 : ab_fetch ab_c96 22 = some (.iconst 1, 1, 0, 0) := rfl
theorem k96_23 : ab_fetch ab_c96 23 = some (.iand, 1, 0, 0) := rfl
theorem k96_24 : ab_fetch ab_c96 24 = some (.bipush 20, 2, 0, 0) := rfl
theorem k96_26 : ab_fetch ab_c96 26 = some (.ishl, 1, 0, 0) := rfl
theorem k96_27 : ab_fetch ab_c96 27 = some (.ior, 1, 0, 0) := rfl
theorem k96_28 : ab_fetch ab_c96 28 = some (.iload_n 0, 1, 0, 0) := rfl
theorem k96_29 : ab_fetch ab_c96 29 = some (.bipush 12, 2, 0, 0) := rfl
theorem k96_31 : ab_fetch ab_c96 31 = some (.ishr, 1, 0, 0) := rfl
theorem k96_32 : ab_fetch ab_c96 32 = some (.sipush 255, 3, 0, 0) := rfl
theorem k96_35 : ab_fetch ab_c96 35 = some (.iand, 1, 0, 0) := rfl
theorem k96_36 : ab_fetch ab_c96 36 = some (.bipush 12, 2, 0, 0) := rfl
theorem k96_38 : ab_fetch ab_c96 38 = some (.ishl, 1, 0, 0) := rfl
theorem k96_39 : ab_fetch ab_c96 39 = some (.ior, 1, 0, 0) := rfl
theorem k96_40 : ab_fetch ab_c96 40 = some (.ireturn, 1, 0, 0) := rfl
/- CodeSmith$Assembler jumpBits(I)I -/
def f96 (x0 : Int32) : Int32 := (((((x0 >>> ((20 : Int32) &&& 31)) <<< ((31 : Int32) &&& 31)) ||| (((x0 >>> ((1 : Int32) &&& 31)) &&& (1023 : Int32)) <<< ((21 : Int32) &&& 31))) ||| (((x0 >>> ((11 : Int32) &&& 31)) &&& (1 : Int32)) <<< ((20 : Int32) &&& 31))) ||| (((x0 >>> ((12 : Int32) &&& 31)) &&& (255 : Int32)) <<< ((12 : Int32) &&& 31)))
theorem t96 {d : Nat} {h : ab_H} (x0 : Int32) (r : Int32) (e : f96 x0 = r) : ab_Rn d 96 0 (lv_args 0 [.int x0]) [] h (.inl (some (.int r))) h := by
  unfold f96 at e
  obtain ⟨l, hl⟩ : ∃ l, l = (lv_args 0 [.int x0]) := ⟨_, rfl⟩
  rw [← hl]
  have h0 : ab_get l 0 = some (.int x0) := by rw [hl]; rfl
  refine r_iload_n (pc := 0) p96 k96_0 h0 ?_
  refine r_bipush (pc := 1) p96 k96_1 (v := (20 : Int32)) rfl ?_
  refine r_ishr (pc := 3) p96 k96_3 ?_
  refine r_bipush (pc := 4) p96 k96_4 (v := (31 : Int32)) rfl ?_
  refine r_ishl (pc := 6) p96 k96_6 ?_
  refine r_iload_n (pc := 7) p96 k96_7 h0 ?_
  refine r_iconst (pc := 8) p96 k96_8 (v := (1 : Int32)) rfl ?_
  refine r_ishr (pc := 9) p96 k96_9 ?_
  refine r_sipush (pc := 10) p96 k96_10 (v := (1023 : Int32)) rfl ?_
  refine r_iand (pc := 13) p96 k96_13 ?_
  refine r_bipush (pc := 14) p96 k96_14 (v := (21 : Int32)) rfl ?_
  refine r_ishl (pc := 16) p96 k96_16 ?_
  refine r_ior (pc := 17) p96 k96_17 ?_
  refine r_iload_n (pc := 18) p96 k96_18 h0 ?_
  refine r_bipush (pc := 19) p96 k96_19 (v := (11 : Int32)) rfl ?_
  refine r_ishr (pc := 21) p96 k96_21 ?_
  refine r_iconst (pc := 22) p96 k96_22 (v := (1 : Int32)) rfl ?_
  refine r_iand (pc := 23) p96 k96_23 ?_
  refine r_bipush (pc := 24) p96 k96_24 (v := (20 : Int32)) rfl ?_
  refine r_ishl (pc := 26) p96 k96_26 ?_
  refine r_ior (pc := 27) p96 k96_27 ?_
  refine r_iload_n (pc := 28) p96 k96_28 h0 ?_
  refine r_bipush (pc := 29) p96 k96_29 (v := (12 : Int32)) rfl ?_
  refine r_ishr (pc := 31) p96 k96_31 ?_
  refine r_sipush (pc := 32) p96 k96_32 (v := (255 : Int32)) rfl ?_
  refine r_iand (pc := 35) p96 k96_35 ?_
  refine r_bipush (pc := 36) p96 k96_36 (v := (12 : Int32)) rfl ?_
  refine r_ishl (pc := 38) p96 k96_38 ?_
  refine r_ior (pc := 39) p96 k96_39 ?_
  subst e
  exact r_retI (pc := 40) p96 k96_40 rfl

theorem p97 : ab_prog[97]? = some (ab_m97, ab_c97) := rfl
theorem k97_0 : ab_fetch ab_c97 0 = some (.aload_n 0, 1, 0, 0) := rfl
theorem k97_1 : ab_fetch ab_c97 1 = some (.getstatic 288, 3, 448, 0) := rfl
theorem k97_4 : ab_fetch ab_c97 4 = some (.getfield 117, 3, 100, 5) := rfl
theorem k97_7 : ab_fetch ab_c97 7 = some (.aload_n 0, 1, 0, 0) := rfl
theorem k97_8 : ab_fetch ab_c97 8 = some (.getfield 187, 3, 0, 11) := rfl
theorem k97_11 : ab_fetch ab_c97 11 = some (.bipush 7, 2, 0, 0) := rfl
theorem k97_13 : ab_fetch ab_c97 13 = some (.ishl, 1, 0, 0) := rfl
theorem k97_14 : ab_fetch ab_c97 14 = some (.ior, 1, 0, 0) := rfl
theorem k97_15 : ab_fetch ab_c97 15 = some (.aload_n 0, 1, 0, 0) := rfl
theorem k97_16 : ab_fetch ab_c97 16 = some (.getfield 196, 3, 0, 14) := rfl
theorem k97_19 : ab_fetch ab_c97 19 = some (.invokestatic 291, 3, 77, 1) := rfl
theorem k97_22 : ab_fetch ab_c97 22 = some (.bipush 12, 2, 0, 0) := rfl
theorem k97_24 : ab_fetch ab_c97 24 = some (.ishl, 1, 0, 0) := rfl
theorem k97_25 : ab_fetch ab_c97 25 = some (.ior, 1, 0, 0) := rfl
theorem k97_26 : ab_fetch ab_c97 26 = some (.iconst 4, 1, 0, 0) := rfl
theorem k97_27 : ab_fetch ab_c97 27 = some (.invokevirtual 212, 3, 82, 2) := rfl
theorem k97_30 : ab_fetch ab_c97 30 = some (.aload_n 0, 1, 0, 0) := rfl
theorem k97_31 : ab_fetch ab_c97 31 = some (.getstatic 285, 3, 412, 0) := rfl
theorem k97_34 : ab_fetch ab_c97 34 = some (.getfield 117, 3, 100, 5) := rfl
theorem k97_37 : ab_fetch ab_c97 37 = some (.aload_n 0, 1, 0, 0) := rfl
theorem k97_38 : ab_fetch ab_c97 38 = some (.getfield 187, 3, 0, 11) := rfl
theorem k97_41 : ab_fetch ab_c97 41 = some (.bipush 7, 2, 0, 0) := rfl
theorem k97_43 : ab_fetch ab_c97 43 = some (.ishl, 1, 0, 0) := rfl
theorem k97_44 : ab_fetch ab_c97 44 = some (.ior, 1, 0, 0) := rfl
theorem k97_45 : ab_fetch ab_c97 45 = some (.aload_n 0, 1, 0, 0) := rfl
theorem k97_46 : ab_fetch ab_c97 46 = some (.getfield 187, 3, 0, 11) := rfl
theorem k97_49 : ab_fetch ab_c97 49 = some (.bipush 15, 2, 0, 0) := rfl
theorem k97_51 : ab_fetch ab_c97 51 = some (.ishl, 1, 0, 0) := rfl
theorem k97_52 : ab_fetch ab_c97 52 = some (.ior, 1, 0, 0) := rfl
theorem k97_53 : ab_fetch ab_c97 53 = some (.aload_n 0, 1, 0, 0) := rfl
theorem k97_54 : ab_fetch ab_c97 54 = some (.getfield 196, 3, 0, 14) := rfl
theorem k97_57 : ab_fetch ab_c97 57 = some (.invokestatic 294, 3, 78, 1) := rfl
theorem k97_60 : ab_fetch ab_c97 60 = some (.bipush 20, 2, 0, 0) := rfl
theorem k97_62 : ab_fetch ab_c97 62 = some (.ishl, 1, 0, 0) := rfl
theorem k97_63 : ab_fetch ab_c97 63 = some (.ior, 1, 0, 0) := rfl
theorem k97_64 : ab_fetch ab_c97 64 = some (.iconst 4, 1, 0, 0) := rfl
theorem k97_65 : ab_fetch ab_c97 65 = some (.invokevirtual 212, 3, 82, 2) := rfl
theorem k97_68 : ab_fetch ab_c97 68 = some (.return_, 1, 0, 0) := rfl
/- CodeSmith$Assembler putAddress()V -/
def f97 (s : cS) : Option cS := ((f82 s (((en 448).2.2.2 ||| ((s.1 16 11) <<< ((7 : Int32) &&& 31))) ||| ((f77 (s.1 16 14)) <<< ((12 : Int32) &&& 31))) (4 : Int32)).bind fun r1 => ((f82 r1 ((((en 412).2.2.2 ||| ((r1.1 16 11) <<< ((7 : Int32) &&& 31))) ||| ((r1.1 16 11) <<< ((15 : Int32) &&& 31))) ||| ((f78 (r1.1 16 14)) <<< ((20 : Int32) &&& 31))) (4 : Int32)).bind fun r2 => some r2))
theorem t97 {d : Nat} {Z : Nat → ab_C} (s : cS) (r : cS) (e : f97 s = some r) : ab_Rn (d + 2) 97 0 (lv_args 0 [.ref 16]) [] (ch s Z) (.inl none) (ch r Z) := by
  unfold f97 at e
  obtain ⟨l, hl⟩ : ∃ l, l = (lv_args 0 [.ref 16]) := ⟨_, rfl⟩
  rw [← hl]
  have h0 : ab_get l 0 = some (.ref 16) := by rw [hl]; rfl
  refine r_aload_n (pc := 0) p97 k97_0 h0 ?_
  refine r_gstS (pc := 1) p97 k97_1 ?_
  refine r_sget (pc := 4) p97 k97_4 (en_code (by decide)) ?_
  refine r_aload_n (pc := 7) p97 k97_7 h0 ?_
  refine c_get (i := 16) rfl (pc := 8) p97 k97_8 rfl rfl (v := .int (s.1 16 11)) rfl ?_
  refine r_bipush (pc := 11) p97 k97_11 (v := (7 : Int32)) rfl ?_
  refine r_ishl (pc := 13) p97 k97_13 ?_
  refine r_ior (pc := 14) p97 k97_14 ?_
  refine r_aload_n (pc := 15) p97 k97_15 h0 ?_
  refine c_get (i := 16) rfl (pc := 16) p97 k97_16 rfl rfl (v := .int (s.1 16 14)) rfl ?_
  refine r_csv (pc := 19) p97 k97_19 rfl rfl p77 (r := [.int ((en 448).2.2.2 ||| ((s.1 16 11) <<< ((7 : Int32) &&& 31))), .ref 16]) rfl rfl rfl rfl (t77 (s.1 16 14) _ rfl) (w := [.int (f77 (s.1 16 14)), .int ((en 448).2.2.2 ||| ((s.1 16 11) <<< ((7 : Int32) &&& 31))), .ref 16]) rfl ?_
  refine r_bipush (pc := 22) p97 k97_22 (v := (12 : Int32)) rfl ?_
  refine r_ishl (pc := 24) p97 k97_24 ?_
  refine r_ior (pc := 25) p97 k97_25 ?_
  refine r_iconst (pc := 26) p97 k97_26 (v := (4 : Int32)) rfl ?_
  obtain ⟨r1, er1, e⟩ := of_bind e
  refine c_cv (i := 16) rfl (pc := 27) p97 k97_27 rfl p82 (r := []) rfl rfl rfl rfl rfl rfl (t82 s (((en 448).2.2.2 ||| ((s.1 16 11) <<< ((7 : Int32) &&& 31))) ||| ((f77 (s.1 16 14)) <<< ((12 : Int32) &&& 31))) (4 : Int32) r1 er1) (w := []) rfl ?_
  refine r_aload_n (pc := 30) p97 k97_30 h0 ?_
  refine r_gstS (pc := 31) p97 k97_31 ?_
  refine r_sget (pc := 34) p97 k97_34 (en_code (by decide)) ?_
  refine r_aload_n (pc := 37) p97 k97_37 h0 ?_
  refine c_get (i := 16) rfl (pc := 38) p97 k97_38 rfl rfl (v := .int (r1.1 16 11)) rfl ?_
  refine r_bipush (pc := 41) p97 k97_41 (v := (7 : Int32)) rfl ?_
  refine r_ishl (pc := 43) p97 k97_43 ?_
  refine r_ior (pc := 44) p97 k97_44 ?_
  refine r_aload_n (pc := 45) p97 k97_45 h0 ?_
  refine c_get (i := 16) rfl (pc := 46) p97 k97_46 rfl rfl (v := .int (r1.1 16 11)) rfl ?_
  refine r_bipush (pc := 49) p97 k97_49 (v := (15 : Int32)) rfl ?_
  refine r_ishl (pc := 51) p97 k97_51 ?_
  refine r_ior (pc := 52) p97 k97_52 ?_
  refine r_aload_n (pc := 53) p97 k97_53 h0 ?_
  refine c_get (i := 16) rfl (pc := 54) p97 k97_54 rfl rfl (v := .int (r1.1 16 14)) rfl ?_
  refine r_csv (pc := 57) p97 k97_57 rfl rfl p78 (r := [.int (((en 412).2.2.2 ||| ((r1.1 16 11) <<< ((7 : Int32) &&& 31))) ||| ((r1.1 16 11) <<< ((15 : Int32) &&& 31))), .ref 16]) rfl rfl rfl rfl (t78 (r1.1 16 14) _ rfl) (w := [.int (f78 (r1.1 16 14)), .int (((en 412).2.2.2 ||| ((r1.1 16 11) <<< ((7 : Int32) &&& 31))) ||| ((r1.1 16 11) <<< ((15 : Int32) &&& 31))), .ref 16]) rfl ?_
  refine r_bipush (pc := 60) p97 k97_60 (v := (20 : Int32)) rfl ?_
  refine r_ishl (pc := 62) p97 k97_62 ?_
  refine r_ior (pc := 63) p97 k97_63 ?_
  refine r_iconst (pc := 64) p97 k97_64 (v := (4 : Int32)) rfl ?_
  obtain ⟨r2, er2, e⟩ := of_bind e
  refine c_cv (i := 16) rfl (pc := 65) p97 k97_65 rfl p82 (r := []) rfl rfl rfl rfl rfl rfl (t82 r1 ((((en 412).2.2.2 ||| ((r1.1 16 11) <<< ((7 : Int32) &&& 31))) ||| ((r1.1 16 11) <<< ((15 : Int32) &&& 31))) ||| ((f78 (r1.1 16 14)) <<< ((20 : Int32) &&& 31))) (4 : Int32) r2 er2) (w := []) rfl ?_
  obtain rfl := Option.some.inj e
  exact r_retV (pc := 68) p97 k97_68 rfl

theorem p98 : ab_prog[98]? = some (ab_m98, ab_c98) := rfl
theorem k98_0 : ab_fetch ab_c98 0 = some (.aload_n 0, 1, 0, 0) := rfl
theorem k98_1 : ab_fetch ab_c98 1 = some (.getfield 29, 3, 0, 4) := rfl
theorem k98_4 : ab_fetch ab_c98 4 = some (.getfield 200, 3, 1, 3) := rfl
theorem k98_7 : ab_fetch ab_c98 7 = some (.ifCond .eq 27, 3, 34, 0) := rfl
theorem k98_10 : ab_fetch ab_c98 10 = some (.aload_n 0, 1, 0, 0) := rfl
theorem k98_11 : ab_fetch ab_c98 11 = some (.getfield 196, 3, 0, 14) := rfl
theorem k98_14 : ab_fetch ab_c98 14 = some (.sipush (-2048), 3, 0, 0) := rfl
theorem k98_17 : ab_fetch ab_c98 17 = some (.if_icmp .lt 17, 3, 34, 0) := rfl
theorem k98_20 : ab_fetch ab_c98 20 = some (.aload_n 0, 1, 0, 0) := rfl
theorem k98_21 : ab_fetch ab_c98 21 = some (.getfield 196, 3, 0, 14) := rfl
theorem k98_24 : ab_fetch ab_c98 24 = some (.sipush 2047, 3, 0, 0) := rfl
theorem k98_27 : ab_fetch ab_c98 27 = some (.if_icmp .gt 7, 3, 34, 0) := rfl
theorem k98_30 : ab_fetch ab_c98 30 = some (.iconst 1, 1, 0, 0) := rfl
theorem k98_31 : ab_fetch ab_c98 31 = some (.goto 4, 3, 35, 0) := rfl
theorem k98_34 : ab_fetch ab_c98 34 = some (.iconst 0, 1, 0, 0) := rfl
theorem k98_35 : ab_fetch ab_c98 35 = some (.ireturn, 1, 0, 0) := rfl
/- CodeSmith$Assembler isShort()Z -/
def f98 (s : cS) : Int32 := (if (s.1 17 3) = 0 then (0 : Int32) else (if (s.1 16 14) < (-2048 : Int32) then (0 : Int32) else (if (2047 : Int32) < (s.1 16 14) then (0 : Int32) else (1 : Int32))))
theorem t98 {d : Nat} {Z : Nat → ab_C} (s : cS) (r : Int32) (e : f98 s = r) : ab_Rn d 98 0 (lv_args 0 [.ref 16]) [] (ch s Z) (.inl (some (.int r))) (ch s Z) := by
  unfold f98 at e
  obtain ⟨l, hl⟩ : ∃ l, l = (lv_args 0 [.ref 16]) := ⟨_, rfl⟩
  rw [← hl]
  have h0 : ab_get l 0 = some (.ref 16) := by rw [hl]; rfl
  refine r_aload_n (pc := 0) p98 k98_0 h0 ?_
  refine c_get (i := 16) rfl (pc := 1) p98 k98_1 rfl rfl (v := .ref 17) rfl ?_
  refine c_get (i := 17) rfl (pc := 4) p98 k98_4 rfl rfl (v := .int (s.1 17 3)) rfl ?_
  refine r_if_eq (pc := 7) p98 k98_7 (fun c => ?_) (fun c => ?_)
  · have e := (if_pos c).symm.trans e
    refine r_iconst (pc := 34) p98 k98_34 (v := (0 : Int32)) rfl ?_
    subst e
    exact r_retZ (pc := 35) p98 k98_35 rfl (Or.inl rfl)
  · have e := (if_neg c).symm.trans e
    refine r_aload_n (pc := 10) p98 k98_10 h0 ?_
    refine c_get (i := 16) rfl (pc := 11) p98 k98_11 rfl rfl (v := .int (s.1 16 14)) rfl ?_
    refine r_sipush (pc := 14) p98 k98_14 (v := (-2048 : Int32)) rfl ?_
    refine r_ic_lt (pc := 17) p98 k98_17 (fun c => ?_) (fun c => ?_)
    · have e := (if_pos c).symm.trans e
      refine r_iconst (pc := 34) p98 k98_34 (v := (0 : Int32)) rfl ?_
      subst e
      exact r_retZ (pc := 35) p98 k98_35 rfl (Or.inl rfl)
    · have e := (if_neg c).symm.trans e
      refine r_aload_n (pc := 20) p98 k98_20 h0 ?_
      refine c_get (i := 16) rfl (pc := 21) p98 k98_21 rfl rfl (v := .int (s.1 16 14)) rfl ?_
      refine r_sipush (pc := 24) p98 k98_24 (v := (2047 : Int32)) rfl ?_
      refine r_ic_gt (pc := 27) p98 k98_27 (fun c => ?_) (fun c => ?_)
      · have e := (if_pos c).symm.trans e
        refine r_iconst (pc := 34) p98 k98_34 (v := (0 : Int32)) rfl ?_
        subst e
        exact r_retZ (pc := 35) p98 k98_35 rfl (Or.inl rfl)
      · have e := (if_neg c).symm.trans e
        refine r_iconst (pc := 30) p98 k98_30 (v := (1 : Int32)) rfl ?_
        refine r_goto (pc := 31) p98 k98_31 ?_
        subst e
        exact r_retZ (pc := 35) p98 k98_35 rfl (Or.inr rfl)

theorem p92 : ab_prog[92]? = some (ab_m92, ab_c92) := rfl
theorem k92_0 : ab_fetch ab_c92 0 = some (.aload_n 1, 1, 0, 0) := rfl
theorem k92_1 : ab_fetch ab_c92 1 = some (.getfield 117, 3, 100, 5) := rfl
theorem k92_4 : ab_fetch ab_c92 4 = some (.aload_n 0, 1, 0, 0) := rfl
theorem k92_5 : ab_fetch ab_c92 5 = some (.getfield 187, 3, 0, 11) := rfl
theorem k92_8 : ab_fetch ab_c92 8 = some (.bipush 7, 2, 0, 0) := rfl
theorem k92_10 : ab_fetch ab_c92 10 = some (.ishl, 1, 0, 0) := rfl
theorem k92_11 : ab_fetch ab_c92 11 = some (.ior, 1, 0, 0) := rfl
theorem k92_12 : ab_fetch ab_c92 12 = some (.aload_n 0, 1, 0, 0) := rfl
theorem k92_13 : ab_fetch ab_c92 13 = some (.getfield 190, 3, 0, 12) := rfl
theorem k92_16 : ab_fetch ab_c92 16 = some (.bipush 15, 2, 0, 0) := rfl
theorem k92_18 : ab_fetch ab_c92 18 = some (.ishl, 1, 0, 0) := rfl
theorem k92_19 : ab_fetch ab_c92 19 = some (.ior, 1, 0, 0) := rfl
theorem k92_20 : ab_fetch ab_c92 20 = some (.aload_n 0, 1, 0, 0) := rfl
theorem k92_21 : ab_fetch ab_c92 21 = some (.getfield 193, 3, 0, 13) := rfl
theorem k92_24 : ab_fetch ab_c92 24 = some (.bipush 20, 2, 0, 0) := rfl
theorem k92_26 : ab_fetch ab_c92 26 = some (.ishl, 1, 0, 0) := rfl
theorem k92_27 : ab_fetch ab_c92 27 = some (.ior, 1, 0, 0) := rfl
theorem k92_28 : ab_fetch ab_c92 28 = some (.istore_n 2, 1, 0, 0) := rfl
theorem k92_29 : ab_fetch ab_c92 29 = some (.aload_n 0, 1, 0, 0) := rfl
theorem k92_30 : ab_fetch ab_c92 30 = some (.getfield 196, 3, 0, 14) := rfl
theorem k92_33 : ab_fetch ab_c92 33 = some (.aload_n 0, 1, 0, 0) := rfl
theorem k92_34 : ab_fetch ab_c92 34 = some (.getfield 29, 3, 0, 4) := rfl
theorem k92_37 : ab_fetch ab_c92 37 = some (.getfield 203, 3, 1, 1) := rfl
theorem k92_40 : ab_fetch ab_c92 40 = some (.isub, 1, 0, 0) := rfl
theorem k92_41 : ab_fetch ab_c92 41 = some (.istore_n 3, 1, 0, 0) := rfl
theorem k92_42 : ab_fetch ab_c92 42 = some (.aload_n 1, 1, 0, 0) := rfl
theorem k92_43 : ab_fetch ab_c92 43 = some (.getfield 109, 3, 100, 4) := rfl
theorem k92_46 : ab_fetch ab_c92 46 = some (.tableswitch 286 7 15 #[50, 59, 90, 118, 162, 184, 213, 235, 242], 50, 0, 0) := rfl
theorem k92_96 : ab_fetch ab_c92 96 = some (.aload_n 0, 1, 0, 0) := rfl
theorem k92_97 : ab_fetch ab_c92 97 = some (.iload_n 2, 1, 0, 0) := rfl
theorem k92_98 : ab_fetch ab_c92 98 = some (.iconst 4, 1, 0, 0) := rfl
theorem k92_99 : ab_fetch ab_c92 99 = some (.invokevirtual 212, 3, 82, 2) := rfl
theorem k92_102 : ab_fetch ab_c92 102 = some (.goto 230, 3, 332, 0) := rfl
theorem k92_105 : ab_fetch ab_c92 105 = some (.aload_n 0, 1, 0, 0) := rfl
theorem k92_106 : ab_fetch ab_c92 106 = some (.aload_n 0, 1, 0, 0) := rfl
theorem k92_107 : ab_fetch ab_c92 107 = some (.getfield 196, 3, 0, 14) := rfl
theorem k92_110 : ab_fetch ab_c92 110 = some (.sipush (-2048), 3, 0, 0) := rfl
theorem k92_113 : ab_fetch ab_c92 113 = some (.sipush 2047, 3, 0, 0) := rfl
theorem k92_116 : ab_fetch ab_c92 116 = some (.invokevirtual 268, 3, 93, 3) := rfl
theorem k92_119 : ab_fetch ab_c92 119 = some (.aload_n 0, 1, 0, 0) := rfl
theorem k92_120 : ab_fetch ab_c92 120 = some (.iload_n 2, 1, 0, 0) := rfl
theorem k92_121 : ab_fetch ab_c92 121 = some (.aload_n 0, 1, 0, 0) := rfl
theorem k92_122 : ab_fetch ab_c92 122 = some (.getfield 196, 3, 0, 14) := rfl
theorem k92_125 : ab_fetch ab_c92 125 = some (.bipush 20, 2, 0, 0) := rfl
theorem k92_127 : ab_fetch ab_c92 127 = some (.ishl, 1, 0, 0) := rfl
theorem k92_128 : ab_fetch ab_c92 128 = some (.ior, 1, 0, 0) := rfl
theorem k92_129 : ab_fetch ab_c92 129 = some (.iconst 4, 1, 0, 0) := rfl
theorem k92_130 : ab_fetch ab_c92 130 = some (.invokevirtual 212, 3, 82, 2) := rfl
theorem k92_133 : ab_fetch ab_c92 133 = some (.goto 199, 3, 332, 0) := rfl
theorem k92_136 : ab_fetch ab_c92 136 = some (.aload_n 0, 1, 0, 0) := rfl
theorem k92_137 : ab_fetch ab_c92 137 = some (.aload_n 0, 1, 0, 0) := rfl
theorem k92_138 : ab_fetch ab_c92 138 = some (.getfield 196, 3, 0, 14) := rfl
theorem k92_141 : ab_fetch ab_c92 141 = some (.iconst 0, 1, 0, 0) := rfl
theorem k92_142 : ab_fetch ab_c92 142 = some (.bipush 31, 2, 0, 0) := rfl
theorem k92_144 : ab_fetch ab_c92 144 = some (.invokevirtual 268, 3, 93, 3) := rfl
theorem k92_147 : ab_fetch ab_c92 147 = some (.aload_n 0, 1, 0, 0) := rfl
theorem k92_148 : ab_fetch ab_c92 148 = some (.iload_n 2, 1, 0, 0) := rfl
theorem k92_149 : ab_fetch ab_c92 149 = some (.aload_n 0, 1, 0, 0) := rfl
theorem k92_150 : ab_fetch ab_c92 150 = some (.getfield 196, 3, 0, 14) := rfl
theorem k92_153 : ab_fetch ab_c92 153 = some (.bipush 20, 2, 0, 0) := rfl
theorem k92_155 : ab_fetch ab_c92 155 = some (.ishl, 1, 0, 0) := rfl
theorem k92_156 : ab_fetch ab_c92 156 = some (.ior, 1, 0, 0) := rfl
theorem k92_157 : ab_fetch ab_c92 157 = some (.iconst 4, 1, 0, 0) := rfl
theorem k92_158 : ab_fetch ab_c92 158 = some (.invokevirtual 212, 3, 82, 2) := rfl
theorem k92_161 : ab_fetch ab_c92 161 = some (.goto 171, 3, 332, 0) := rfl
theorem k92_164 : ab_fetch ab_c92 164 = some (.aload_n 0, 1, 0, 0) := rfl
theorem k92_165 : ab_fetch ab_c92 165 = some (.aload_n 0, 1, 0, 0) := rfl
theorem k92_166 : ab_fetch ab_c92 166 = some (.getfield 196, 3, 0, 14) := rfl
theorem k92_169 : ab_fetch ab_c92 169 = some (.sipush (-2048), 3, 0, 0) := rfl
theorem k92_172 : ab_fetch ab_c92 172 = some (.sipush 2047, 3, 0, 0) := rfl
theorem k92_175 : ab_fetch ab_c92 175 = some (.invokevirtual 268, 3, 93, 3) := rfl
theorem k92_178 : ab_fetch ab_c92 178 = some (.aload_n 0, 1, 0, 0) := rfl
theorem k92_179 : ab_fetch ab_c92 179 = some (.iload_n 2, 1, 0, 0) := rfl
theorem k92_180 : ab_fetch ab_c92 180 = some (.aload_n 0, 1, 0, 0) := rfl
theorem k92_181 : ab_fetch ab_c92 181 = some (.getfield 196, 3, 0, 14) := rfl
theorem k92_184 : ab_fetch ab_c92 184 = some (.iconst 5, 1, 0, 0) := rfl
theorem k92_185 : ab_fetch ab_c92 185 = some (.ishr, 1, 0, 0) := rfl
theorem k92_186 : ab_fetch ab_c92 186 = some (.bipush 25, 2, 0, 0) := rfl
theorem k92_188 : ab_fetch ab_c92 188 = some (.ishl, 1, 0, 0) := rfl
theorem k92_189 : ab_fetch ab_c92 189 = some (.ior, 1, 0, 0) := rfl
theorem k92_190 : ab_fetch ab_c92 190 = some (.aload_n 0, 1, 0, 0) := rfl
theorem k92_191 : ab_fetch ab_c92 191 = some (.getfield 196, 3, 0, 14) := rfl
theorem k92_194 : ab_fetch ab_c92 194 = some (.bipush 31, 2, 0, 0) := rfl
theorem k92_196 : ab_fetch ab_c92 196 = some (.iand, 1, 0, 0) := rfl
theorem k92_197 : ab_fetch ab_c92 197 = some (.bipush 7, 2, 0, 0) := rfl
theorem k92_199 : ab_fetch ab_c92 199 = some (.ishl, 1, 0, 0) := rfl
theorem k92_200 : ab_fetch ab_c92 200 = some (.ior, 1, 0, 0) := rfl
theorem k92_201 : ab_fetch ab_c92 201 = some (.iconst 4, 1, 0, 0) := rfl
theorem k92_202 : ab_fetch ab_c92 202 = some (.invokevirtual 212, 3, 82, 2) := rfl
theorem k92_205 : ab_fetch ab_c92 205 = some (.goto 127, 3, 332, 0) := rfl
theorem k92_208 : ab_fetch ab_c92 208 = some (.aload_n 0, 1, 0, 0) := rfl
theorem k92_209 : ab_fetch ab_c92 209 = some (.iload_n 3, 1, 0, 0) := rfl
theorem k92_210 : ab_fetch ab_c92 210 = some (.sipush 4096, 3, 0, 0) := rfl
theorem k92_213 : ab_fetch ab_c92 213 = some (.invokevirtual 271, 3, 94, 2) := rfl
theorem k92_216 : ab_fetch ab_c92 216 = some (.aload_n 0, 1, 0, 0) := rfl
theorem k92_217 : ab_fetch ab_c92 217 = some (.iload_n 2, 1, 0, 0) := rfl
theorem k92_218 : ab_fetch ab_c92 218 = some (.iload_n 3, 1, 0, 0) := rfl
theorem k92_219 : ab_fetch ab_c92 219 = some (.invokestatic 274, 3, 95, 1) := rfl
theorem k92_222 : ab_fetch ab_c92 222 = some (.ior, 1, 0, 0) := rfl
theorem k92_223 : ab_fetch ab_c92 223 = some (.iconst 4, 1, 0, 0) := rfl
theorem k92_224 : ab_fetch ab_c92 224 = some (.invokevirtual 212, 3, 82, 2) := rfl
theorem k92_227 : ab_fetch ab_c92 227 = some (.goto 105, 3, 332, 0) := rfl
theorem k92_230 : ab_fetch ab_c92 230 = some (.aload_n 0, 1, 0, 0) := rfl
theorem k92_231 : ab_fetch ab_c92 231 = some (.aload_n 0, 1, 0, 0) := rfl
theorem k92_232 : ab_fetch ab_c92 232 = some (.getfield 196, 3, 0, 14) := rfl
theorem k92_235 : ab_fetch ab_c92 235 = some (.iconst 0, 1, 0, 0) := rfl
theorem k92_236 : ab_fetch ab_c92 236 = some (.ldc_w 277, 3, 1048575, 0) := rfl
theorem k92_239 : ab_fetch ab_c92 239 = some (.invokevirtual 268, 3, 93, 3) := rfl
theorem k92_242 : ab_fetch ab_c92 242 = some (.aload_n 0, 1, 0, 0) := rfl
theorem k92_243 : ab_fetch ab_c92 243 = some (.iload_n 2, 1, 0, 0) := rfl
theorem k92_244 : ab_fetch ab_c92 244 = some (.aload_n 0, 1, 0, 0) := rfl
theorem k92_245 : ab_fetch ab_c92 245 = some (.getfield 196, 3, 0, 14) := rfl
theorem k92_248 : ab_fetch ab_c92 248 = some (.bipush 12, 2, 0, 0) := rfl
theorem k92_250 : ab_fetch ab_c92 250 = some (.ishl, 1, 0, 0) := rfl
theorem k92_251 : ab_fetch ab_c92 251 = some (.ior, 1, 0, 0) := rfl
theorem k92_252 : ab_fetch ab_c92 252 = some (.iconst 4, 1, 0, 0) := rfl
theorem k92_253 : ab_fetch ab_c92 253 = some (.invokevirtual 212, 3, 82, 2) := rfl
theorem k92_256 : ab_fetch ab_c92 256 = some (.goto 76, 3, 332, 0) := rfl
theorem k92_259 : ab_fetch ab_c92 259 = some (.aload_n 0, 1, 0, 0) := rfl
theorem k92_260 : ab_fetch ab_c92 260 = some (.iload_n 3, 1, 0, 0) := rfl
theorem k92_261 : ab_fetch ab_c92 261 = some (.ldc_w 278, 3, 1048576, 0) := rfl
theorem k92_264 : ab_fetch ab_c92 264 = some (.invokevirtual 271, 3, 94, 2) := rfl
theorem k92_267 : ab_fetch ab_c92 267 = some (.aload_n 0, 1, 0, 0) := rfl
theorem k92_268 : ab_fetch ab_c92 268 = some (.iload_n 2, 1, 0, 0) := rfl
theorem k92_269 : ab_fetch ab_c92 269 = some (.iload_n 3, 1, 0, 0) := rfl
theorem k92_270 : ab_fetch ab_c92 270 = some (.invokestatic 279, 3, 96, 1) := rfl
theorem k92_273 : ab_fetch ab_c92 273 = some (.ior, 1, 0, 0) := rfl
theorem k92_274 : ab_fetch ab_c92 274 = some (.iconst 4, 1, 0, 0) := rfl
theorem k92_275 : ab_fetch ab_c92 275 = some (.invokevirtual 212, 3, 82, 2) := rfl
theorem k92_278 : ab_fetch ab_c92 278 = some (.goto 54, 3, 332, 0) := rfl
theorem k92_281 : ab_fetch ab_c92 281 = some (.aload_n 0, 1, 0, 0) := rfl
theorem k92_282 : ab_fetch ab_c92 282 = some (.invokevirtual 282, 3, 97, 0) := rfl
theorem k92_285 : ab_fetch ab_c92 285 = some (.goto 47, 3, 332, 0) := rfl
theorem k92_288 : ab_fetch ab_c92 288 = some (.aload_n 0, 1, 0, 0) := rfl
theorem k92_289 : ab_fetch ab_c92 289 = some (.invokevirtual 258, 3, 98, 0) := rfl
theorem k92_292 : ab_fetch ab_c92 292 = some (.ifCond .eq 33, 3, 325, 0) := rfl
theorem k92_295 : ab_fetch ab_c92 295 = some (.aload_n 0, 1, 0, 0) := rfl
theorem k92_296 : ab_fetch ab_c92 296 = some (.getstatic 285, 3, 412, 0) := rfl
theorem k92_299 : ab_fetch ab_c92 299 = some (.getfield 117, 3, 100, 5) := rfl
theorem k92_302 : ab_fetch ab_c92 302 = some (.aload_n 0, 1, 0, 0) := rfl
theorem k92_303 : ab_fetch ab_c92 303 = some (.getfield 187, 3, 0, 11) := rfl
theorem k92_306 : ab_fetch ab_c92 306 = some (.bipush 7, 2, 0, 0) := rfl
theorem k92_308 : ab_fetch ab_c92 308 = some (.ishl, 1, 0, 0) := rfl
theorem k92_309 : ab_fetch ab_c92 309 = some (.ior, 1, 0, 0) := rfl
theorem k92_310 : ab_fetch ab_c92 310 = some (.aload_n 0, 1, 0, 0) := rfl
theorem k92_311 : ab_fetch ab_c92 311 = some (.getfield 196, 3, 0, 14) := rfl
theorem k92_314 : ab_fetch ab_c92 314 = some (.bipush 20, 2, 0, 0) := rfl
theorem k92_316 : ab_fetch ab_c92 316 = some (.ishl, 1, 0, 0) := rfl
theorem k92_317 : ab_fetch ab_c92 317 = some (.ior, 1, 0, 0) := rfl
theorem k92_318 : ab_fetch ab_c92 318 = some (.iconst 4, 1, 0, 0) := rfl
theorem k92_319 : ab_fetch ab_c92 319 = some (.invokevirtual 212, 3, 82, 2) := rfl
theorem k92_322 : ab_fetch ab_c92 322 = some (.goto 10, 3, 332, 0) := rfl
theorem k92_325 : ab_fetch ab_c92 325 = some (.aload_n 0, 1, 0, 0) := rfl
theorem k92_326 : ab_fetch ab_c92 326 = some (.invokevirtual 282, 3, 97, 0) := rfl
theorem k92_329 : ab_fetch ab_c92 329 = some (.goto 3, 3, 332, 0) := rfl
theorem k92_332 : ab_fetch ab_c92 332 = some (.return_, 1, 0, 0) := rfl
/- CodeSmith$Assembler putInstruction(LCodeSmith$Statement;)V -/
def f92 (s : cS) (x1 : Nat) : Option (cS ⊕ cS) := if cE x1 then if cE x1 then (if (en x1).2.2.1 = 7 then ((f82 s ((((en x1).2.2.2 ||| ((s.1 16 11) <<< ((7 : Int32) &&& 31))) ||| ((s.1 16 12) <<< ((15 : Int32) &&& 31))) ||| ((s.1 16 13) <<< ((20 : Int32) &&& 31))) (4 : Int32)).bind fun r1 => some (.inl r1)) else if (en x1).2.2.1 = 8 then (tb (f93 s (s.1 16 14) (-2048 : Int32) (2047 : Int32)) fun r1 => ((f82 r1 (((((en x1).2.2.2 ||| ((s.1 16 11) <<< ((7 : Int32) &&& 31))) ||| ((s.1 16 12) <<< ((15 : Int32) &&& 31))) ||| ((s.1 16 13) <<< ((20 : Int32) &&& 31))) ||| ((r1.1 16 14) <<< ((20 : Int32) &&& 31))) (4 : Int32)).bind fun r2 => some (.inl r2))) else if (en x1).2.2.1 = 9 then (tb (f93 s (s.1 16 14) (0 : Int32) (31 : Int32)) fun r1 => ((f82 r1 (((((en x1).2.2.2 ||| ((s.1 16 11) <<< ((7 : Int32) &&& 31))) ||| ((s.1 16 12) <<< ((15 : Int32) &&& 31))) ||| ((s.1 16 13) <<< ((20 : Int32) &&& 31))) ||| ((r1.1 16 14) <<< ((20 : Int32) &&& 31))) (4 : Int32)).bind fun r2 => some (.inl r2))) else if (en x1).2.2.1 = 10 then (tb (f93 s (s.1 16 14) (-2048 : Int32) (2047 : Int32)) fun r1 => ((f82 r1 ((((((en x1).2.2.2 ||| ((s.1 16 11) <<< ((7 : Int32) &&& 31))) ||| ((s.1 16 12) <<< ((15 : Int32) &&& 31))) ||| ((s.1 16 13) <<< ((20 : Int32) &&& 31))) ||| (((r1.1 16 14) >>> ((5 : Int32) &&& 31)) <<< ((25 : Int32) &&& 31))) ||| (((r1.1 16 14) &&& (31 : Int32)) <<< ((7 : Int32) &&& 31))) (4 : Int32)).bind fun r2 => some (.inl r2))) else if (en x1).2.2.1 = 11 then (tb (f94 s ((s.1 16 14) - (s.1 17 1)) (4096 : Int32)) fun r1 => ((f82 r1 (((((en x1).2.2.2 ||| ((s.1 16 11) <<< ((7 : Int32) &&& 31))) ||| ((s.1 16 12) <<< ((15 : Int32) &&& 31))) ||| ((s.1 16 13) <<< ((20 : Int32) &&& 31))) ||| (f95 ((s.1 16 14) - (s.1 17 1)))) (4 : Int32)).bind fun r2 => some (.inl r2))) else if (en x1).2.2.1 = 12 then (tb (f93 s (s.1 16 14) (0 : Int32) (1048575 : Int32)) fun r1 => ((f82 r1 (((((en x1).2.2.2 ||| ((s.1 16 11) <<< ((7 : Int32) &&& 31))) ||| ((s.1 16 12) <<< ((15 : Int32) &&& 31))) ||| ((s.1 16 13) <<< ((20 : Int32) &&& 31))) ||| ((r1.1 16 14) <<< ((12 : Int32) &&& 31))) (4 : Int32)).bind fun r2 => some (.inl r2))) else if (en x1).2.2.1 = 13 then (tb (f94 s ((s.1 16 14) - (s.1 17 1)) (1048576 : Int32)) fun r1 => ((f82 r1 (((((en x1).2.2.2 ||| ((s.1 16 11) <<< ((7 : Int32) &&& 31))) ||| ((s.1 16 12) <<< ((15 : Int32) &&& 31))) ||| ((s.1 16 13) <<< ((20 : Int32) &&& 31))) ||| (f96 ((s.1 16 14) - (s.1 17 1)))) (4 : Int32)).bind fun r2 => some (.inl r2))) else if (en x1).2.2.1 = 14 then ((f97 s).bind fun r1 => some (.inl r1)) else if (en x1).2.2.1 = 15 then (if (f98 s) = 0 then ((f97 s).bind fun r1 => some (.inl r1)) else ((f82 s (((en 412).2.2.2 ||| ((s.1 16 11) <<< ((7 : Int32) &&& 31))) ||| ((s.1 16 14) <<< ((20 : Int32) &&& 31))) (4 : Int32)).bind fun r1 => some (.inl r1))) else some (.inl s)) else none else none
theorem t92 {d : Nat} {Z : Nat → ab_C} (s : cS) (x1 : Nat) (r : cS ⊕ cS) (e : f92 s x1 = some r) : ab_Rn (d + 3) 92 0 (lv_args 0 [.ref 16, .retAddr x1]) [] (ch s Z) (oV r) (ch (zV r) Z) := by
  unfold f92 at e
  obtain ⟨l, hl⟩ : ∃ l, l = (lv_args 0 [.ref 16, .retAddr x1]) := ⟨_, rfl⟩
  rw [← hl]
  have h0 : ab_get l 0 = some (.ref 16) := by rw [hl]; rfl
  have h1 : ab_get l 1 = some (.retAddr x1) := by rw [hl]; rfl
  refine r_aloadS_n (pc := 0) p92 k92_0 h1 ?_
  obtain ⟨c, e⟩ := of_if e
  refine r_sget (pc := 1) p92 k92_1 (en_code c) ?_
  refine r_aload_n (pc := 4) p92 k92_4 h0 ?_
  refine c_get (i := 16) rfl (pc := 5) p92 k92_5 rfl rfl (v := .int (s.1 16 11)) rfl ?_
  refine r_bipush (pc := 8) p92 k92_8 (v := (7 : Int32)) rfl ?_
  refine r_ishl (pc := 10) p92 k92_10 ?_
  refine r_ior (pc := 11) p92 k92_11 ?_
  refine r_aload_n (pc := 12) p92 k92_12 h0 ?_
  refine c_get (i := 16) rfl (pc := 13) p92 k92_13 rfl rfl (v := .int (s.1 16 12)) rfl ?_
  refine r_bipush (pc := 16) p92 k92_16 (v := (15 : Int32)) rfl ?_
  refine r_ishl (pc := 18) p92 k92_18 ?_
  refine r_ior (pc := 19) p92 k92_19 ?_
  refine r_aload_n (pc := 20) p92 k92_20 h0 ?_
  refine c_get (i := 16) rfl (pc := 21) p92 k92_21 rfl rfl (v := .int (s.1 16 13)) rfl ?_
  refine r_bipush (pc := 24) p92 k92_24 (v := (20 : Int32)) rfl ?_
  refine r_ishl (pc := 26) p92 k92_26 ?_
  refine r_ior (pc := 27) p92 k92_27 ?_
  refine r_istore_n (pc := 28) p92 k92_28 (by decide) (fun l g h2 => ?_)
  have h0 := g 0 _ (by decide) h0 (Or.inl rfl)
  have h1 := g 1 _ (by decide) h1 (Or.inl rfl)
  refine r_aload_n (pc := 29) p92 k92_29 h0 ?_
  refine c_get (i := 16) rfl (pc := 30) p92 k92_30 rfl rfl (v := .int (s.1 16 14)) rfl ?_
  refine r_aload_n (pc := 33) p92 k92_33 h0 ?_
  refine c_get (i := 16) rfl (pc := 34) p92 k92_34 rfl rfl (v := .ref 17) rfl ?_
  refine c_get (i := 17) rfl (pc := 37) p92 k92_37 rfl rfl (v := .int (s.1 17 1)) rfl ?_
  refine r_isub (pc := 40) p92 k92_40 ?_
  refine r_istore_n (pc := 41) p92 k92_41 (by decide) (fun l g h3 => ?_)
  have h0 := g 0 _ (by decide) h0 (Or.inl rfl)
  have h1 := g 1 _ (by decide) h1 (Or.inl rfl)
  have h2 := g 2 _ (by decide) h2 (Or.inl rfl)
  refine r_aloadS_n (pc := 42) p92 k92_42 h1 ?_
  obtain ⟨c, e⟩ := of_if e
  refine r_sget (pc := 43) p92 k92_43 (en_form c) ?_
  by_cases c0 : (en x1).2.2.1 = 7
  · have e := (if_pos c0).symm.trans e
    refine r_sw (t := 96) (st' := []) (pc := 46) p92 k92_46 rfl rfl rfl (by rw [c0]; rfl) ?_
    refine r_aload_n (pc := 96) p92 k92_96 h0 ?_
    refine r_iload_n (pc := 97) p92 k92_97 h2 ?_
    refine r_iconst (pc := 98) p92 k92_98 (v := (4 : Int32)) rfl ?_
    obtain ⟨r1, er1, e⟩ := of_bind e
    refine c_cv (i := 16) rfl (pc := 99) p92 k92_99 rfl p82 (r := []) rfl rfl rfl rfl rfl rfl (t82 s ((((en x1).2.2.2 ||| ((s.1 16 11) <<< ((7 : Int32) &&& 31))) ||| ((s.1 16 12) <<< ((15 : Int32) &&& 31))) ||| ((s.1 16 13) <<< ((20 : Int32) &&& 31))) (4 : Int32) r1 er1) (w := []) rfl ?_
    refine r_goto (pc := 102) p92 k92_102 ?_
    obtain rfl := Option.some.inj e
    exact r_retV (pc := 332) p92 k92_332 rfl
  have e := (if_neg c0).symm.trans e
  by_cases c1 : (en x1).2.2.1 = 8
  · have e := (if_pos c1).symm.trans e
    refine r_sw (t := 105) (st' := []) (pc := 46) p92 k92_46 rfl rfl rfl (by rw [c1]; rfl) ?_
    refine r_aload_n (pc := 105) p92 k92_105 h0 ?_
    refine r_aload_n (pc := 106) p92 k92_106 h0 ?_
    refine c_get (i := 16) rfl (pc := 107) p92 k92_107 rfl rfl (v := .int (s.1 16 14)) rfl ?_
    refine r_sipush (pc := 110) p92 k92_110 (v := (-2048 : Int32)) rfl ?_
    refine r_sipush (pc := 113) p92 k92_113 (v := (2047 : Int32)) rfl ?_
    rcases of_tb e with ⟨r1, er1, e⟩ | ⟨t, et, rfl⟩
    rotate_left
    · exact c_cvx (i := 16) rfl (pc := 116) p92 k92_116 rfl p93 (r := []) rfl rfl rfl rfl rfl rfl (t93 s (s.1 16 14) (-2048 : Int32) (2047 : Int32) _ et)
    refine c_cv (i := 16) rfl (pc := 116) p92 k92_116 rfl p93 (r := []) rfl rfl rfl rfl rfl rfl (t93 s (s.1 16 14) (-2048 : Int32) (2047 : Int32) _ er1) (w := []) rfl ?_
    refine r_aload_n (pc := 119) p92 k92_119 h0 ?_
    refine r_iload_n (pc := 120) p92 k92_120 h2 ?_
    refine r_aload_n (pc := 121) p92 k92_121 h0 ?_
    refine c_get (i := 16) rfl (pc := 122) p92 k92_122 rfl rfl (v := .int (r1.1 16 14)) rfl ?_
    refine r_bipush (pc := 125) p92 k92_125 (v := (20 : Int32)) rfl ?_
    refine r_ishl (pc := 127) p92 k92_127 ?_
    refine r_ior (pc := 128) p92 k92_128 ?_
    refine r_iconst (pc := 129) p92 k92_129 (v := (4 : Int32)) rfl ?_
    obtain ⟨r2, er2, e⟩ := of_bind e
    refine c_cv (i := 16) rfl (pc := 130) p92 k92_130 rfl p82 (r := []) rfl rfl rfl rfl rfl rfl (t82 r1 (((((en x1).2.2.2 ||| ((s.1 16 11) <<< ((7 : Int32) &&& 31))) ||| ((s.1 16 12) <<< ((15 : Int32) &&& 31))) ||| ((s.1 16 13) <<< ((20 : Int32) &&& 31))) ||| ((r1.1 16 14) <<< ((20 : Int32) &&& 31))) (4 : Int32) r2 er2) (w := []) rfl ?_
    refine r_goto (pc := 133) p92 k92_133 ?_
    obtain rfl := Option.some.inj e
    exact r_retV (pc := 332) p92 k92_332 rfl
  have e := (if_neg c1).symm.trans e
  by_cases c2 : (en x1).2.2.1 = 9
  · have e := (if_pos c2).symm.trans e
    refine r_sw (t := 136) (st' := []) (pc := 46) p92 k92_46 rfl rfl rfl (by rw [c2]; rfl) ?_
    refine r_aload_n (pc := 136) p92 k92_136 h0 ?_
    refine r_aload_n (pc := 137) p92 k92_137 h0 ?_
    refine c_get (i := 16) rfl (pc := 138) p92 k92_138 rfl rfl (v := .int (s.1 16 14)) rfl ?_
    refine r_iconst (pc := 141) p92 k92_141 (v := (0 : Int32)) rfl ?_
    refine r_bipush (pc := 142) p92 k92_142 (v := (31 : Int32)) rfl ?_
    rcases of_tb e with ⟨r1, er1, e⟩ | ⟨t, et, rfl⟩
    rotate_left
    · exact c_cvx (i := 16) rfl (pc := 144) p92 k92_144 rfl p93 (r := []) rfl rfl rfl rfl rfl rfl (t93 s (s.1 16 14) (0 : Int32) (31 : Int32) _ et)
    refine c_cv (i := 16) rfl (pc := 144) p92 k92_144 rfl p93 (r := []) rfl rfl rfl rfl rfl rfl (t93 s (s.1 16 14) (0 : Int32) (31 : Int32) _ er1) (w := []) rfl ?_
    refine r_aload_n (pc := 147) p92 k92_147 h0 ?_
    refine r_iload_n (pc := 148) p92 k92_148 h2 ?_
    refine r_aload_n (pc := 149) p92 k92_149 h0 ?_
    refine c_get (i := 16) rfl (pc := 150) p92 k92_150 rfl rfl (v := .int (r1.1 16 14)) rfl ?_
    refine r_bipush (pc := 153) p92 k92_153 (v := (20 : Int32)) rfl ?_
    refine r_ishl (pc := 155) p92 k92_155 ?_
    refine r_ior (pc := 156) p92 k92_156 ?_
    refine r_iconst (pc := 157) p92 k92_157 (v := (4 : Int32)) rfl ?_
    obtain ⟨r2, er2, e⟩ := of_bind e
    refine c_cv (i := 16) rfl (pc := 158) p92 k92_158 rfl p82 (r := []) rfl rfl rfl rfl rfl rfl (t82 r1 (((((en x1).2.2.2 ||| ((s.1 16 11) <<< ((7 : Int32) &&& 31))) ||| ((s.1 16 12) <<< ((15 : Int32) &&& 31))) ||| ((s.1 16 13) <<< ((20 : Int32) &&& 31))) ||| ((r1.1 16 14) <<< ((20 : Int32) &&& 31))) (4 : Int32) r2 er2) (w := []) rfl ?_
    refine r_goto (pc := 161) p92 k92_161 ?_
    obtain rfl := Option.some.inj e
    exact r_retV (pc := 332) p92 k92_332 rfl
  have e := (if_neg c2).symm.trans e
  by_cases c3 : (en x1).2.2.1 = 10
  · have e := (if_pos c3).symm.trans e
    refine r_sw (t := 164) (st' := []) (pc := 46) p92 k92_46 rfl rfl rfl (by rw [c3]; rfl) ?_
    refine r_aload_n (pc := 164) p92 k92_164 h0 ?_
    refine r_aload_n (pc := 165) p92 k92_165 h0 ?_
    refine c_get (i := 16) rfl (pc := 166) p92 k92_166 rfl rfl (v := .int (s.1 16 14)) rfl ?_
    refine r_sipush (pc := 169) p92 k92_169 (v := (-2048 : Int32)) rfl ?_
    refine r_sipush (pc := 172) p92 k92_172 (v := (2047 : Int32)) rfl ?_
    rcases of_tb e with ⟨r1, er1, e⟩ | ⟨t, et, rfl⟩
    rotate_left
    · exact c_cvx (i := 16) rfl (pc := 175) p92 k92_175 rfl p93 (r := []) rfl rfl rfl rfl rfl rfl (t93 s (s.1 16 14) (-2048 : Int32) (2047 : Int32) _ et)
    refine c_cv (i := 16) rfl (pc := 175) p92 k92_175 rfl p93 (r := []) rfl rfl rfl rfl rfl rfl (t93 s (s.1 16 14) (-2048 : Int32) (2047 : Int32) _ er1) (w := []) rfl ?_
    refine r_aload_n (pc := 178) p92 k92_178 h0 ?_
    refine r_iload_n (pc := 179) p92 k92_179 h2 ?_
    refine r_aload_n (pc := 180) p92 k92_180 h0 ?_
    refine c_get (i := 16) rfl (pc := 181) p92 k92_181 rfl rfl (v := .int (r1.1 16 14)) rfl ?_
    refine r_iconst (pc := 184) p92 k92_184 (v := (5 : Int32)) rfl ?_
    refine r_ishr (pc := 185) p92 k92_185 ?_
    refine r_bipush (pc := 186) p92 k92_186 (v := (25 : Int32)) rfl ?_
    refine r_ishl (pc := 188) p92 k92_188 ?_
    refine r_ior (pc := 189) p92 k92_189 ?_
    refine r_aload_n (pc := 190) p92 k92_190 h0 ?_
    refine c_get (i := 16) rfl (pc := 191) p92 k92_191 rfl rfl (v := .int (r1.1 16 14)) rfl ?_
    refine r_bipush (pc := 194) p92 k92_194 (v := (31 : Int32)) rfl ?_
    refine r_iand (pc := 196) p92 k92_196 ?_
    refine r_bipush (pc := 197) p92 k92_197 (v := (7 : Int32)) rfl ?_
    refine r_ishl (pc := 199) p92 k92_199 ?_
    refine r_ior (pc := 200) p92 k92_200 ?_
    refine r_iconst (pc := 201) p92 k92_201 (v := (4 : Int32)) rfl ?_
    obtain ⟨r2, er2, e⟩ := of_bind e
    refine c_cv (i := 16) rfl (pc := 202) p92 k92_202 rfl p82 (r := []) rfl rfl rfl rfl rfl rfl (t82 r1 ((((((en x1).2.2.2 ||| ((s.1 16 11) <<< ((7 : Int32) &&& 31))) ||| ((s.1 16 12) <<< ((15 : Int32) &&& 31))) ||| ((s.1 16 13) <<< ((20 : Int32) &&& 31))) ||| (((r1.1 16 14) >>> ((5 : Int32) &&& 31)) <<< ((25 : Int32) &&& 31))) ||| (((r1.1 16 14) &&& (31 : Int32)) <<< ((7 : Int32) &&& 31))) (4 : Int32) r2 er2) (w := []) rfl ?_
    refine r_goto (pc := 205) p92 k92_205 ?_
    obtain rfl := Option.some.inj e
    exact r_retV (pc := 332) p92 k92_332 rfl
  have e := (if_neg c3).symm.trans e
  by_cases c4 : (en x1).2.2.1 = 11
  · have e := (if_pos c4).symm.trans e
    refine r_sw (t := 208) (st' := []) (pc := 46) p92 k92_46 rfl rfl rfl (by rw [c4]; rfl) ?_
    refine r_aload_n (pc := 208) p92 k92_208 h0 ?_
    refine r_iload_n (pc := 209) p92 k92_209 h3 ?_
    refine r_sipush (pc := 210) p92 k92_210 (v := (4096 : Int32)) rfl ?_
    rcases of_tb e with ⟨r1, er1, e⟩ | ⟨t, et, rfl⟩
    rotate_left
    · exact c_cvx (i := 16) rfl (pc := 213) p92 k92_213 rfl p94 (r := []) rfl rfl rfl rfl rfl rfl (t94 s ((s.1 16 14) - (s.1 17 1)) (4096 : Int32) _ et)
    refine c_cv (i := 16) rfl (pc := 213) p92 k92_213 rfl p94 (r := []) rfl rfl rfl rfl rfl rfl (t94 s ((s.1 16 14) - (s.1 17 1)) (4096 : Int32) _ er1) (w := []) rfl ?_
    refine r_aload_n (pc := 216) p92 k92_216 h0 ?_
    refine r_iload_n (pc := 217) p92 k92_217 h2 ?_
    refine r_iload_n (pc := 218) p92 k92_218 h3 ?_
    refine r_csv (pc := 219) p92 k92_219 rfl rfl p95 (r := [.int ((((en x1).2.2.2 ||| ((s.1 16 11) <<< ((7 : Int32) &&& 31))) ||| ((s.1 16 12) <<< ((15 : Int32) &&& 31))) ||| ((s.1 16 13) <<< ((20 : Int32) &&& 31))), .ref 16]) rfl rfl rfl rfl (t95 ((s.1 16 14) - (s.1 17 1)) _ rfl) (w := [.int (f95 ((s.1 16 14) - (s.1 17 1))), .int ((((en x1).2.2.2 ||| ((s.1 16 11) <<< ((7 : Int32) &&& 31))) ||| ((s.1 16 12) <<< ((15 : Int32) &&& 31))) ||| ((s.1 16 13) <<< ((20 : Int32) &&& 31))), .ref 16]) rfl ?_
    refine r_ior (pc := 222) p92 k92_222 ?_
    refine r_iconst (pc := 223) p92 k92_223 (v := (4 : Int32)) rfl ?_
    obtain ⟨r2, er2, e⟩ := of_bind e
    refine c_cv (i := 16) rfl (pc := 224) p92 k92_224 rfl p82 (r := []) rfl rfl rfl rfl rfl rfl (t82 r1 (((((en x1).2.2.2 ||| ((s.1 16 11) <<< ((7 : Int32) &&& 31))) ||| ((s.1 16 12) <<< ((15 : Int32) &&& 31))) ||| ((s.1 16 13) <<< ((20 : Int32) &&& 31))) ||| (f95 ((s.1 16 14) - (s.1 17 1)))) (4 : Int32) r2 er2) (w := []) rfl ?_
    refine r_goto (pc := 227) p92 k92_227 ?_
    obtain rfl := Option.some.inj e
    exact r_retV (pc := 332) p92 k92_332 rfl
  have e := (if_neg c4).symm.trans e
  by_cases c5 : (en x1).2.2.1 = 12
  · have e := (if_pos c5).symm.trans e
    refine r_sw (t := 230) (st' := []) (pc := 46) p92 k92_46 rfl rfl rfl (by rw [c5]; rfl) ?_
    refine r_aload_n (pc := 230) p92 k92_230 h0 ?_
    refine r_aload_n (pc := 231) p92 k92_231 h0 ?_
    refine c_get (i := 16) rfl (pc := 232) p92 k92_232 rfl rfl (v := .int (s.1 16 14)) rfl ?_
    refine r_iconst (pc := 235) p92 k92_235 (v := (0 : Int32)) rfl ?_
    refine r_ldcwI (pc := 236) p92 k92_236 (v := (1048575 : Int32)) rfl ?_
    rcases of_tb e with ⟨r1, er1, e⟩ | ⟨t, et, rfl⟩
    rotate_left
    · exact c_cvx (i := 16) rfl (pc := 239) p92 k92_239 rfl p93 (r := []) rfl rfl rfl rfl rfl rfl (t93 s (s.1 16 14) (0 : Int32) (1048575 : Int32) _ et)
    refine c_cv (i := 16) rfl (pc := 239) p92 k92_239 rfl p93 (r := []) rfl rfl rfl rfl rfl rfl (t93 s (s.1 16 14) (0 : Int32) (1048575 : Int32) _ er1) (w := []) rfl ?_
    refine r_aload_n (pc := 242) p92 k92_242 h0 ?_
    refine r_iload_n (pc := 243) p92 k92_243 h2 ?_
    refine r_aload_n (pc := 244) p92 k92_244 h0 ?_
    refine c_get (i := 16) rfl (pc := 245) p92 k92_245 rfl rfl (v := .int (r1.1 16 14)) rfl ?_
    refine r_bipush (pc := 248) p92 k92_248 (v := (12 : Int32)) rfl ?_
    refine r_ishl (pc := 250) p92 k92_250 ?_
    refine r_ior (pc := 251) p92 k92_251 ?_
    refine r_iconst (pc := 252) p92 k92_252 (v := (4 : Int32)) rfl ?_
    obtain ⟨r2, er2, e⟩ := of_bind e
    refine c_cv (i := 16) rfl (pc := 253) p92 k92_253 rfl p82 (r := []) rfl rfl rfl rfl rfl rfl (t82 r1 (((((en x1).2.2.2 ||| ((s.1 16 11) <<< ((7 : Int32) &&& 31))) ||| ((s.1 16 12) <<< ((15 : Int32) &&& 31))) ||| ((s.1 16 13) <<< ((20 : Int32) &&& 31))) ||| ((r1.1 16 14) <<< ((12 : Int32) &&& 31))) (4 : Int32) r2 er2) (w := []) rfl ?_
    refine r_goto (pc := 256) p92 k92_256 ?_
    obtain rfl := Option.some.inj e
    exact r_retV (pc := 332) p92 k92_332 rfl
  have e := (if_neg c5).symm.trans e
  by_cases c6 : (en x1).2.2.1 = 13
  · have e := (if_pos c6).symm.trans e
    refine r_sw (t := 259) (st' := []) (pc := 46) p92 k92_46 rfl rfl rfl (by rw [c6]; rfl) ?_
    refine r_aload_n (pc := 259) p92 k92_259 h0 ?_
    refine r_iload_n (pc := 260) p92 k92_260 h3 ?_
    refine r_ldcwI (pc := 261) p92 k92_261 (v := (1048576 : Int32)) rfl ?_
    rcases of_tb e with ⟨r1, er1, e⟩ | ⟨t, et, rfl⟩
    rotate_left
    · exact c_cvx (i := 16) rfl (pc := 264) p92 k92_264 rfl p94 (r := []) rfl rfl rfl rfl rfl rfl (t94 s ((s.1 16 14) - (s.1 17 1)) (1048576 : Int32) _ et)
    refine c_cv (i := 16) rfl (pc := 264) p92 k92_264 rfl p94 (r := []) rfl rfl rfl rfl rfl rfl (t94 s ((s.1 16 14) - (s.1 17 1)) (1048576 : Int32) _ er1) (w := []) rfl ?_
    refine r_aload_n (pc := 267) p92 k92_267 h0 ?_
    refine r_iload_n (pc := 268) p92 k92_268 h2 ?_
    refine r_iload_n (pc := 269) p92 k92_269 h3 ?_
    refine r_csv (pc := 270) p92 k92_270 rfl rfl p96 (r := [.int ((((en x1).2.2.2 ||| ((s.1 16 11) <<< ((7 : Int32) &&& 31))) ||| ((s.1 16 12) <<< ((15 : Int32) &&& 31))) ||| ((s.1 16 13) <<< ((20 : Int32) &&& 31))), .ref 16]) rfl rfl rfl rfl (t96 ((s.1 16 14) - (s.1 17 1)) _ rfl) (w := [.int (f96 ((s.1 16 14) - (s.1 17 1))), .int ((((en x1).2.2.2 ||| ((s.1 16 11) <<< ((7 : Int32) &&& 31))) ||| ((s.1 16 12) <<< ((15 : Int32) &&& 31))) ||| ((s.1 16 13) <<< ((20 : Int32) &&& 31))), .ref 16]) rfl ?_
    refine r_ior (pc := 273) p92 k92_273 ?_
    refine r_iconst (pc := 274) p92 k92_274 (v := (4 : Int32)) rfl ?_
    obtain ⟨r2, er2, e⟩ := of_bind e
    refine c_cv (i := 16) rfl (pc := 275) p92 k92_275 rfl p82 (r := []) rfl rfl rfl rfl rfl rfl (t82 r1 (((((en x1).2.2.2 ||| ((s.1 16 11) <<< ((7 : Int32) &&& 31))) ||| ((s.1 16 12) <<< ((15 : Int32) &&& 31))) ||| ((s.1 16 13) <<< ((20 : Int32) &&& 31))) ||| (f96 ((s.1 16 14) - (s.1 17 1)))) (4 : Int32) r2 er2) (w := []) rfl ?_
    refine r_goto (pc := 278) p92 k92_278 ?_
    obtain rfl := Option.some.inj e
    exact r_retV (pc := 332) p92 k92_332 rfl
  have e := (if_neg c6).symm.trans e
  by_cases c7 : (en x1).2.2.1 = 14
  · have e := (if_pos c7).symm.trans e
    refine r_sw (t := 281) (st' := []) (pc := 46) p92 k92_46 rfl rfl rfl (by rw [c7]; rfl) ?_
    refine r_aload_n (pc := 281) p92 k92_281 h0 ?_
    obtain ⟨r1, er1, e⟩ := of_bind e
    refine c_cv (i := 16) rfl (pc := 282) p92 k92_282 rfl p97 (r := []) rfl rfl rfl rfl rfl rfl (t97 s r1 er1) (w := []) rfl ?_
    refine r_goto (pc := 285) p92 k92_285 ?_
    obtain rfl := Option.some.inj e
    exact r_retV (pc := 332) p92 k92_332 rfl
  have e := (if_neg c7).symm.trans e
  by_cases c8 : (en x1).2.2.1 = 15
  · have e := (if_pos c8).symm.trans e
    refine r_sw (t := 288) (st' := []) (pc := 46) p92 k92_46 rfl rfl rfl (by rw [c8]; rfl) ?_
    refine r_aload_n (pc := 288) p92 k92_288 h0 ?_
    refine c_cv (i := 16) rfl (pc := 289) p92 k92_289 rfl p98 (r := []) rfl rfl rfl rfl rfl rfl (t98 s _ rfl) (w := [.int (f98 s)]) rfl ?_
    refine r_if_eq (pc := 292) p92 k92_292 (fun c => ?_) (fun c => ?_)
    · have e := (if_pos c).symm.trans e
      refine r_aload_n (pc := 325) p92 k92_325 h0 ?_
      obtain ⟨r1, er1, e⟩ := of_bind e
      refine c_cv (i := 16) rfl (pc := 326) p92 k92_326 rfl p97 (r := []) rfl rfl rfl rfl rfl rfl (t97 s r1 er1) (w := []) rfl ?_
      refine r_goto (pc := 329) p92 k92_329 ?_
      obtain rfl := Option.some.inj e
      exact r_retV (pc := 332) p92 k92_332 rfl
    · have e := (if_neg c).symm.trans e
      refine r_aload_n (pc := 295) p92 k92_295 h0 ?_
      refine r_gstS (pc := 296) p92 k92_296 ?_
      refine r_sget (pc := 299) p92 k92_299 (en_code (by decide)) ?_
      refine r_aload_n (pc := 302) p92 k92_302 h0 ?_
      refine c_get (i := 16) rfl (pc := 303) p92 k92_303 rfl rfl (v := .int (s.1 16 11)) rfl ?_
      refine r_bipush (pc := 306) p92 k92_306 (v := (7 : Int32)) rfl ?_
      refine r_ishl (pc := 308) p92 k92_308 ?_
      refine r_ior (pc := 309) p92 k92_309 ?_
      refine r_aload_n (pc := 310) p92 k92_310 h0 ?_
      refine c_get (i := 16) rfl (pc := 311) p92 k92_311 rfl rfl (v := .int (s.1 16 14)) rfl ?_
      refine r_bipush (pc := 314) p92 k92_314 (v := (20 : Int32)) rfl ?_
      refine r_ishl (pc := 316) p92 k92_316 ?_
      refine r_ior (pc := 317) p92 k92_317 ?_
      refine r_iconst (pc := 318) p92 k92_318 (v := (4 : Int32)) rfl ?_
      obtain ⟨r1, er1, e⟩ := of_bind e
      refine c_cv (i := 16) rfl (pc := 319) p92 k92_319 rfl p82 (r := []) rfl rfl rfl rfl rfl rfl (t82 s (((en 412).2.2.2 ||| ((s.1 16 11) <<< ((7 : Int32) &&& 31))) ||| ((s.1 16 14) <<< ((20 : Int32) &&& 31))) (4 : Int32) r1 er1) (w := []) rfl ?_
      refine r_goto (pc := 322) p92 k92_322 ?_
      obtain rfl := Option.some.inj e
      exact r_retV (pc := 332) p92 k92_332 rfl
  have e := (if_neg c8).symm.trans e
  refine r_tswd (T := 332) (pc := 46) p92 k92_46 (by decide) (by decide) (by decide) (by
      intro k hk hx
      have hk : k < 9 := hk
      have hk : k = 0 ∨ k = 1 ∨ k = 2 ∨ k = 3 ∨ k = 4 ∨ k = 5 ∨ k = 6 ∨ k = 7 ∨ k = 8 := by omega
      rcases hk with rfl | rfl | rfl | rfl | rfl | rfl | rfl | rfl | rfl
      · exact absurd (Int32.toInt_inj.mp (hx.trans rfl)) c0
      · exact absurd (Int32.toInt_inj.mp (hx.trans rfl)) c1
      · exact absurd (Int32.toInt_inj.mp (hx.trans rfl)) c2
      · exact absurd (Int32.toInt_inj.mp (hx.trans rfl)) c3
      · exact absurd (Int32.toInt_inj.mp (hx.trans rfl)) c4
      · exact absurd (Int32.toInt_inj.mp (hx.trans rfl)) c5
      · exact absurd (Int32.toInt_inj.mp (hx.trans rfl)) c6
      · exact absurd (Int32.toInt_inj.mp (hx.trans rfl)) c7
      · exact absurd (Int32.toInt_inj.mp (hx.trans rfl)) c8) ?_
  obtain rfl := Option.some.inj e
  exact r_retV (pc := 332) p92 k92_332 rfl
