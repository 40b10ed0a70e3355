theorem p44 : ab_prog[44]? = some (ab_m44, ab_c44) := rfl
theorem k44_0 : ab_fetch ab_c44 0 = some (.aload_n 0, 1, 0, 0) := rfl
theorem k44_1 : ab_fetch ab_c44 1 = some (.getfield 59, 3, 4, 15) := rfl
theorem k44_4 : ab_fetch ab_c44 4 = some (.iconst 1, 1, 0, 0) := rfl
theorem k44_5 : ab_fetch ab_c44 5 = some (.iadd, 1, 0, 0) := rfl
theorem k44_6 : ab_fetch ab_c44 6 = some (.aload_n 0, 1, 0, 0) := rfl
theorem k44_7 : ab_fetch ab_c44 7 = some (.getfield 88, 3, 4, 14) := rfl
theorem k44_10 : ab_fetch ab_c44 10 = some (.if_icmp .ge 17, 3, 27, 0) := rfl
theorem k44_13 : ab_fetch ab_c44 13 = some (.aload_n 0, 1, 0, 0) := rfl
theorem k44_14 : ab_fetch ab_c44 14 = some (.getfield 15, 3, 4, 11) := rfl
theorem k44_17 : ab_fetch ab_c44 17 = some (.aload_n 0, 1, 0, 0) := rfl
theorem k44_18 : ab_fetch ab_c44 18 = some (.getfield 59, 3, 4, 15) := rfl
theorem k44_21 : ab_fetch ab_c44 21 = some (.iconst 1, 1, 0, 0) := rfl
theorem k44_22 : ab_fetch ab_c44 22 = some (.iadd, 1, 0, 0) := rfl
theorem k44_23 : ab_fetch ab_c44 23 = some (.iaload, 1, 0, 0) := rfl
theorem k44_24 : ab_fetch ab_c44 24 = some (.goto 4, 3, 28, 0) := rfl
theorem k44_27 : ab_fetch ab_c44 27 = some (.iconst 0, 1, 0, 0) := rfl
theorem k44_28 : ab_fetch ab_c44 28 = some (.ireturn, 1, 0, 0) := rfl
/- CodeSmith$Tokens kindBehind()I -/
def f44 (s : cS) : Option Int32 := (if (s.1 11 14) ≤ ((s.1 11 15) + (1 : Int32)) then some (0 : Int32) else if cB s 1 (s.2.1 11 11) ((s.1 11 15) + (1 : Int32)) then some (ce s (s.2.1 11 11) ((s.1 11 15) + (1 : Int32))) else none)
theorem t44 {d : Nat} {Z : Nat → ab_C} (s : cS) (r : Int32) (e : f44 s = some r) : ab_Rn d 44 0 (lv_args 0 [.ref 11]) [] (ch s Z) (.inl (some (.int r))) (ch s Z) := by
  unfold f44 at e
  obtain ⟨l, hl⟩ : ∃ l, l = (lv_args 0 [.ref 11]) := ⟨_, rfl⟩
  rw [← hl]
  have h0 : ab_get l 0 = some (.ref 11) := by rw [hl]; rfl
  refine r_aload_n (pc := 0) p44 k44_0 h0 ?_
  refine c_get (i := 11) rfl (pc := 1) p44 k44_1 rfl rfl (v := .int (s.1 11 15)) rfl ?_
  refine r_iconst (pc := 4) p44 k44_4 (v := (1 : Int32)) rfl ?_
  refine r_iadd (pc := 5) p44 k44_5 ?_
  refine r_aload_n (pc := 6) p44 k44_6 h0 ?_
  refine c_get (i := 11) rfl (pc := 7) p44 k44_7 rfl rfl (v := .int (s.1 11 14)) rfl ?_
  refine r_ic_ge (pc := 10) p44 k44_10 (fun c => ?_) (fun c => ?_)
  · have e := (if_pos c).symm.trans e
    refine r_iconst (pc := 27) p44 k44_27 (v := (0 : Int32)) rfl ?_
    obtain rfl := Option.some.inj e
    exact r_retI (pc := 28) p44 k44_28 rfl
  · have e := (if_neg c).symm.trans e
    refine r_aload_n (pc := 13) p44 k44_13 h0 ?_
    refine c_get (i := 11) rfl (pc := 14) p44 k44_14 rfl rfl (v := .ref (s.2.1 11 11)) rfl ?_
    refine r_aload_n (pc := 17) p44 k44_17 h0 ?_
    refine c_get (i := 11) rfl (pc := 18) p44 k44_18 rfl rfl (v := .int (s.1 11 15)) rfl ?_
    refine r_iconst (pc := 21) p44 k44_21 (v := (1 : Int32)) rfl ?_
    refine r_iadd (pc := 22) p44 k44_22 ?_
    obtain ⟨c, e⟩ := of_if e
    refine c_ild (pc := 23) p44 k44_23 c ?_
    refine r_goto (pc := 24) p44 k44_24 ?_
    obtain rfl := Option.some.inj e
    exact r_retI (pc := 28) p44 k44_28 rfl

theorem p46 : ab_prog[46]? = some (ab_m46, ab_c46) := rfl
theorem k46_0 : ab_fetch ab_c46 0 = some (.aload_n 0, 1, 0, 0) := rfl
theorem k46_1 : ab_fetch ab_c46 1 = some (.aload_n 0, 1, 0, 0) := rfl
theorem k46_2 : ab_fetch ab_c46 2 = some (.getfield 47, 3, 4, 6) := rfl
theorem k46_5 : ab_fetch ab_c46 5 = some (.putfield 35, 3, 4, 0) := rfl
theorem k46_8 : ab_fetch ab_c46 8 = some (.aload_n 0, 1, 0, 0) := rfl
theorem k46_9 : ab_fetch ab_c46 9 = some (.iload_n 1, 1, 0, 0) := rfl
theorem k46_10 : ab_fetch ab_c46 10 = some (.aload_n 0, 1, 0, 0) := rfl
theorem k46_11 : ab_fetch ab_c46 11 = some (.getfield 53, 3, 4, 9) := rfl
theorem k46_14 : ab_fetch ab_c46 14 = some (.isub, 1, 0, 0) := rfl
theorem k46_15 : ab_fetch ab_c46 15 = some (.putfield 38, 3, 4, 1) := rfl
theorem k46_18 : ab_fetch ab_c46 18 = some (.aload_n 0, 1, 0, 0) := rfl
theorem k46_19 : ab_fetch ab_c46 19 = some (.iload_n 2, 1, 0, 0) := rfl
theorem k46_20 : ab_fetch ab_c46 20 = some (.putfield 41, 3, 4, 2) := rfl
theorem k46_23 : ab_fetch ab_c46 23 = some (.new 65, 3, 7, 0) := rfl
theorem k46_26 : ab_fetch ab_c46 26 = some (.dup, 1, 0, 0) := rfl
theorem k46_27 : ab_fetch ab_c46 27 = some (.ldc 67, 2, 0, 1) := rfl
theorem k46_32 : ab_fetch ab_c46 32 = some (.athrow, 1, 0, 0) := rfl
/- CodeSmith$Tokens fail(II)V -/
def f46 (s : cS) (x1 : Int32) (x2 : Int32) : cS := (cn (cg (cg (cg s 11 0 (s.1 11 6)) 11 1 (x1 - (s.1 11 9))) 11 2 x2) 9 0)
theorem t46 {d : Nat} {Z : Nat → ab_C} (s : cS) (x1 : Int32) (x2 : Int32) (r : cS) (e : f46 s x1 x2 = r) : ab_Rn d 46 0 (lv_args 0 [.ref 11, .int x1, .int x2]) [] (ch s Z) (.inr ()) (ch r Z) := by
  unfold f46 at e
  obtain ⟨l, hl⟩ : ∃ l, l = (lv_args 0 [.ref 11, .int x1, .int x2]) := ⟨_, rfl⟩
  rw [← hl]
  have h0 : ab_get l 0 = some (.ref 11) := by rw [hl]; rfl
  have h1 : ab_get l 1 = some (.int x1) := by rw [hl]; rfl
  have h2 : ab_get l 2 = some (.int x2) := by rw [hl]; rfl
  refine r_aload_n (pc := 0) p46 k46_0 h0 ?_
  refine r_aload_n (pc := 1) p46 k46_1 h0 ?_
  refine c_get (i := 11) rfl (pc := 2) p46 k46_2 rfl rfl (v := .int (s.1 11 6)) rfl ?_
  refine c_put (i := 11) rfl (pc := 5) p46 k46_5 rfl rfl rfl (cc_g11 _ Z 0 _) (cs11_0 _ _) rfl rfl ?_
  refine r_aload_n (pc := 8) p46 k46_8 h0 ?_
  refine r_iload_n (pc := 9) p46 k46_9 h1 ?_
  refine r_aload_n (pc := 10) p46 k46_10 h0 ?_
  refine c_get (i := 11) rfl (pc := 11) p46 k46_11 rfl rfl (v := .int (s.1 11 9)) rfl ?_
  refine r_isub (pc := 14) p46 k46_14 ?_
  refine c_put (i := 11) rfl (pc := 15) p46 k46_15 rfl rfl rfl (cc_g11 _ Z 1 _) (cs11_1 _ _) rfl rfl ?_
  refine r_aload_n (pc := 18) p46 k46_18 h0 ?_
  refine r_iload_n (pc := 19) p46 k46_19 h2 ?_
  refine c_put (i := 11) rfl (pc := 20) p46 k46_20 rfl rfl rfl (cc_g11 _ Z 2 _) (cs11_2 _ _) rfl rfl ?_
  subst e
  exact c_thr p46 k46_23

theorem p45 : ab_prog[45]? = some (ab_m45, ab_c45) := rfl
theorem k45_0 : ab_fetch ab_c45 0 = some (.aload_n 0, 1, 0, 0) := rfl
theorem k45_1 : ab_fetch ab_c45 1 = some (.getfield 72, 3, 4, 3) := rfl
theorem k45_4 : ab_fetch ab_c45 4 = some (.iload_n 1, 1, 0, 0) := rfl
theorem k45_5 : ab_fetch ab_c45 5 = some (.if_icmp .eq 12, 3, 17, 0) := rfl
theorem k45_8 : ab_fetch ab_c45 8 = some (.aload_n 0, 1, 0, 0) := rfl
theorem k45_9 : ab_fetch ab_c45 9 = some (.aload_n 0, 1, 0, 0) := rfl
theorem k45_10 : ab_fetch ab_c45 10 = some (.getfield 75, 3, 4, 4) := rfl
theorem k45_13 : ab_fetch ab_c45 13 = some (.iconst 1, 1, 0, 0) := rfl
theorem k45_14 : ab_fetch ab_c45 14 = some (.invokevirtual 78, 3, 46, 2) := rfl
theorem k45_17 : ab_fetch ab_c45 17 = some (.aload_n 0, 1, 0, 0) := rfl
theorem k45_18 : ab_fetch ab_c45 18 = some (.getfield 59, 3, 4, 15) := rfl
theorem k45_21 : ab_fetch ab_c45 21 = some (.aload_n 0, 1, 0, 0) := rfl
theorem k45_22 : ab_fetch ab_c45 22 = some (.getfield 82, 3, 4, 16) := rfl
theorem k45_25 : ab_fetch ab_c45 25 = some (.if_icmp .ne 12, 3, 37, 0) := rfl
theorem k45_28 : ab_fetch ab_c45 28 = some (.aload_n 0, 1, 0, 0) := rfl
theorem k45_29 : ab_fetch ab_c45 29 = some (.aload_n 0, 1, 0, 0) := rfl
theorem k45_30 : ab_fetch ab_c45 30 = some (.getfield 85, 3, 4, 17) := rfl
theorem k45_33 : ab_fetch ab_c45 33 = some (.iconst 1, 1, 0, 0) := rfl
theorem k45_34 : ab_fetch ab_c45 34 = some (.invokevirtual 78, 3, 46, 2) := rfl
theorem k45_37 : ab_fetch ab_c45 37 = some (.aload_n 0, 1, 0, 0) := rfl
theorem k45_38 : ab_fetch ab_c45 38 = some (.invokevirtual 62, 3, 41, 0) := rfl
theorem k45_41 : ab_fetch ab_c45 41 = some (.return_, 1, 0, 0) := rfl
/- CodeSmith$Tokens expect(I)V -/
def f45 (s : cS) (x1 : Int32) : Option (cS ⊕ cS) := (if (s.1 11 3) = x1 then (if (s.1 11 15) = (s.1 11 16) then some (.inr (f46 s (s.1 11 17) (1 : Int32))) else ((f41 s).bind fun r1 => some (.inl r1))) else some (.inr (f46 s (s.1 11 4) (1 : Int32))))
theorem t45 {d : Nat} {Z : Nat → ab_C} (s : cS) (x1 : Int32) (r : cS ⊕ cS) (e : f45 s x1 = some r) : ab_Rn (d + 1) 45 0 (lv_args 0 [.ref 11, .int x1]) [] (ch s Z) (oV r) (ch (zV r) Z) := by
  unfold f45 at e
  obtain ⟨l, hl⟩ : ∃ l, l = (lv_args 0 [.ref 11, .int x1]) := ⟨_, rfl⟩
  rw [← hl]
  have h0 : ab_get l 0 = some (.ref 11) := by rw [hl]; rfl
  have h1 : ab_get l 1 = some (.int x1) := by rw [hl]; rfl
  refine r_aload_n (pc := 0) p45 k45_0 h0 ?_
  refine c_get (i := 11) rfl (pc := 1) p45 k45_1 rfl rfl (v := .int (s.1 11 3)) rfl ?_
  refine r_iload_n (pc := 4) p45 k45_4 h1 ?_
  refine r_ic_eq (pc := 5) p45 k45_5 (fun c => ?_) (fun c => ?_)
  · have e := (if_pos c).symm.trans e
    refine r_aload_n (pc := 17) p45 k45_17 h0 ?_
    refine c_get (i := 11) rfl (pc := 18) p45 k45_18 rfl rfl (v := .int (s.1 11 15)) rfl ?_
    refine r_aload_n (pc := 21) p45 k45_21 h0 ?_
    refine c_get (i := 11) rfl (pc := 22) p45 k45_22 rfl rfl (v := .int (s.1 11 16)) rfl ?_
    refine r_ic_ne (pc := 25) p45 k45_25 (fun c => ?_) (fun c => ?_)
    · have e := (if_neg c).symm.trans e
      refine r_aload_n (pc := 37) p45 k45_37 h0 ?_
      obtain ⟨r1, er1, e⟩ := of_bind e
      refine c_cv (i := 11) rfl (pc := 38) p45 k45_38 rfl p41 (r := []) rfl rfl rfl rfl rfl rfl (t41 s r1 er1) (w := []) rfl ?_
      obtain rfl := Option.some.inj e
      exact r_retV (pc := 41) p45 k45_41 rfl
    · have e := (if_pos c).symm.trans e
      refine r_aload_n (pc := 28) p45 k45_28 h0 ?_
      refine r_aload_n (pc := 29) p45 k45_29 h0 ?_
      refine c_get (i := 11) rfl (pc := 30) p45 k45_30 rfl rfl (v := .int (s.1 11 17)) rfl ?_
      refine r_iconst (pc := 33) p45 k45_33 (v := (1 : Int32)) rfl ?_
      cases e
      exact c_cvx (i := 11) rfl (pc := 34) p45 k45_34 rfl p46 (r := []) rfl rfl rfl rfl rfl rfl (t46 s (s.1 11 17) (1 : Int32) _ rfl)
  · have e := (if_neg c).symm.trans e
    refine r_aload_n (pc := 8) p45 k45_8 h0 ?_
    refine r_aload_n (pc := 9) p45 k45_9 h0 ?_
    refine c_get (i := 11) rfl (pc := 10) p45 k45_10 rfl rfl (v := .int (s.1 11 4)) rfl ?_
    refine r_iconst (pc := 13) p45 k45_13 (v := (1 : Int32)) rfl ?_
    cases e
    exact c_cvx (i := 11) rfl (pc := 14) p45 k45_14 rfl p46 (r := []) rfl rfl rfl rfl rfl rfl (t46 s (s.1 11 4) (1 : Int32) _ rfl)

theorem p49 : ab_prog[49]? = some (ab_m49, ab_c49) := rfl
theorem k49_0 : ab_fetch ab_c49 0 = some (.aload_n 0, 1, 0, 0) := rfl
theorem k49_1 : ab_fetch ab_c49 1 = some (.iload_n 1, 1, 0, 0) := rfl
theorem k49_2 : ab_fetch ab_c49 2 = some (.invokevirtual 100, 3, 25, 1) := rfl
theorem k49_5 : ab_fetch ab_c49 5 = some (.istore_n 3, 1, 0, 0) := rfl
theorem k49_6 : ab_fetch ab_c49 6 = some (.iload_n 2, 1, 0, 0) := rfl
theorem k49_7 : ab_fetch ab_c49 7 = some (.iconst 1, 1, 0, 0) := rfl
theorem k49_8 : ab_fetch ab_c49 8 = some (.if_icmp .lt 15, 3, 23, 0) := rfl
theorem k49_11 : ab_fetch ab_c49 11 = some (.iload_n 2, 1, 0, 0) := rfl
theorem k49_12 : ab_fetch ab_c49 12 = some (.iconst 2, 1, 0, 0) := rfl
theorem k49_13 : ab_fetch ab_c49 13 = some (.if_icmp .gt 10, 3, 23, 0) := rfl
theorem k49_16 : ab_fetch ab_c49 16 = some (.iload_n 3, 1, 0, 0) := rfl
theorem k49_17 : ab_fetch ab_c49 17 = some (.invokestatic 143, 3, 28, 1) := rfl
theorem k49_20 : ab_fetch ab_c49 20 = some (.ifCond .ne 5, 3, 25, 0) := rfl
theorem k49_23 : ab_fetch ab_c49 23 = some (.iconst (-1), 1, 0, 0) := rfl
theorem k49_24 : ab_fetch ab_c49 24 = some (.ireturn, 1, 0, 0) := rfl
theorem k49_25 : ab_fetch ab_c49 25 = some (.iload_n 2, 1, 0, 0) := rfl
theorem k49_26 : ab_fetch ab_c49 26 = some (.iconst 1, 1, 0, 0) := rfl
theorem k49_27 : ab_fetch ab_c49 27 = some (.if_icmp .ne 8, 3, 35, 0) := rfl
theorem k49_30 : ab_fetch ab_c49 30 = some (.iload_n 3, 1, 0, 0) := rfl
theorem k49_31 : ab_fetch ab_c49 31 = some (.bipush 48, 2, 0, 0) := rfl
theorem k49_33 : ab_fetch ab_c49 33 = some (.isub, 1, 0, 0) := rfl
theorem k49_34 : ab_fetch ab_c49 34 = some (.ireturn, 1, 0, 0) := rfl
theorem k49_35 : ab_fetch ab_c49 35 = some (.aload_n 0, 1, 0, 0) := rfl
theorem k49_36 : ab_fetch ab_c49 36 = some (.iload_n 1, 1, 0, 0) := rfl
theorem k49_37 : ab_fetch ab_c49 37 = some (.iconst 1, 1, 0, 0) := rfl
theorem k49_38 : ab_fetch ab_c49 38 = some (.iadd, 1, 0, 0) := rfl
theorem k49_39 : ab_fetch ab_c49 39 = some (.invokevirtual 100, 3, 25, 1) := rfl
theorem k49_42 : ab_fetch ab_c49 42 = some (.istore 4, 2, 0, 0) := rfl
theorem k49_44 : ab_fetch ab_c49 44 = some (.iload_n 3, 1, 0, 0) := rfl
theorem k49_45 : ab_fetch ab_c49 45 = some (.bipush 48, 2, 0, 0) := rfl
theorem k49_47 : ab_fetch ab_c49 47 = some (.if_icmp .eq 27, 3, 74, 0) := rfl
theorem k49_50 : ab_fetch ab_c49 50 = some (.iload 4, 2, 0, 0) := rfl
theorem k49_52 : ab_fetch ab_c49 52 = some (.invokestatic 143, 3, 28, 1) := rfl
theorem k49_55 : ab_fetch ab_c49 55 = some (.ifCond .eq 19, 3, 74, 0) := rfl
theorem k49_58 : ab_fetch ab_c49 58 = some (.iload_n 3, 1, 0, 0) := rfl
theorem k49_59 : ab_fetch ab_c49 59 = some (.bipush 48, 2, 0, 0) := rfl
theorem k49_61 : ab_fetch ab_c49 61 = some (.isub, 1, 0, 0) := rfl
theorem k49_62 : ab_fetch ab_c49 62 = some (.bipush 10, 2, 0, 0) := rfl
theorem k49_64 : ab_fetch ab_c49 64 = some (.imul, 1, 0, 0) := rfl
theorem k49_65 : ab_fetch ab_c49 65 = some (.iload 4, 2, 0, 0) := rfl
theorem k49_67 : ab_fetch ab_c49 67 = some (.bipush 48, 2, 0, 0) := rfl
theorem k49_69 : ab_fetch ab_c49 69 = some (.isub, 1, 0, 0) := rfl
theorem k49_70 : ab_fetch ab_c49 70 = some (.iadd, 1, 0, 0) := rfl
theorem k49_71 : ab_fetch ab_c49 71 = some (.goto 4, 3, 75, 0) := rfl
theorem k49_74 : ab_fetch ab_c49 74 = some (.iconst (-1), 1, 0, 0) := rfl
theorem k49_75 : ab_fetch ab_c49 75 = some (.ireturn, 1, 0, 0) := rfl
/- CodeSmith$Tokens registerDigits(II)I -/
def f49 (s : cS) (x1 : Int32) (x2 : Int32) : Option Int32 := ((f25 s x1).bind fun r1 => (if x2 < (1 : Int32) then some (-1 : Int32) else (if (2 : Int32) < x2 then some (-1 : Int32) else (if (f28 r1) = 0 then some (-1 : Int32) else (if x2 = (1 : Int32) then some (r1 - (48 : Int32)) else ((f25 s (x1 + (1 : Int32))).bind fun r2 => (if r1 = (48 : Int32) then some (-1 : Int32) else (if (f28 r2) = 0 then some (-1 : Int32) else some (((r1 - (48 : Int32)) * (10 : Int32)) + (r2 - (48 : Int32)))))))))))
theorem t49 {d : Nat} {Z : Nat → ab_C} (s : cS) (x1 : Int32) (x2 : Int32) (r : Int32) (e : f49 s x1 x2 = some r) : ab_Rn (d + 1) 49 0 (lv_args 0 [.ref 11, .int x1, .int x2]) [] (ch s Z) (.inl (some (.int r))) (ch s Z) := by
  unfold f49 at e
  obtain ⟨l, hl⟩ : ∃ l, l = (lv_args 0 [.ref 11, .int x1, .int x2]) := ⟨_, rfl⟩
  rw [← hl]
  have h0 : ab_get l 0 = some (.ref 11) := by rw [hl]; rfl
  have h1 : ab_get l 1 = some (.int x1) := by rw [hl]; rfl
  have h2 : ab_get l 2 = some (.int x2) := by rw [hl]; rfl
  refine r_aload_n (pc := 0) p49 k49_0 h0 ?_
  refine r_iload_n (pc := 1) p49 k49_1 h1 ?_
  obtain ⟨r1, er1, e⟩ := of_bind e
  refine c_cv (i := 11) rfl (pc := 2) p49 k49_2 rfl p25 (r := []) rfl rfl rfl rfl rfl rfl (t25 s x1 r1 er1) (w := [.int r1]) rfl ?_
  refine r_istore_n (pc := 5) p49 k49_5 (by decide) (fun l g h3 => ?_)
  have h0 := g 0 _ (by decide) h0 (Or.inl rfl)
  have h1 := g 1 _ (by decide) h1 (Or.inl rfl)
  have h2 := g 2 _ (by decide) h2 (Or.inl rfl)
  refine r_iload_n (pc := 6) p49 k49_6 h2 ?_
  refine r_iconst (pc := 7) p49 k49_7 (v := (1 : Int32)) rfl ?_
  refine r_ic_lt (pc := 8) p49 k49_8 (fun c => ?_) (fun c => ?_)
  · have e := (if_pos c).symm.trans e
    refine r_iconst (pc := 23) p49 k49_23 (v := (-1 : Int32)) rfl ?_
    obtain rfl := Option.some.inj e
    exact r_retI (pc := 24) p49 k49_24 rfl
  · have e := (if_neg c).symm.trans e
    refine r_iload_n (pc := 11) p49 k49_11 h2 ?_
    refine r_iconst (pc := 12) p49 k49_12 (v := (2 : Int32)) rfl ?_
    refine r_ic_gt (pc := 13) p49 k49_13 (fun c => ?_) (fun c => ?_)
    · have e := (if_pos c).symm.trans e
      refine r_iconst (pc := 23) p49 k49_23 (v := (-1 : Int32)) rfl ?_
      obtain rfl := Option.some.inj e
      exact r_retI (pc := 24) p49 k49_24 rfl
    · have e := (if_neg c).symm.trans e
      refine r_iload_n (pc := 16) p49 k49_16 h3 ?_
      refine r_csv (pc := 17) p49 k49_17 rfl rfl p28 (r := []) rfl rfl rfl rfl (t28 r1 _ rfl) (w := [.int (f28 r1)]) rfl ?_
      refine r_if_ne (pc := 20) p49 k49_20 (fun c => ?_) (fun c => ?_)
      · have e := (if_neg c).symm.trans e
        refine r_iload_n (pc := 25) p49 k49_25 h2 ?_
        refine r_iconst (pc := 26) p49 k49_26 (v := (1 : Int32)) rfl ?_
        refine r_ic_ne (pc := 27) p49 k49_27 (fun c => ?_) (fun c => ?_)
        · have e := (if_neg c).symm.trans e
          refine r_aload_n (pc := 35) p49 k49_35 h0 ?_
          refine r_iload_n (pc := 36) p49 k49_36 h1 ?_
          refine r_iconst (pc := 37) p49 k49_37 (v := (1 : Int32)) rfl ?_
          refine r_iadd (pc := 38) p49 k49_38 ?_
          obtain ⟨r2, er2, e⟩ := of_bind e
          refine c_cv (i := 11) rfl (pc := 39) p49 k49_39 rfl p25 (r := []) rfl rfl rfl rfl rfl rfl (t25 s (x1 + (1 : Int32)) r2 er2) (w := [.int r2]) rfl ?_
          refine r_istore (pc := 42) p49 k49_42 (by decide) (fun l g h4 => ?_)
          have h3 := g 3 _ (by decide) h3 (Or.inl rfl)
          refine r_iload_n (pc := 44) p49 k49_44 h3 ?_
          refine r_bipush (pc := 45) p49 k49_45 (v := (48 : Int32)) rfl ?_
          refine r_ic_eq (pc := 47) p49 k49_47 (fun c => ?_) (fun c => ?_)
          · have e := (if_pos c).symm.trans e
            refine r_iconst (pc := 74) p49 k49_74 (v := (-1 : Int32)) rfl ?_
            obtain rfl := Option.some.inj e
            exact r_retI (pc := 75) p49 k49_75 rfl
          · have e := (if_neg c).symm.trans e
            refine r_iload (pc := 50) p49 k49_50 h4 ?_
            refine r_csv (pc := 52) p49 k49_52 rfl rfl p28 (r := []) rfl rfl rfl rfl (t28 r2 _ rfl) (w := [.int (f28 r2)]) rfl ?_
            refine r_if_eq (pc := 55) p49 k49_55 (fun c => ?_) (fun c => ?_)
            · have e := (if_pos c).symm.trans e
              refine r_iconst (pc := 74) p49 k49_74 (v := (-1 : Int32)) rfl ?_
              obtain rfl := Option.some.inj e
              exact r_retI (pc := 75) p49 k49_75 rfl
            · have e := (if_neg c).symm.trans e
              refine r_iload_n (pc := 58) p49 k49_58 h3 ?_
              refine r_bipush (pc := 59) p49 k49_59 (v := (48 : Int32)) rfl ?_
              refine r_isub (pc := 61) p49 k49_61 ?_
              refine r_bipush (pc := 62) p49 k49_62 (v := (10 : Int32)) rfl ?_
              refine r_imul (pc := 64) p49 k49_64 ?_
              refine r_iload (pc := 65) p49 k49_65 h4 ?_
              refine r_bipush (pc := 67) p49 k49_67 (v := (48 : Int32)) rfl ?_
              refine r_isub (pc := 69) p49 k49_69 ?_
              refine r_iadd (pc := 70) p49 k49_70 ?_
              refine r_goto (pc := 71) p49 k49_71 ?_
              obtain rfl := Option.some.inj e
              exact r_retI (pc := 75) p49 k49_75 rfl
        · have e := (if_pos c).symm.trans e
          refine r_iload_n (pc := 30) p49 k49_30 h3 ?_
          refine r_bipush (pc := 31) p49 k49_31 (v := (48 : Int32)) rfl ?_
          refine r_isub (pc := 33) p49 k49_33 ?_
          obtain rfl := Option.some.inj e
          exact r_retI (pc := 34) p49 k49_34 rfl
      · have e := (if_pos c).symm.trans e
        refine r_iconst (pc := 23) p49 k49_23 (v := (-1 : Int32)) rfl ?_
        obtain rfl := Option.some.inj e
        exact r_retI (pc := 24) p49 k49_24 rfl

theorem p57 : ab_prog[57]? = some (ab_m57, ab_c57) := rfl
theorem k57_0 : ab_fetch ab_c57 0 = some (.iload_n 0, 1, 0, 0) := rfl
theorem k57_1 : ab_fetch ab_c57 1 = some (.iload_n 1, 1, 0, 0) := rfl
theorem k57_2 : ab_fetch ab_c57 2 = some (.if_icmp .ge 7, 3, 9, 0) := rfl
theorem k57_5 : ab_fetch ab_c57 5 = some (.iconst (-1), 1, 0, 0) := rfl
theorem k57_6 : ab_fetch ab_c57 6 = some (.goto 13, 3, 19, 0) := rfl
theorem k57_9 : ab_fetch ab_c57 9 = some (.iload_n 0, 1, 0, 0) := rfl
theorem k57_10 : ab_fetch ab_c57 10 = some (.iload_n 1, 1, 0, 0) := rfl
theorem k57_11 : ab_fetch ab_c57 11 = some (.if_icmp .ne 7, 3, 18, 0) := rfl
theorem k57_14 : ab_fetch ab_c57 14 = some (.iconst 0, 1, 0, 0) := rfl
theorem k57_15 : ab_fetch ab_c57 15 = some (.goto 4, 3, 19, 0) := rfl
theorem k57_18 : ab_fetch ab_c57 18 = some (.iconst 1, 1, 0, 0) := rfl
theorem k57_19 : ab_fetch ab_c57 19 = some (.ireturn, 1, 0, 0) := rfl
/- java/lang/Integer compare(II)I -/
def f57 (x0 : Int32) (x1 : Int32) : Int32 := (if x1 ≤ x0 then (if x0 = x1 then (0 : Int32) else (1 : Int32)) else (-1 : Int32))
theorem t57 {d : Nat} {h : ab_H} (x0 : Int32) (x1 : Int32) (r : Int32) (e : f57 x0 x1 = r) : ab_Rn d 57 0 (lv_args 0 [.int x0, .int x1]) [] h (.inl (some (.int r))) h := by
  unfold f57 at e
  obtain ⟨l, hl⟩ : ∃ l, l = (lv_args 0 [.int x0, .int x1]) := ⟨_, rfl⟩
  rw [← hl]
  have h0 : ab_get l 0 = some (.int x0) := by rw [hl]; rfl
  have h1 : ab_get l 1 = some (.int x1) := by rw [hl]; rfl
  refine r_iload_n (pc := 0) p57 k57_0 h0 ?_
  refine r_iload_n (pc := 1) p57 k57_1 h1 ?_
  refine r_ic_ge (pc := 2) p57 k57_2 (fun c => ?_) (fun c => ?_)
  · have e := (if_pos c).symm.trans e
    refine r_iload_n (pc := 9) p57 k57_9 h0 ?_
    refine r_iload_n (pc := 10) p57 k57_10 h1 ?_
    refine r_ic_ne (pc := 11) p57 k57_11 (fun c => ?_) (fun c => ?_)
    · have e := (if_neg c).symm.trans e
      refine r_iconst (pc := 18) p57 k57_18 (v := (1 : Int32)) rfl ?_
      subst e
      exact r_retI (pc := 19) p57 k57_19 rfl
    · have e := (if_pos c).symm.trans e
      refine r_iconst (pc := 14) p57 k57_14 (v := (0 : Int32)) rfl ?_
      refine r_goto (pc := 15) p57 k57_15 ?_
      subst e
      exact r_retI (pc := 19) p57 k57_19 rfl
  · have e := (if_neg c).symm.trans e
    refine r_iconst (pc := 5) p57 k57_5 (v := (-1 : Int32)) rfl ?_
    refine r_goto (pc := 6) p57 k57_6 ?_
    subst e
    exact r_retI (pc := 19) p57 k57_19 rfl

theorem p51 : ab_prog[51]? = some (ab_m51, ab_c51) := rfl
theorem k51_0 : ab_fetch ab_c51 0 = some (.iconst 0, 1, 0, 0) := rfl
theorem k51_1 : ab_fetch ab_c51 1 = some (.istore 4, 2, 0, 0) := rfl
theorem k51_3 : ab_fetch ab_c51 3 = some (.iload 4, 2, 0, 0) := rfl
theorem k51_5 : ab_fetch ab_c51 5 = some (.iload_n 2, 1, 0, 0) := rfl
theorem k51_6 : ab_fetch ab_c51 6 = some (.if_icmp .ge 60, 3, 66, 0) := rfl
theorem k51_9 : ab_fetch ab_c51 9 = some (.iload 4, 2, 0, 0) := rfl
theorem k51_11 : ab_fetch ab_c51 11 = some (.aload_n 3, 1, 0, 0) := rfl
theorem k51_12 : ab_fetch ab_c51 12 = some (.invokevirtual 104, 3, 52, 0) := rfl
theorem k51_15 : ab_fetch ab_c51 15 = some (.if_icmp .ge 51, 3, 66, 0) := rfl
theorem k51_18 : ab_fetch ab_c51 18 = some (.iload_n 1, 1, 0, 0) := rfl
theorem k51_19 : ab_fetch ab_c51 19 = some (.ifCond .lt 47, 3, 66, 0) := rfl
theorem k51_22 : ab_fetch ab_c51 22 = some (.iload_n 1, 1, 0, 0) := rfl
theorem k51_23 : ab_fetch ab_c51 23 = some (.iload 4, 2, 0, 0) := rfl
theorem k51_25 : ab_fetch ab_c51 25 = some (.iadd, 1, 0, 0) := rfl
theorem k51_26 : ab_fetch ab_c51 26 = some (.aload_n 0, 1, 0, 0) := rfl
theorem k51_27 : ab_fetch ab_c51 27 = some (.getfield 9, 3, 4, 7) := rfl
theorem k51_30 : ab_fetch ab_c51 30 = some (.arraylength, 1, 0, 0) := rfl
theorem k51_31 : ab_fetch ab_c51 31 = some (.if_icmp .ge 35, 3, 66, 0) := rfl
theorem k51_34 : ab_fetch ab_c51 34 = some (.aload_n 0, 1, 0, 0) := rfl
theorem k51_35 : ab_fetch ab_c51 35 = some (.getfield 9, 3, 4, 7) := rfl
theorem k51_38 : ab_fetch ab_c51 38 = some (.iload_n 1, 1, 0, 0) := rfl
theorem k51_39 : ab_fetch ab_c51 39 = some (.iload 4, 2, 0, 0) := rfl
theorem k51_41 : ab_fetch ab_c51 41 = some (.iadd, 1, 0, 0) := rfl
theorem k51_42 : ab_fetch ab_c51 42 = some (.baload, 1, 0, 0) := rfl
theorem k51_43 : ab_fetch ab_c51 43 = some (.aload_n 3, 1, 0, 0) := rfl
theorem k51_44 : ab_fetch ab_c51 44 = some (.iload 4, 2, 0, 0) := rfl
theorem k51_46 : ab_fetch ab_c51 46 = some (.invokevirtual 110, 3, 54, 1) := rfl
theorem k51_49 : ab_fetch ab_c51 49 = some (.isub, 1, 0, 0) := rfl
theorem k51_50 : ab_fetch ab_c51 50 = some (.istore 5, 2, 0, 0) := rfl
theorem k51_52 : ab_fetch ab_c51 52 = some (.iload 5, 2, 0, 0) := rfl
theorem k51_54 : ab_fetch ab_c51 54 = some (.ifCond .eq 6, 3, 60, 0) := rfl
theorem k51_57 : ab_fetch ab_c51 57 = some (.iload 5, 2, 0, 0) := rfl
theorem k51_59 : ab_fetch ab_c51 59 = some (.ireturn, 1, 0, 0) := rfl
theorem k51_60 : ab_fetch ab_c51 60 = some (.iinc 4 1, 3, 0, 0) := rfl
theorem k51_63 : ab_fetch ab_c51 63 = some (.goto (-60), 3, 3, 0) := rfl
theorem k51_66 : ab_fetch ab_c51 66 = some (.iload_n 2, 1, 0, 0) := rfl
theorem k51_67 : ab_fetch ab_c51 67 = some (.aload_n 3, 1, 0, 0) := rfl
theorem k51_68 : ab_fetch ab_c51 68 = some (.invokevirtual 104, 3, 52, 0) := rfl
theorem k51_71 : ab_fetch ab_c51 71 = some (.invokestatic 114, 3, 57, 2) := rfl
theorem k51_74 : ab_fetch ab_c51 74 = some (.ireturn, 1, 0, 0) := rfl
/- CodeSmith$Tokens order(IILjava/lang/String;)I -/
def f51_66 (s : cS) (x2 : Int32) (x3 : Nat) : Option Int32 := if x3 < 106 then some (f57 x2 (Int32.ofNat (sl x3))) else none
theorem t51_66 {d : Nat} {Z : Nat → ab_C} : ∀ (s : cS) (l : ab_L) (x2 : Int32) (x3 : Nat) (h2 : ab_get l 2 = some (.int x2)) (h3 : ab_get l 3 = some (.retAddr x3)) (r : Int32) (e : f51_66 s x2 x3 = some r), ab_Rn (d + 4) 51 66 l [] (ch s Z) (.inl (some (.int r))) (ch s Z) := by
  intro s l x2 x3 h2 h3 r e
  unfold f51_66 at e
  refine r_iload_n (pc := 66) p51 k51_66 h2 ?_
  refine r_aloadS_n (pc := 67) p51 k51_67 h3 ?_
  obtain ⟨c, e⟩ := of_if e
  refine r_cvs (k := x3) c (pc := 68) p51 k51_68 rfl p52 (r := [.int x2]) rfl rfl rfl rfl rfl (t52 x3 c) (w := [.int (Int32.ofNat (sl x3)), .int x2]) rfl ?_
  refine r_csv (pc := 71) p51 k51_71 rfl rfl p57 (r := []) rfl rfl rfl rfl (t57 x2 (Int32.ofNat (sl x3)) _ rfl) (w := [.int (f57 x2 (Int32.ofNat (sl x3)))]) rfl ?_
  obtain rfl := Option.some.inj e
  exact r_retI (pc := 74) p51 k51_74 rfl
def f51_3 : Nat → cS → Int32 → Int32 → Nat → Int32 → Option Int32
  | 0, _, _, _, _, _ => none
  | u + 1, s, x1, x2, x3, x4 => (if x2 ≤ x4 then f51_66 s x2 x3 else if x3 < 106 then (if (Int32.ofNat (sl x3)) ≤ x4 then f51_66 s x2 x3 else (if x1 < 0 then f51_66 s x2 x3 else if cA s 0 (s.2.1 11 7) then (if (Int32.ofNat (cl s (s.2.1 11 7))) ≤ (x1 + x4) then f51_66 s x2 x3 else if cB s 0 (s.2.1 11 7) (x1 + x4) then if cJ x3 x4 then (if ((ce s (s.2.1 11 7) (x1 + x4)) - (sc x3 x4)) = 0 then f51_3 u s x1 x2 x3 (x4 + (1 : Int32)) else some ((ce s (s.2.1 11 7) (x1 + x4)) - (sc x3 x4))) else none else none) else none)) else none)
theorem t51_3 {d : Nat} {Z : Nat → ab_C} : ∀ u : Nat, ∀ (s : cS) (l : ab_L) (x1 : Int32) (x2 : Int32) (x3 : Nat) (x4 : Int32) (h0 : ab_get l 0 = some (.ref 11)) (h1 : ab_get l 1 = some (.int x1)) (h2 : ab_get l 2 = some (.int x2)) (h3 : ab_get l 3 = some (.retAddr x3)) (h4 : ab_get l 4 = some (.int x4)) (r : Int32) (e : f51_3 u s x1 x2 x3 x4 = some r), ab_Rn (d + 4) 51 3 l [] (ch s Z) (.inl (some (.int r))) (ch s Z) := by
  intro u
  induction u with
  | zero => intro s l x1 x2 x3 x4 h0 h1 h2 h3 h4 r e; rw [f51_3] at e; cases e
  | succ u ih =>
    intro s l x1 x2 x3 x4 h0 h1 h2 h3 h4 r e
    rw [f51_3] at e
    refine r_iload (pc := 3) p51 k51_3 h4 ?_
    refine r_iload_n (pc := 5) p51 k51_5 h2 ?_
    refine r_ic_ge (pc := 6) p51 k51_6 (fun c => ?_) (fun c => ?_)
    · have e := (if_pos c).symm.trans e
      exact t51_66 s l x2 x3 h2 h3 r e
    · have e := (if_neg c).symm.trans e
      refine r_iload (pc := 9) p51 k51_9 h4 ?_
      refine r_aloadS_n (pc := 11) p51 k51_11 h3 ?_
      obtain ⟨c, e⟩ := of_if e
      refine r_cvs (k := x3) c (pc := 12) p51 k51_12 rfl p52 (r := [.int x4]) rfl rfl rfl rfl rfl (t52 x3 c) (w := [.int (Int32.ofNat (sl x3)), .int x4]) rfl ?_
      refine r_ic_ge (pc := 15) p51 k51_15 (fun c => ?_) (fun c => ?_)
      · have e := (if_pos c).symm.trans e
        exact t51_66 s l x2 x3 h2 h3 r e
      · have e := (if_neg c).symm.trans e
        refine r_iload_n (pc := 18) p51 k51_18 h1 ?_
        refine r_if_lt (pc := 19) p51 k51_19 (fun c => ?_) (fun c => ?_)
        · have e := (if_pos c).symm.trans e
          exact t51_66 s l x2 x3 h2 h3 r e
        · have e := (if_neg c).symm.trans e
          refine r_iload_n (pc := 22) p51 k51_22 h1 ?_
          refine r_iload (pc := 23) p51 k51_23 h4 ?_
          refine r_iadd (pc := 25) p51 k51_25 ?_
          refine r_aload_n (pc := 26) p51 k51_26 h0 ?_
          refine c_get (i := 11) rfl (pc := 27) p51 k51_27 rfl rfl (v := .ref (s.2.1 11 7)) rfl ?_
          obtain ⟨c, e⟩ := of_if e
          refine c_alen (pc := 30) p51 k51_30 (t := 0) rfl c ?_
          refine r_ic_ge (pc := 31) p51 k51_31 (fun c => ?_) (fun c => ?_)
          · have e := (if_pos c).symm.trans e
            exact t51_66 s l x2 x3 h2 h3 r e
          · have e := (if_neg c).symm.trans e
            refine r_aload_n (pc := 34) p51 k51_34 h0 ?_
            refine c_get (i := 11) rfl (pc := 35) p51 k51_35 rfl rfl (v := .ref (s.2.1 11 7)) rfl ?_
            refine r_iload_n (pc := 38) p51 k51_38 h1 ?_
            refine r_iload (pc := 39) p51 k51_39 h4 ?_
            refine r_iadd (pc := 41) p51 k51_41 ?_
            obtain ⟨c, e⟩ := of_if e
            refine c_bld (pc := 42) p51 k51_42 c ?_
            refine r_aloadS_n (pc := 43) p51 k51_43 h3 ?_
            refine r_iload (pc := 44) p51 k51_44 h4 ?_
            obtain ⟨c, e⟩ := of_if e
            refine r_cvs (k := x3) c.1 (pc := 46) p51 k51_46 rfl p54 (r := [.int (ce s (s.2.1 11 7) (x1 + x4))]) rfl rfl rfl rfl rfl (t54 x3 x4 c) (w := [.int (sc x3 x4), .int (ce s (s.2.1 11 7) (x1 + x4))]) rfl ?_
            refine r_isub (pc := 49) p51 k51_49 ?_
            refine r_istore (pc := 50) p51 k51_50 (by decide) (fun l g h5 => ?_)
            have h0 := g 0 _ (by decide) h0 (Or.inl rfl)
            have h1 := g 1 _ (by decide) h1 (Or.inl rfl)
            have h2 := g 2 _ (by decide) h2 (Or.inl rfl)
            have h3 := g 3 _ (by decide) h3 (Or.inl rfl)
            have h4 := g 4 _ (by decide) h4 (Or.inl rfl)
            refine r_iload (pc := 52) p51 k51_52 h5 ?_
            refine r_if_eq (pc := 54) p51 k51_54 (fun c => ?_) (fun c => ?_)
            · have e := (if_pos c).symm.trans e
              refine r_iinc (pc := 60) p51 k51_60 h4 (by decide) (v := (x4 + (1 : Int32))) rfl (fun l g h4 => ?_)
              have h0 := g 0 _ (by decide) h0 (Or.inl rfl)
              have h1 := g 1 _ (by decide) h1 (Or.inl rfl)
              have h2 := g 2 _ (by decide) h2 (Or.inl rfl)
              have h3 := g 3 _ (by decide) h3 (Or.inl rfl)
              refine r_goto (pc := 63) p51 k51_63 ?_
              exact ih s l x1 x2 x3 (x4 + (1 : Int32)) h0 h1 h2 h3 h4 r e
            · have e := (if_neg c).symm.trans e
              refine r_iload (pc := 57) p51 k51_57 h5 ?_
              obtain rfl := Option.some.inj e
              exact r_retI (pc := 59) p51 k51_59 rfl
def f51 (s : cS) (x1 : Int32) (x2 : Int32) (x3 : Nat) : Option Int32 := f51_3 mm_U s x1 x2 x3 (0 : Int32)
theorem t51 {d : Nat} {Z : Nat → ab_C} (s : cS) (x1 : Int32) (x2 : Int32) (x3 : Nat) (r : Int32) (e : f51 s x1 x2 x3 = some r) : ab_Rn (d + 4) 51 0 (lv_args 0 [.ref 11, .int x1, .int x2, .retAddr x3]) [] (ch s Z) (.inl (some (.int r))) (ch s Z) := by
  unfold f51 at e
  obtain ⟨l, hl⟩ : ∃ l, l = (lv_args 0 [.ref 11, .int x1, .int x2, .retAddr x3]) := ⟨_, rfl⟩
  rw [← hl]
  have h0 : ab_get l 0 = some (.ref 11) := by rw [hl]; rfl
  have h1 : ab_get l 1 = some (.int x1) := by rw [hl]; rfl
  have h2 : ab_get l 2 = some (.int x2) := by rw [hl]; rfl
  have h3 : ab_get l 3 = some (.retAddr x3) := by rw [hl]; rfl
  refine r_iconst (pc := 0) p51 k51_0 (v := (0 : Int32)) rfl ?_
  refine r_istore (pc := 1) p51 k51_1 (by decide) (fun l g h4 => ?_)
  have h0 := g 0 _ (by decide) h0 (Or.inl rfl)
  have h1 := g 1 _ (by decide) h1 (Or.inl rfl)
  have h2 := g 2 _ (by decide) h2 (Or.inl rfl)
  have h3 := g 3 _ (by decide) h3 (Or.inl rfl)
  exact t51_3 mm_U s l x1 x2 x3 (0 : Int32) h0 h1 h2 h3 h4 r e

theorem p50 : ab_prog[50]? = some (ab_m50, ab_c50) := rfl
theorem k50_0 : ab_fetch ab_c50 0 = some (.iload_n 2, 1, 0, 0) := rfl
theorem k50_1 : ab_fetch ab_c50 1 = some (.iconst 4, 1, 0, 0) := rfl
theorem k50_2 : ab_fetch ab_c50 2 = some (.if_icmp .ne 20, 3, 22, 0) := rfl
theorem k50_5 : ab_fetch ab_c50 5 = some (.aload_n 0, 1, 0, 0) := rfl
theorem k50_6 : ab_fetch ab_c50 6 = some (.iload_n 1, 1, 0, 0) := rfl
theorem k50_7 : ab_fetch ab_c50 7 = some (.iload_n 2, 1, 0, 0) := rfl
theorem k50_8 : ab_fetch ab_c50 8 = some (.ldc 176, 2, 1, 1) := rfl
theorem k50_10 : ab_fetch ab_c50 10 = some (.invokevirtual 178, 3, 51, 3) := rfl
theorem k50_13 : ab_fetch ab_c50 13 = some (.ifCond .ne 7, 3, 20, 0) := rfl
theorem k50_16 : ab_fetch ab_c50 16 = some (.iconst 0, 1, 0, 0) := rfl
theorem k50_17 : ab_fetch ab_c50 17 = some (.goto 4, 3, 21, 0) := rfl
theorem k50_20 : ab_fetch ab_c50 20 = some (.iconst (-1), 1, 0, 0) := rfl
theorem k50_21 : ab_fetch ab_c50 21 = some (.ireturn, 1, 0, 0) := rfl
theorem k50_22 : ab_fetch ab_c50 22 = some (.iload_n 2, 1, 0, 0) := rfl
theorem k50_23 : ab_fetch ab_c50 23 = some (.iconst 2, 1, 0, 0) := rfl
theorem k50_24 : ab_fetch ab_c50 24 = some (.if_icmp .ne 15, 3, 39, 0) := rfl
theorem k50_27 : ab_fetch ab_c50 27 = some (.aload_n 0, 1, 0, 0) := rfl
theorem k50_28 : ab_fetch ab_c50 28 = some (.iload_n 1, 1, 0, 0) := rfl
theorem k50_29 : ab_fetch ab_c50 29 = some (.iconst 1, 1, 0, 0) := rfl
theorem k50_30 : ab_fetch ab_c50 30 = some (.iadd, 1, 0, 0) := rfl
theorem k50_31 : ab_fetch ab_c50 31 = some (.invokevirtual 100, 3, 25, 1) := rfl
theorem k50_34 : ab_fetch ab_c50 34 = some (.bipush 112, 2, 0, 0) := rfl
theorem k50_36 : ab_fetch ab_c50 36 = some (.if_icmp .eq 20, 3, 56, 0) := rfl
theorem k50_39 : ab_fetch ab_c50 39 = some (.aload_n 0, 1, 0, 0) := rfl
theorem k50_40 : ab_fetch ab_c50 40 = some (.iload_n 1, 1, 0, 0) := rfl
theorem k50_41 : ab_fetch ab_c50 41 = some (.iload_n 2, 1, 0, 0) := rfl
theorem k50_42 : ab_fetch ab_c50 42 = some (.ldc 182, 2, 2, 1) := rfl
theorem k50_44 : ab_fetch ab_c50 44 = some (.invokevirtual 178, 3, 51, 3) := rfl
theorem k50_47 : ab_fetch ab_c50 47 = some (.ifCond .ne 7, 3, 54, 0) := rfl
theorem k50_50 : ab_fetch ab_c50 50 = some (.iconst 1, 1, 0, 0) := rfl
theorem k50_51 : ab_fetch ab_c50 51 = some (.goto 4, 3, 55, 0) := rfl
theorem k50_54 : ab_fetch ab_c50 54 = some (.iconst (-1), 1, 0, 0) := rfl
theorem k50_55 : ab_fetch ab_c50 55 = some (.ireturn, 1, 0, 0) := rfl
theorem k50_56 : ab_fetch ab_c50 56 = some (.aload_n 0, 1, 0, 0) := rfl
theorem k50_57 : ab_fetch ab_c50 57 = some (.iload_n 1, 1, 0, 0) := rfl
theorem k50_58 : ab_fetch ab_c50 58 = some (.invokevirtual 100, 3, 25, 1) := rfl
theorem k50_61 : ab_fetch ab_c50 61 = some (.lookupswitch 52 #[(102, 49), (103, 45), (115, 43), (116, 47)], 43, 0, 0) := rfl
theorem k50_104 : ab_fetch ab_c50 104 = some (.iconst 2, 1, 0, 0) := rfl
theorem k50_105 : ab_fetch ab_c50 105 = some (.ireturn, 1, 0, 0) := rfl
theorem k50_106 : ab_fetch ab_c50 106 = some (.iconst 3, 1, 0, 0) := rfl
theorem k50_107 : ab_fetch ab_c50 107 = some (.ireturn, 1, 0, 0) := rfl
theorem k50_108 : ab_fetch ab_c50 108 = some (.iconst 4, 1, 0, 0) := rfl
theorem k50_109 : ab_fetch ab_c50 109 = some (.ireturn, 1, 0, 0) := rfl
theorem k50_110 : ab_fetch ab_c50 110 = some (.bipush 8, 2, 0, 0) := rfl
theorem k50_112 : ab_fetch ab_c50 112 = some (.ireturn, 1, 0, 0) := rfl
theorem k50_113 : ab_fetch ab_c50 113 = some (.iconst (-1), 1, 0, 0) := rfl
theorem k50_114 : ab_fetch ab_c50 114 = some (.ireturn, 1, 0, 0) := rfl
/- CodeSmith$Tokens registerSpelled(II)I -/
def f50_39 (s : cS) (x1 : Int32) (x2 : Int32) : Option Int32 := ((f51 s x1 x2 2).bind fun r1 => (if r1 = 0 then some (1 : Int32) else some (-1 : Int32)))
theorem t50_39 {d : Nat} {Z : Nat → ab_C} : ∀ (s : cS) (l : ab_L) (x1 : Int32) (x2 : Int32) (h0 : ab_get l 0 = some (.ref 11)) (h1 : ab_get l 1 = some (.int x1)) (h2 : ab_get l 2 = some (.int x2)) (r : Int32) (e : f50_39 s x1 x2 = some r), ab_Rn (d + 5) 50 39 l [] (ch s Z) (.inl (some (.int r))) (ch s Z) := by
  intro s l x1 x2 h0 h1 h2 r e
  unfold f50_39 at e
  refine r_aload_n (pc := 39) p50 k50_39 h0 ?_
  refine r_iload_n (pc := 40) p50 k50_40 h1 ?_
  refine r_iload_n (pc := 41) p50 k50_41 h2 ?_
  refine r_ldS (pc := 42) p50 k50_42 ?_
  obtain ⟨r1, er1, e⟩ := of_bind e
  refine c_cv (i := 11) rfl (pc := 44) p50 k50_44 rfl p51 (r := []) rfl rfl rfl rfl rfl rfl (t51 s x1 x2 2 r1 er1) (w := [.int r1]) rfl ?_
  refine r_if_ne (pc := 47) p50 k50_47 (fun c => ?_) (fun c => ?_)
  · have e := (if_neg c).symm.trans e
    refine r_iconst (pc := 54) p50 k50_54 (v := (-1 : Int32)) rfl ?_
    obtain rfl := Option.some.inj e
    exact r_retI (pc := 55) p50 k50_55 rfl
  · have e := (if_pos c).symm.trans e
    refine r_iconst (pc := 50) p50 k50_50 (v := (1 : Int32)) rfl ?_
    refine r_goto (pc := 51) p50 k50_51 ?_
    obtain rfl := Option.some.inj e
    exact r_retI (pc := 55) p50 k50_55 rfl
def f50 (s : cS) (x1 : Int32) (x2 : Int32) : Option Int32 := (if x2 = (4 : Int32) then ((f51 s x1 x2 1).bind fun r1 => (if r1 = 0 then some (0 : Int32) else some (-1 : Int32))) else (if x2 = (2 : Int32) then ((f25 s (x1 + (1 : Int32))).bind fun r1 => (if r1 = (112 : Int32) then ((f25 s x1).bind fun r2 => (if r2 = 102 then some (8 : Int32) else if r2 = 103 then some (3 : Int32) else if r2 = 115 then some (2 : Int32) else if r2 = 116 then some (4 : Int32) else some (-1 : Int32))) else f50_39 s x1 x2)) else f50_39 s x1 x2))
theorem t50 {d : Nat} {Z : Nat → ab_C} (s : cS) (x1 : Int32) (x2 : Int32) (r : Int32) (e : f50 s x1 x2 = some r) : ab_Rn (d + 5) 50 0 (lv_args 0 [.ref 11, .int x1, .int x2]) [] (ch s Z) (.inl (some (.int r))) (ch s Z) := by
  unfold f50 at e
  obtain ⟨l, hl⟩ : ∃ l, l = (lv_args 0 [.ref 11, .int x1, .int x2]) := ⟨_, rfl⟩
  rw [← hl]
  have h0 : ab_get l 0 = some (.ref 11) := by rw [hl]; rfl
  have h1 : ab_get l 1 = some (.int x1) := by rw [hl]; rfl
  have h2 : ab_get l 2 = some (.int x2) := by rw [hl]; rfl
  refine r_iload_n (pc := 0) p50 k50_0 h2 ?_
  refine r_iconst (pc := 1) p50 k50_1 (v := (4 : Int32)) rfl ?_
  refine r_ic_ne (pc := 2) p50 k50_2 (fun c => ?_) (fun c => ?_)
  · have e := (if_neg c).symm.trans e
    refine r_iload_n (pc := 22) p50 k50_22 h2 ?_
    refine r_iconst (pc := 23) p50 k50_23 (v := (2 : Int32)) rfl ?_
    refine r_ic_ne (pc := 24) p50 k50_24 (fun c => ?_) (fun c => ?_)
    · have e := (if_neg c).symm.trans e
      exact t50_39 s l x1 x2 h0 h1 h2 r e
    · have e := (if_pos c).symm.trans e
      refine r_aload_n (pc := 27) p50 k50_27 h0 ?_
      refine r_iload_n (pc := 28) p50 k50_28 h1 ?_
      refine r_iconst (pc := 29) p50 k50_29 (v := (1 : Int32)) rfl ?_
      refine r_iadd (pc := 30) p50 k50_30 ?_
      obtain ⟨r1, er1, e⟩ := of_bind e
      refine c_cv (i := 11) rfl (pc := 31) p50 k50_31 rfl p25 (r := []) rfl rfl rfl rfl rfl rfl (t25 s (x1 + (1 : Int32)) r1 er1) (w := [.int r1]) rfl ?_
      refine r_bipush (pc := 34) p50 k50_34 (v := (112 : Int32)) rfl ?_
      refine r_ic_eq (pc := 36) p50 k50_36 (fun c => ?_) (fun c => ?_)
      · have e := (if_pos c).symm.trans e
        refine r_aload_n (pc := 56) p50 k50_56 h0 ?_
        refine r_iload_n (pc := 57) p50 k50_57 h1 ?_
        obtain ⟨r2, er2, e⟩ := of_bind e
        refine c_cv (i := 11) rfl (pc := 58) p50 k50_58 rfl p25 (r := []) rfl rfl rfl rfl rfl rfl (t25 s x1 r2 er2) (w := [.int r2]) rfl ?_
        by_cases c0 : r2 = 102
        · have e := (if_pos c0).symm.trans e
          refine r_sw (t := 110) (st' := []) (pc := 61) p50 k50_61 rfl rfl rfl (by rw [c0]; rfl) ?_
          refine r_bipush (pc := 110) p50 k50_110 (v := (8 : Int32)) rfl ?_
          obtain rfl := Option.some.inj e
          exact r_retI (pc := 112) p50 k50_112 rfl
        have e := (if_neg c0).symm.trans e
        by_cases c1 : r2 = 103
        · have e := (if_pos c1).symm.trans e
          refine r_sw (t := 106) (st' := []) (pc := 61) p50 k50_61 rfl rfl rfl (by rw [c1]; rfl) ?_
          refine r_iconst (pc := 106) p50 k50_106 (v := (3 : Int32)) rfl ?_
          obtain rfl := Option.some.inj e
          exact r_retI (pc := 107) p50 k50_107 rfl
        have e := (if_neg c1).symm.trans e
        by_cases c2 : r2 = 115
        · have e := (if_pos c2).symm.trans e
          refine r_sw (t := 104) (st' := []) (pc := 61) p50 k50_61 rfl rfl rfl (by rw [c2]; rfl) ?_
          refine r_iconst (pc := 104) p50 k50_104 (v := (2 : Int32)) rfl ?_
          obtain rfl := Option.some.inj e
          exact r_retI (pc := 105) p50 k50_105 rfl
        have e := (if_neg c2).symm.trans e
        by_cases c3 : r2 = 116
        · have e := (if_pos c3).symm.trans e
          refine r_sw (t := 108) (st' := []) (pc := 61) p50 k50_61 rfl rfl rfl (by rw [c3]; rfl) ?_
          refine r_iconst (pc := 108) p50 k50_108 (v := (4 : Int32)) rfl ?_
          obtain rfl := Option.some.inj e
          exact r_retI (pc := 109) p50 k50_109 rfl
        have e := (if_neg c3).symm.trans e
        refine r_lswd (T := 113) (pc := 61) p50 k50_61 (by decide) (by decide) (by decide) (by
            intro q hq
            simp only [List.mem_cons, List.not_mem_nil, or_false] at hq
            rcases hq with rfl | rfl | rfl | rfl
            · exact fun hh => c0 (Int32.toInt_inj.mp hh.symm)
            · exact fun hh => c1 (Int32.toInt_inj.mp hh.symm)
            · exact fun hh => c2 (Int32.toInt_inj.mp hh.symm)
            · exact fun hh => c3 (Int32.toInt_inj.mp hh.symm)) ?_
        refine r_iconst (pc := 113) p50 k50_113 (v := (-1 : Int32)) rfl ?_
        obtain rfl := Option.some.inj e
        exact r_retI (pc := 114) p50 k50_114 rfl
      · have e := (if_neg c).symm.trans e
        exact t50_39 s l x1 x2 h0 h1 h2 r e
  · have e := (if_pos c).symm.trans e
    refine r_aload_n (pc := 5) p50 k50_5 h0 ?_
    refine r_iload_n (pc := 6) p50 k50_6 h1 ?_
    refine r_iload_n (pc := 7) p50 k50_7 h2 ?_
    refine r_ldS (pc := 8) p50 k50_8 ?_
    obtain ⟨r1, er1, e⟩ := of_bind e
    refine c_cv (i := 11) rfl (pc := 10) p50 k50_10 rfl p51 (r := []) rfl rfl rfl rfl rfl rfl (t51 s x1 x2 1 r1 er1) (w := [.int r1]) rfl ?_
    refine r_if_ne (pc := 13) p50 k50_13 (fun c => ?_) (fun c => ?_)
    · have e := (if_neg c).symm.trans e
      refine r_iconst (pc := 20) p50 k50_20 (v := (-1 : Int32)) rfl ?_
      obtain rfl := Option.some.inj e
      exact r_retI (pc := 21) p50 k50_21 rfl
    · have e := (if_pos c).symm.trans e
      refine r_iconst (pc := 16) p50 k50_16 (v := (0 : Int32)) rfl ?_
      refine r_goto (pc := 17) p50 k50_17 ?_
      obtain rfl := Option.some.inj e
      exact r_retI (pc := 21) p50 k50_21 rfl

theorem p48 : ab_prog[48]? = some (ab_m48, ab_c48) := rfl
theorem k48_0 : ab_fetch ab_c48 0 = some (.aload_n 0, 1, 0, 0) := rfl
theorem k48_1 : ab_fetch ab_c48 1 = some (.iload_n 1, 1, 0, 0) := rfl
theorem k48_2 : ab_fetch ab_c48 2 = some (.iconst 1, 1, 0, 0) := rfl
theorem k48_3 : ab_fetch ab_c48 3 = some (.iadd, 1, 0, 0) := rfl
theorem k48_4 : ab_fetch ab_c48 4 = some (.iload_n 2, 1, 0, 0) := rfl
theorem k48_5 : ab_fetch ab_c48 5 = some (.iconst 1, 1, 0, 0) := rfl
theorem k48_6 : ab_fetch ab_c48 6 = some (.isub, 1, 0, 0) := rfl
theorem k48_7 : ab_fetch ab_c48 7 = some (.invokevirtual 94, 3, 49, 2) := rfl
theorem k48_10 : ab_fetch ab_c48 10 = some (.istore_n 3, 1, 0, 0) := rfl
theorem k48_11 : ab_fetch ab_c48 11 = some (.iload_n 3, 1, 0, 0) := rfl
theorem k48_12 : ab_fetch ab_c48 12 = some (.iconst (-1), 1, 0, 0) := rfl
theorem k48_13 : ab_fetch ab_c48 13 = some (.if_icmp .ne 10, 3, 23, 0) := rfl
theorem k48_16 : ab_fetch ab_c48 16 = some (.aload_n 0, 1, 0, 0) := rfl
theorem k48_17 : ab_fetch ab_c48 17 = some (.iload_n 1, 1, 0, 0) := rfl
theorem k48_18 : ab_fetch ab_c48 18 = some (.iload_n 2, 1, 0, 0) := rfl
theorem k48_19 : ab_fetch ab_c48 19 = some (.invokevirtual 97, 3, 50, 2) := rfl
theorem k48_22 : ab_fetch ab_c48 22 = some (.ireturn, 1, 0, 0) := rfl
theorem k48_23 : ab_fetch ab_c48 23 = some (.aload_n 0, 1, 0, 0) := rfl
theorem k48_24 : ab_fetch ab_c48 24 = some (.iload_n 1, 1, 0, 0) := rfl
theorem k48_25 : ab_fetch ab_c48 25 = some (.invokevirtual 100, 3, 25, 1) := rfl
theorem k48_28 : ab_fetch ab_c48 28 = some (.lookupswitch 124 #[(97, 56), (115, 71), (116, 98), (120, 44)], 44, 0, 0) := rfl
theorem k48_72 : ab_fetch ab_c48 72 = some (.iload_n 3, 1, 0, 0) := rfl
theorem k48_73 : ab_fetch ab_c48 73 = some (.bipush 31, 2, 0, 0) := rfl
theorem k48_75 : ab_fetch ab_c48 75 = some (.if_icmp .gt 7, 3, 82, 0) := rfl
theorem k48_78 : ab_fetch ab_c48 78 = some (.iload_n 3, 1, 0, 0) := rfl
theorem k48_79 : ab_fetch ab_c48 79 = some (.goto 4, 3, 83, 0) := rfl
theorem k48_82 : ab_fetch ab_c48 82 = some (.iconst (-1), 1, 0, 0) := rfl
theorem k48_83 : ab_fetch ab_c48 83 = some (.ireturn, 1, 0, 0) := rfl
theorem k48_84 : ab_fetch ab_c48 84 = some (.iload_n 3, 1, 0, 0) := rfl
theorem k48_85 : ab_fetch ab_c48 85 = some (.bipush 7, 2, 0, 0) := rfl
theorem k48_87 : ab_fetch ab_c48 87 = some (.if_icmp .gt 10, 3, 97, 0) := rfl
theorem k48_90 : ab_fetch ab_c48 90 = some (.bipush 10, 2, 0, 0) := rfl
theorem k48_92 : ab_fetch ab_c48 92 = some (.iload_n 3, 1, 0, 0) := rfl
theorem k48_93 : ab_fetch ab_c48 93 = some (.iadd, 1, 0, 0) := rfl
theorem k48_94 : ab_fetch ab_c48 94 = some (.goto 4, 3, 98, 0) := rfl
theorem k48_97 : ab_fetch ab_c48 97 = some (.iconst (-1), 1, 0, 0) := rfl
theorem k48_98 : ab_fetch ab_c48 98 = some (.ireturn, 1, 0, 0) := rfl
theorem k48_99 : ab_fetch ab_c48 99 = some (.iload_n 3, 1, 0, 0) := rfl
theorem k48_100 : ab_fetch ab_c48 100 = some (.iconst 1, 1, 0, 0) := rfl
theorem k48_101 : ab_fetch ab_c48 101 = some (.if_icmp .gt 10, 3, 111, 0) := rfl
theorem k48_104 : ab_fetch ab_c48 104 = some (.bipush 8, 2, 0, 0) := rfl
theorem k48_106 : ab_fetch ab_c48 106 = some (.iload_n 3, 1, 0, 0) := rfl
theorem k48_107 : ab_fetch ab_c48 107 = some (.iadd, 1, 0, 0) := rfl
theorem k48_108 : ab_fetch ab_c48 108 = some (.goto 17, 3, 125, 0) := rfl
theorem k48_111 : ab_fetch ab_c48 111 = some (.iload_n 3, 1, 0, 0) := rfl
theorem k48_112 : ab_fetch ab_c48 112 = some (.bipush 11, 2, 0, 0) := rfl
theorem k48_114 : ab_fetch ab_c48 114 = some (.if_icmp .gt 10, 3, 124, 0) := rfl
theorem k48_117 : ab_fetch ab_c48 117 = some (.bipush 16, 2, 0, 0) := rfl
theorem k48_119 : ab_fetch ab_c48 119 = some (.iload_n 3, 1, 0, 0) := rfl
theorem k48_120 : ab_fetch ab_c48 120 = some (.iadd, 1, 0, 0) := rfl
theorem k48_121 : ab_fetch ab_c48 121 = some (.goto 4, 3, 125, 0) := rfl
theorem k48_124 : ab_fetch ab_c48 124 = some (.iconst (-1), 1, 0, 0) := rfl
theorem k48_125 : ab_fetch ab_c48 125 = some (.ireturn, 1, 0, 0) := rfl
theorem k48_126 : ab_fetch ab_c48 126 = some (.iload_n 3, 1, 0, 0) := rfl
theorem k48_127 : ab_fetch ab_c48 127 = some (.iconst 2, 1, 0, 0) := rfl
theorem k48_128 : ab_fetch ab_c48 128 = some (.if_icmp .gt 9, 3, 137, 0) := rfl
theorem k48_131 : ab_fetch ab_c48 131 = some (.iconst 5, 1, 0, 0) := rfl
theorem k48_132 : ab_fetch ab_c48 132 = some (.iload_n 3, 1, 0, 0) := rfl
theorem k48_133 : ab_fetch ab_c48 133 = some (.iadd, 1, 0, 0) := rfl
theorem k48_134 : ab_fetch ab_c48 134 = some (.goto 17, 3, 151, 0) := rfl
theorem k48_137 : ab_fetch ab_c48 137 = some (.iload_n 3, 1, 0, 0) := rfl
theorem k48_138 : ab_fetch ab_c48 138 = some (.bipush 6, 2, 0, 0) := rfl
theorem k48_140 : ab_fetch ab_c48 140 = some (.if_icmp .gt 10, 3, 150, 0) := rfl
theorem k48_143 : ab_fetch ab_c48 143 = some (.bipush 25, 2, 0, 0) := rfl
theorem k48_145 : ab_fetch ab_c48 145 = some (.iload_n 3, 1, 0, 0) := rfl
theorem k48_146 : ab_fetch ab_c48 146 = some (.iadd, 1, 0, 0) := rfl
theorem k48_147 : ab_fetch ab_c48 147 = some (.goto 4, 3, 151, 0) := rfl
theorem k48_150 : ab_fetch ab_c48 150 = some (.iconst (-1), 1, 0, 0) := rfl
theorem k48_151 : ab_fetch ab_c48 151 = some (.ireturn, 1, 0, 0) := rfl
theorem k48_152 : ab_fetch ab_c48 152 = some (.iconst (-1), 1, 0, 0) := rfl
theorem k48_153 : ab_fetch ab_c48 153 = some (.ireturn, 1, 0, 0) := rfl
/- CodeSmith$Tokens registerNamed(II)I -/
def f48 (s : cS) (x1 : Int32) (x2 : Int32) : Option Int32 := ((f49 s (x1 + (1 : Int32)) (x2 - (1 : Int32))).bind fun r1 => (if r1 = (-1 : Int32) then ((f50 s x1 x2).bind fun r2 => some r2) else ((f25 s x1).bind fun r2 => (if r2 = 97 then (if (7 : Int32) < r1 then some (-1 : Int32) else some ((10 : Int32) + r1)) else if r2 = 115 then (if (1 : Int32) < r1 then (if (11 : Int32) < r1 then some (-1 : Int32) else some ((16 : Int32) + r1)) else some ((8 : Int32) + r1)) else if r2 = 116 then (if (2 : Int32) < r1 then (if (6 : Int32) < r1 then some (-1 : Int32) else some ((25 : Int32) + r1)) else some ((5 : Int32) + r1)) else if r2 = 120 then (if (31 : Int32) < r1 then some (-1 : Int32) else some r1) else some (-1 : Int32)))))
theorem t48 {d : Nat} {Z : Nat → ab_C} (s : cS) (x1 : Int32) (x2 : Int32) (r : Int32) (e : f48 s x1 x2 = some r) : ab_Rn (d + 6) 48 0 (lv_args 0 [.ref 11, .int x1, .int x2]) [] (ch s Z) (.inl (some (.int r))) (ch s Z) := by
  unfold f48 at e
  obtain ⟨l, hl⟩ : ∃ l, l = (lv_args 0 [.ref 11, .int x1, .int x2]) := ⟨_, rfl⟩
  rw [← hl]
  have h0 : ab_get l 0 = some (.ref 11) := by rw [hl]; rfl
  have h1 : ab_get l 1 = some (.int x1) := by rw [hl]; rfl
  have h2 : ab_get l 2 = some (.int x2) := by rw [hl]; rfl
  refine r_aload_n (pc := 0) p48 k48_0 h0 ?_
  refine r_iload_n (pc := 1) p48 k48_1 h1 ?_
  refine r_iconst (pc := 2) p48 k48_2 (v := (1 : Int32)) rfl ?_
  refine r_iadd (pc := 3) p48 k48_3 ?_
  refine r_iload_n (pc := 4) p48 k48_4 h2 ?_
  refine r_iconst (pc := 5) p48 k48_5 (v := (1 : Int32)) rfl ?_
  refine r_isub (pc := 6) p48 k48_6 ?_
  obtain ⟨r1, er1, e⟩ := of_bind e
  refine c_cv (i := 11) rfl (pc := 7) p48 k48_7 rfl p49 (r := []) rfl rfl rfl rfl rfl rfl (t49 s (x1 + (1 : Int32)) (x2 - (1 : Int32)) r1 er1) (w := [.int r1]) rfl ?_
  refine r_istore_n (pc := 10) p48 k48_10 (by decide) (fun l g h3 => ?_)
  have h0 := g 0 _ (by decide) h0 (Or.inl rfl)
  have h1 := g 1 _ (by decide) h1 (Or.inl rfl)
  have h2 := g 2 _ (by decide) h2 (Or.inl rfl)
  refine r_iload_n (pc := 11) p48 k48_11 h3 ?_
  refine r_iconst (pc := 12) p48 k48_12 (v := (-1 : Int32)) rfl ?_
  refine r_ic_ne (pc := 13) p48 k48_13 (fun c => ?_) (fun c => ?_)
  · have e := (if_neg c).symm.trans e
    refine r_aload_n (pc := 23) p48 k48_23 h0 ?_
    refine r_iload_n (pc := 24) p48 k48_24 h1 ?_
    obtain ⟨r2, er2, e⟩ := of_bind e
    refine c_cv (i := 11) rfl (pc := 25) p48 k48_25 rfl p25 (r := []) rfl rfl rfl rfl rfl rfl (t25 s x1 r2 er2) (w := [.int r2]) rfl ?_
    by_cases c0 : r2 = 97
    · have e := (if_pos c0).symm.trans e
      refine r_sw (t := 84) (st' := []) (pc := 28) p48 k48_28 rfl rfl rfl (by rw [c0]; rfl) ?_
      refine r_iload_n (pc := 84) p48 k48_84 h3 ?_
      refine r_bipush (pc := 85) p48 k48_85 (v := (7 : Int32)) rfl ?_
      refine r_ic_gt (pc := 87) p48 k48_87 (fun c => ?_) (fun c => ?_)
      · have e := (if_pos c).symm.trans e
        refine r_iconst (pc := 97) p48 k48_97 (v := (-1 : Int32)) rfl ?_
        obtain rfl := Option.some.inj e
        exact r_retI (pc := 98) p48 k48_98 rfl
      · have e := (if_neg c).symm.trans e
        refine r_bipush (pc := 90) p48 k48_90 (v := (10 : Int32)) rfl ?_
        refine r_iload_n (pc := 92) p48 k48_92 h3 ?_
        refine r_iadd (pc := 93) p48 k48_93 ?_
        refine r_goto (pc := 94) p48 k48_94 ?_
        obtain rfl := Option.some.inj e
        exact r_retI (pc := 98) p48 k48_98 rfl
    have e := (if_neg c0).symm.trans e
    by_cases c1 : r2 = 115
    · have e := (if_pos c1).symm.trans e
      refine r_sw (t := 99) (st' := []) (pc := 28) p48 k48_28 rfl rfl rfl (by rw [c1]; rfl) ?_
      refine r_iload_n (pc := 99) p48 k48_99 h3 ?_
      refine r_iconst (pc := 100) p48 k48_100 (v := (1 : Int32)) rfl ?_
      refine r_ic_gt (pc := 101) p48 k48_101 (fun c => ?_) (fun c => ?_)
      · have e := (if_pos c).symm.trans e
        refine r_iload_n (pc := 111) p48 k48_111 h3 ?_
        refine r_bipush (pc := 112) p48 k48_112 (v := (11 : Int32)) rfl ?_
        refine r_ic_gt (pc := 114) p48 k48_114 (fun c => ?_) (fun c => ?_)
        · have e := (if_pos c).symm.trans e
          refine r_iconst (pc := 124) p48 k48_124 (v := (-1 : Int32)) rfl ?_
          obtain rfl := Option.some.inj e
          exact r_retI (pc := 125) p48 k48_125 rfl
        · have e := (if_neg c).symm.trans e
          refine r_bipush (pc := 117) p48 k48_117 (v := (16 : Int32)) rfl ?_
          refine r_iload_n (pc := 119) p48 k48_119 h3 ?_
          refine r_iadd (pc := 120) p48 k48_120 ?_
          refine r_goto (pc := 121) p48 k48_121 ?_
          obtain rfl := Option.some.inj e
          exact r_retI (pc := 125) p48 k48_125 rfl
      · have e := (if_neg c).symm.trans e
        refine r_bipush (pc := 104) p48 k48_104 (v := (8 : Int32)) rfl ?_
        refine r_iload_n (pc := 106) p48 k48_106 h3 ?_
        refine r_iadd (pc := 107) p48 k48_107 ?_
        refine r_goto (pc := 108) p48 k48_108 ?_
        obtain rfl := Option.some.inj e
        exact r_retI (pc := 125) p48 k48_125 rfl
    have e := (if_neg c1).symm.trans e
    by_cases c2 : r2 = 116
    · have e := (if_pos c2).symm.trans e
      refine r_sw (t := 126) (st' := []) (pc := 28) p48 k48_28 rfl rfl rfl (by rw [c2]; rfl) ?_
      refine r_iload_n (pc := 126) p48 k48_126 h3 ?_
      refine r_iconst (pc := 127) p48 k48_127 (v := (2 : Int32)) rfl ?_
      refine r_ic_gt (pc := 128) p48 k48_128 (fun c => ?_) (fun c => ?_)
      · have e := (if_pos c).symm.trans e
        refine r_iload_n (pc := 137) p48 k48_137 h3 ?_
        refine r_bipush (pc := 138) p48 k48_138 (v := (6 : Int32)) rfl ?_
        refine r_ic_gt (pc := 140) p48 k48_140 (fun c => ?_) (fun c => ?_)
        · have e := (if_pos c).symm.trans e
          refine r_iconst (pc := 150) p48 k48_150 (v := (-1 : Int32)) rfl ?_
          obtain rfl := Option.some.inj e
          exact r_retI (pc := 151) p48 k48_151 rfl
        · have e := (if_neg c).symm.trans e
          refine r_bipush (pc := 143) p48 k48_143 (v := (25 : Int32)) rfl ?_
          refine r_iload_n (pc := 145) p48 k48_145 h3 ?_
          refine r_iadd (pc := 146) p48 k48_146 ?_
          refine r_goto (pc := 147) p48 k48_147 ?_
          obtain rfl := Option.some.inj e
          exact r_retI (pc := 151) p48 k48_151 rfl
      · have e := (if_neg c).symm.trans e
        refine r_iconst (pc := 131) p48 k48_131 (v := (5 : Int32)) rfl ?_
        refine r_iload_n (pc := 132) p48 k48_132 h3 ?_
        refine r_iadd (pc := 133) p48 k48_133 ?_
        refine r_goto (pc := 134) p48 k48_134 ?_
        obtain rfl := Option.some.inj e
        exact r_retI (pc := 151) p48 k48_151 rfl
    have e := (if_neg c2).symm.trans e
    by_cases c3 : r2 = 120
    · have e := (if_pos c3).symm.trans e
      refine r_sw (t := 72) (st' := []) (pc := 28) p48 k48_28 rfl rfl rfl (by rw [c3]; rfl) ?_
      refine r_iload_n (pc := 72) p48 k48_72 h3 ?_
      refine r_bipush (pc := 73) p48 k48_73 (v := (31 : Int32)) rfl ?_
      refine r_ic_gt (pc := 75) p48 k48_75 (fun c => ?_) (fun c => ?_)
      · have e := (if_pos c).symm.trans e
        refine r_iconst (pc := 82) p48 k48_82 (v := (-1 : Int32)) rfl ?_
        obtain rfl := Option.some.inj e
        exact r_retI (pc := 83) p48 k48_83 rfl
      · have e := (if_neg c).symm.trans e
        refine r_iload_n (pc := 78) p48 k48_78 h3 ?_
        refine r_goto (pc := 79) p48 k48_79 ?_
        obtain rfl := Option.some.inj e
        exact r_retI (pc := 83) p48 k48_83 rfl
    have e := (if_neg c3).symm.trans e
    refine r_lswd (T := 152) (pc := 28) p48 k48_28 (by decide) (by decide) (by decide) (by
        intro q hq
        simp only [List.mem_cons, List.not_mem_nil, or_false] at hq
        rcases hq with rfl | rfl | rfl | rfl
        · exact fun hh => c0 (Int32.toInt_inj.mp hh.symm)
        · exact fun hh => c1 (Int32.toInt_inj.mp hh.symm)
        · exact fun hh => c2 (Int32.toInt_inj.mp hh.symm)
        · exact fun hh => c3 (Int32.toInt_inj.mp hh.symm)) ?_
    refine r_iconst (pc := 152) p48 k48_152 (v := (-1 : Int32)) rfl ?_
    obtain rfl := Option.some.inj e
    exact r_retI (pc := 153) p48 k48_153 rfl
  · have e := (if_pos c).symm.trans e
    refine r_aload_n (pc := 16) p48 k48_16 h0 ?_
    refine r_iload_n (pc := 17) p48 k48_17 h1 ?_
    refine r_iload_n (pc := 18) p48 k48_18 h2 ?_
    obtain ⟨r2, er2, e⟩ := of_bind e
    refine c_cv (i := 11) rfl (pc := 19) p48 k48_19 rfl p50 (r := []) rfl rfl rfl rfl rfl rfl (t50 s x1 x2 r2 er2) (w := [.int r2]) rfl ?_
    obtain rfl := Option.some.inj e
    exact r_retI (pc := 22) p48 k48_22 rfl

theorem p59 : ab_prog[59]? = some (ab_m59, ab_c59) := rfl
theorem k59_0 : ab_fetch ab_c59 0 = some (.iconst 0, 1, 0, 0) := rfl
theorem k59_1 : ab_fetch ab_c59 1 = some (.istore_n 3, 1, 0, 0) := rfl
theorem k59_2 : ab_fetch ab_c59 2 = some (.iload_n 1, 1, 0, 0) := rfl
theorem k59_3 : ab_fetch ab_c59 3 = some (.istore 4, 2, 0, 0) := rfl
theorem k59_5 : ab_fetch ab_c59 5 = some (.iload 4, 2, 0, 0) := rfl
theorem k59_7 : ab_fetch ab_c59 7 = some (.iload_n 1, 1, 0, 0) := rfl
theorem k59_8 : ab_fetch ab_c59 8 = some (.iload_n 2, 1, 0, 0) := rfl
theorem k59_9 : ab_fetch ab_c59 9 = some (.iadd, 1, 0, 0) := rfl
theorem k59_10 : ab_fetch ab_c59 10 = some (.if_icmp .ge 37, 3, 47, 0) := rfl
theorem k59_13 : ab_fetch ab_c59 13 = some (.iload 4, 2, 0, 0) := rfl
theorem k59_15 : ab_fetch ab_c59 15 = some (.ifCond .lt 32, 3, 47, 0) := rfl
theorem k59_18 : ab_fetch ab_c59 18 = some (.iload 4, 2, 0, 0) := rfl
theorem k59_20 : ab_fetch ab_c59 20 = some (.aload_n 0, 1, 0, 0) := rfl
theorem k59_21 : ab_fetch ab_c59 21 = some (.getfield 9, 3, 3, 1) := rfl
theorem k59_24 : ab_fetch ab_c59 24 = some (.arraylength, 1, 0, 0) := rfl
theorem k59_25 : ab_fetch ab_c59 25 = some (.if_icmp .ge 22, 3, 47, 0) := rfl
theorem k59_28 : ab_fetch ab_c59 28 = some (.iload_n 3, 1, 0, 0) := rfl
theorem k59_29 : ab_fetch ab_c59 29 = some (.bipush 31, 2, 0, 0) := rfl
theorem k59_31 : ab_fetch ab_c59 31 = some (.imul, 1, 0, 0) := rfl
theorem k59_32 : ab_fetch ab_c59 32 = some (.aload_n 0, 1, 0, 0) := rfl
theorem k59_33 : ab_fetch ab_c59 33 = some (.getfield 9, 3, 3, 1) := rfl
theorem k59_36 : ab_fetch ab_c59 36 = some (.iload 4, 2, 0, 0) := rfl
theorem k59_38 : ab_fetch ab_c59 38 = some (.baload, 1, 0, 0) := rfl
theorem k59_39 : ab_fetch ab_c59 39 = some (.iadd, 1, 0, 0) := rfl
theorem k59_40 : ab_fetch ab_c59 40 = some (.istore_n 3, 1, 0, 0) := rfl
theorem k59_41 : ab_fetch ab_c59 41 = some (.iinc 4 1, 3, 0, 0) := rfl
theorem k59_44 : ab_fetch ab_c59 44 = some (.goto (-39), 3, 5, 0) := rfl
theorem k59_47 : ab_fetch ab_c59 47 = some (.iload_n 3, 1, 0, 0) := rfl
theorem k59_48 : ab_fetch ab_c59 48 = some (.iload_n 3, 1, 0, 0) := rfl
theorem k59_49 : ab_fetch ab_c59 49 = some (.bipush 8, 2, 0, 0) := rfl
theorem k59_51 : ab_fetch ab_c59 51 = some (.iushr, 1, 0, 0) := rfl
theorem k59_52 : ab_fetch ab_c59 52 = some (.ixor, 1, 0, 0) := rfl
theorem k59_53 : ab_fetch ab_c59 53 = some (.sipush 255, 3, 0, 0) := rfl
theorem k59_56 : ab_fetch ab_c59 56 = some (.iand, 1, 0, 0) := rfl
theorem k59_57 : ab_fetch ab_c59 57 = some (.ireturn, 1, 0, 0) := rfl
/- CodeSmith$Symbols chainOf(II)I -/
def f59_47 (s : cS) (x3 : Int32) : Option Int32 := some ((x3 ^^^ ((x3.toUInt32 >>> ((8 : Int32).toUInt32 &&& Int32.toUInt32 31)).toInt32)) &&& (255 : Int32))
theorem t59_47 {d : Nat} {Z : Nat → ab_C} : ∀ (s : cS) (l : ab_L) (x3 : Int32) (h3 : ab_get l 3 = some (.int x3)) (r : Int32) (e : f59_47 s x3 = some r), ab_Rn d 59 47 l [] (ch s Z) (.inl (some (.int r))) (ch s Z) := by
  intro s l x3 h3 r e
  unfold f59_47 at e
  refine r_iload_n (pc := 47) p59 k59_47 h3 ?_
  refine r_iload_n (pc := 48) p59 k59_48 h3 ?_
  refine r_bipush (pc := 49) p59 k59_49 (v := (8 : Int32)) rfl ?_
  refine r_iushr (pc := 51) p59 k59_51 ?_
  refine r_ixor (pc := 52) p59 k59_52 ?_
  refine r_sipush (pc := 53) p59 k59_53 (v := (255 : Int32)) rfl ?_
  refine r_iand (pc := 56) p59 k59_56 ?_
  obtain rfl := Option.some.inj e
  exact r_retI (pc := 57) p59 k59_57 rfl
def f59_5 : Nat → cS → Int32 → Int32 → Int32 → Int32 → Option Int32
  | 0, _, _, _, _, _ => none
  | u + 1, s, x1, x2, x3, x4 => (if (x1 + x2) ≤ x4 then f59_47 s x3 else (if x4 < 0 then f59_47 s x3 else if cA s 0 (s.2.1 2 1) then (if (Int32.ofNat (cl s (s.2.1 2 1))) ≤ x4 then f59_47 s x3 else if cB s 0 (s.2.1 2 1) x4 then f59_5 u s x1 x2 ((x3 * (31 : Int32)) + (ce s (s.2.1 2 1) x4)) (x4 + (1 : Int32)) else none) else none))
theorem t59_5 {d : Nat} {Z : Nat → ab_C} : ∀ u : Nat, ∀ (s : cS) (l : ab_L) (x1 : Int32) (x2 : Int32) (x3 : Int32) (x4 : Int32) (h0 : ab_get l 0 = some (.ref 2)) (h1 : ab_get l 1 = some (.int x1)) (h2 : ab_get l 2 = some (.int x2)) (h3 : ab_get l 3 = some (.int x3)) (h4 : ab_get l 4 = some (.int x4)) (r : Int32) (e : f59_5 u s x1 x2 x3 x4 = some r), ab_Rn d 59 5 l [] (ch s Z) (.inl (some (.int r))) (ch s Z) := by
  intro u
  induction u with
  | zero => intro s l x1 x2 x3 x4 h0 h1 h2 h3 h4 r e; rw [f59_5] at e; cases e
  | succ u ih =>
    intro s l x1 x2 x3 x4 h0 h1 h2 h3 h4 r e
    rw [f59_5] at e
    refine r_iload (pc := 5) p59 k59_5 h4 ?_
    refine r_iload_n (pc := 7) p59 k59_7 h1 ?_
    refine r_iload_n (pc := 8) p59 k59_8 h2 ?_
    refine r_iadd (pc := 9) p59 k59_9 ?_
    refine r_ic_ge (pc := 10) p59 k59_10 (fun c => ?_) (fun c => ?_)
    · have e := (if_pos c).symm.trans e
      exact t59_47 s l x3 h3 r e
    · have e := (if_neg c).symm.trans e
      refine r_iload (pc := 13) p59 k59_13 h4 ?_
      refine r_if_lt (pc := 15) p59 k59_15 (fun c => ?_) (fun c => ?_)
      · have e := (if_pos c).symm.trans e
        exact t59_47 s l x3 h3 r e
      · have e := (if_neg c).symm.trans e
        refine r_iload (pc := 18) p59 k59_18 h4 ?_
        refine r_aload_n (pc := 20) p59 k59_20 h0 ?_
        refine c_get (i := 2) rfl (pc := 21) p59 k59_21 rfl rfl (v := .ref (s.2.1 2 1)) rfl ?_
        obtain ⟨c, e⟩ := of_if e
        refine c_alen (pc := 24) p59 k59_24 (t := 0) rfl c ?_
        refine r_ic_ge (pc := 25) p59 k59_25 (fun c => ?_) (fun c => ?_)
        · have e := (if_pos c).symm.trans e
          exact t59_47 s l x3 h3 r e
        · have e := (if_neg c).symm.trans e
          refine r_iload_n (pc := 28) p59 k59_28 h3 ?_
          refine r_bipush (pc := 29) p59 k59_29 (v := (31 : Int32)) rfl ?_
          refine r_imul (pc := 31) p59 k59_31 ?_
          refine r_aload_n (pc := 32) p59 k59_32 h0 ?_
          refine c_get (i := 2) rfl (pc := 33) p59 k59_33 rfl rfl (v := .ref (s.2.1 2 1)) rfl ?_
          refine r_iload (pc := 36) p59 k59_36 h4 ?_
          obtain ⟨c, e⟩ := of_if e
          refine c_bld (pc := 38) p59 k59_38 c ?_
          refine r_iadd (pc := 39) p59 k59_39 ?_
          refine r_istore_n (pc := 40) p59 k59_40 (by decide) (fun l g h3 => ?_)
          have h0 := g 0 _ (by decide) h0 (Or.inl rfl)
          have h1 := g 1 _ (by decide) h1 (Or.inl rfl)
          have h2 := g 2 _ (by decide) h2 (Or.inl rfl)
          have h4 := g 4 _ (by decide) h4 (Or.inl rfl)
          refine r_iinc (pc := 41) p59 k59_41 h4 (by decide) (v := (x4 + (1 : Int32))) rfl (fun l g h4 => ?_)
          have h0 := g 0 _ (by decide) h0 (Or.inl rfl)
          have h1 := g 1 _ (by decide) h1 (Or.inl rfl)
          have h2 := g 2 _ (by decide) h2 (Or.inl rfl)
          have h3 := g 3 _ (by decide) h3 (Or.inl rfl)
          refine r_goto (pc := 44) p59 k59_44 ?_
          exact ih s l x1 x2 ((x3 * (31 : Int32)) + (ce s (s.2.1 2 1) x4)) (x4 + (1 : Int32)) h0 h1 h2 h3 h4 r e
def f59 (s : cS) (x1 : Int32) (x2 : Int32) : Option Int32 := f59_5 mm_U s x1 x2 (0 : Int32) x1
theorem t59 {d : Nat} {Z : Nat → ab_C} (s : cS) (x1 : Int32) (x2 : Int32) (r : Int32) (e : f59 s x1 x2 = some r) : ab_Rn d 59 0 (lv_args 0 [.ref 2, .int x1, .int x2]) [] (ch s Z) (.inl (some (.int r))) (ch s Z) := by
  unfold f59 at e
  obtain ⟨l, hl⟩ : ∃ l, l = (lv_args 0 [.ref 2, .int x1, .int x2]) := ⟨_, rfl⟩
  rw [← hl]
  have h0 : ab_get l 0 = some (.ref 2) := by rw [hl]; rfl
  have h1 : ab_get l 1 = some (.int x1) := by rw [hl]; rfl
  have h2 : ab_get l 2 = some (.int x2) := by rw [hl]; rfl
  refine r_iconst (pc := 0) p59 k59_0 (v := (0 : Int32)) rfl ?_
  refine r_istore_n (pc := 1) p59 k59_1 (by decide) (fun l g h3 => ?_)
  have h0 := g 0 _ (by decide) h0 (Or.inl rfl)
  have h1 := g 1 _ (by decide) h1 (Or.inl rfl)
  have h2 := g 2 _ (by decide) h2 (Or.inl rfl)
  refine r_iload_n (pc := 2) p59 k59_2 h1 ?_
  refine r_istore (pc := 3) p59 k59_3 (by decide) (fun l g h4 => ?_)
  have h0 := g 0 _ (by decide) h0 (Or.inl rfl)
  have h1 := g 1 _ (by decide) h1 (Or.inl rfl)
  have h2 := g 2 _ (by decide) h2 (Or.inl rfl)
  have h3 := g 3 _ (by decide) h3 (Or.inl rfl)
  exact t59_5 mm_U s l x1 x2 (0 : Int32) x1 h0 h1 h2 h3 h4 r e
