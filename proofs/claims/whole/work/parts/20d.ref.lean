theorem p142 : ab_prog[142]? = some (ab_m142, ab_c142) := rfl
theorem k142_0 : ab_fetch ab_c142 0 = some (.aload_n 0, 1, 0, 0) := rfl
theorem k142_1 : ab_fetch ab_c142 1 = some (.getfield 307, 3, 6, 11) := rfl
theorem k142_4 : ab_fetch ab_c142 4 = some (.ifCond .ne 23, 3, 27, 0) := rfl
theorem k142_7 : ab_fetch ab_c142 7 = some (.aload_n 0, 1, 0, 0) := rfl
theorem k142_8 : ab_fetch ab_c142 8 = some (.getfield 358, 3, 6, 20) := rfl
theorem k142_11 : ab_fetch ab_c142 11 = some (.iconst 4, 1, 0, 0) := rfl
theorem k142_12 : ab_fetch ab_c142 12 = some (.if_icmp .ne 15, 3, 27, 0) := rfl
theorem k142_15 : ab_fetch ab_c142 15 = some (.aload_n 0, 1, 0, 0) := rfl
theorem k142_16 : ab_fetch ab_c142 16 = some (.getfield 352, 3, 6, 22) := rfl
theorem k142_19 : ab_fetch ab_c142 19 = some (.iload_n 1, 1, 0, 0) := rfl
theorem k142_20 : ab_fetch ab_c142 20 = some (.if_icmp .ne 7, 3, 27, 0) := rfl
theorem k142_23 : ab_fetch ab_c142 23 = some (.iconst 1, 1, 0, 0) := rfl
theorem k142_24 : ab_fetch ab_c142 24 = some (.goto 4, 3, 28, 0) := rfl
theorem k142_27 : ab_fetch ab_c142 27 = some (.iconst 0, 1, 0, 0) := rfl
theorem k142_28 : ab_fetch ab_c142 28 = some (.ireturn, 1, 0, 0) := rfl
/- CodeSmithModel is(I)Z -/
def f142 (s : mS) (x1 : Int32) : Int32 := (if (s.1 11) = 0 then (if (s.1 20) = (4 : Int32) then (if (s.1 22) = x1 then (1 : Int32) else (0 : Int32)) else (0 : Int32)) else (0 : Int32))
theorem t142 {d n : Nat} {Z : Nat → ab_C} (hn : 42 ≤ n) (s : mS) (x1 : Int32) (r : Int32) (e : f142 s x1 = r) : ab_Rn d 142 0 (lv_args 0 [.ref 22, .int x1]) [] (ab_hl n (mm_F s Z)) (.inl (some (.int r))) (ab_hl n (mm_F s Z)) := by
  unfold f142 at e
  obtain ⟨l, hl⟩ : ∃ l, l = (lv_args 0 [.ref 22, .int x1]) := ⟨_, rfl⟩
  rw [← hl]
  have h0 : ab_get l 0 = some (.ref 22) := by rw [hl]; rfl
  have h1 : ab_get l 1 = some (.int x1) := by rw [hl]; rfl
  refine r_aload_n (pc := 0) p142 k142_0 h0 ?_
  refine m_get hn (pc := 1) p142 k142_1 (v := .int (s.1 11)) rfl ?_
  refine r_if_ne (pc := 4) p142 k142_4 (fun c => ?_) (fun c => ?_)
  · have e := (if_neg c).symm.trans e
    refine r_iconst (pc := 27) p142 k142_27 (v := (0 : Int32)) rfl ?_
    subst e
    exact r_retZ (pc := 28) p142 k142_28 rfl (Or.inl rfl)
  · have e := (if_pos c).symm.trans e
    refine r_aload_n (pc := 7) p142 k142_7 h0 ?_
    refine m_get hn (pc := 8) p142 k142_8 (v := .int (s.1 20)) rfl ?_
    refine r_iconst (pc := 11) p142 k142_11 (v := (4 : Int32)) rfl ?_
    refine r_ic_ne (pc := 12) p142 k142_12 (fun c => ?_) (fun c => ?_)
    · have e := (if_neg c).symm.trans e
      refine r_iconst (pc := 27) p142 k142_27 (v := (0 : Int32)) rfl ?_
      subst e
      exact r_retZ (pc := 28) p142 k142_28 rfl (Or.inl rfl)
    · have e := (if_pos c).symm.trans e
      refine r_aload_n (pc := 15) p142 k142_15 h0 ?_
      refine m_get hn (pc := 16) p142 k142_16 (v := .int (s.1 22)) rfl ?_
      refine r_iload_n (pc := 19) p142 k142_19 h1 ?_
      refine r_ic_ne (pc := 20) p142 k142_20 (fun c => ?_) (fun c => ?_)
      · have e := (if_neg c).symm.trans e
        refine r_iconst (pc := 27) p142 k142_27 (v := (0 : Int32)) rfl ?_
        subst e
        exact r_retZ (pc := 28) p142 k142_28 rfl (Or.inl rfl)
      · have e := (if_pos c).symm.trans e
        refine r_iconst (pc := 23) p142 k142_23 (v := (1 : Int32)) rfl ?_
        refine r_goto (pc := 24) p142 k142_24 ?_
        subst e
        exact r_retZ (pc := 28) p142 k142_28 rfl (Or.inr rfl)

theorem p141 : ab_prog[141]? = some (ab_m141, ab_c141) := rfl
theorem k141_0 : ab_fetch ab_c141 0 = some (.aload_n 0, 1, 0, 0) := rfl
theorem k141_1 : ab_fetch ab_c141 1 = some (.iload_n 1, 1, 0, 0) := rfl
theorem k141_2 : ab_fetch ab_c141 2 = some (.invokevirtual 384, 3, 142, 1) := rfl
theorem k141_5 : ab_fetch ab_c141 5 = some (.ifCond .ne 15, 3, 20, 0) := rfl
theorem k141_8 : ab_fetch ab_c141 8 = some (.aload_n 0, 1, 0, 0) := rfl
theorem k141_9 : ab_fetch ab_c141 9 = some (.iconst 1, 1, 0, 0) := rfl
theorem k141_10 : ab_fetch ab_c141 10 = some (.aload_n 0, 1, 0, 0) := rfl
theorem k141_11 : ab_fetch ab_c141 11 = some (.getfield 349, 3, 6, 21) := rfl
theorem k141_14 : ab_fetch ab_c141 14 = some (.invokevirtual 342, 3, 131, 2) := rfl
theorem k141_17 : ab_fetch ab_c141 17 = some (.goto 7, 3, 24, 0) := rfl
theorem k141_20 : ab_fetch ab_c141 20 = some (.aload_n 0, 1, 0, 0) := rfl
theorem k141_21 : ab_fetch ab_c141 21 = some (.invokevirtual 387, 3, 117, 0) := rfl
theorem k141_24 : ab_fetch ab_c141 24 = some (.return_, 1, 0, 0) := rfl
/- CodeSmithModel need(I)V -/
def f141 (s : mS) (x1 : Int32) : Option mS := (if (f142 s x1) = 0 then ((f131 s (1 : Int32) (s.1 21)).bind fun r1 => some r1) else ((f117 s).bind fun r1 => some r1))
theorem t141 {d n : Nat} {Z : Nat → ab_C} (hn : 42 ≤ n) (s : mS) (x1 : Int32) (r : mS) (e : f141 s x1 = some r) : ab_Rn (d + 4) 141 0 (lv_args 0 [.ref 22, .int x1]) [] (ab_hl n (mm_F s Z)) (.inl none) (ab_hl n (mm_F r Z)) := by
  unfold f141 at e
  obtain ⟨l, hl⟩ : ∃ l, l = (lv_args 0 [.ref 22, .int x1]) := ⟨_, rfl⟩
  rw [← hl]
  have h0 : ab_get l 0 = some (.ref 22) := by rw [hl]; rfl
  have h1 : ab_get l 1 = some (.int x1) := by rw [hl]; rfl
  refine r_aload_n (pc := 0) p141 k141_0 h0 ?_
  refine r_iload_n (pc := 1) p141 k141_1 h1 ?_
  refine m_cv hn (pc := 2) p141 k141_2 rfl p142 (r := []) rfl rfl rfl rfl rfl (t142 hn s x1 _ rfl) (w := [.int (f142 s x1)]) rfl ?_
  refine r_if_ne (pc := 5) p141 k141_5 (fun c => ?_) (fun c => ?_)
  · have e := (if_neg c).symm.trans e
    refine r_aload_n (pc := 20) p141 k141_20 h0 ?_
    obtain ⟨r1, er1, e⟩ := of_bind e
    refine m_cv hn (pc := 21) p141 k141_21 rfl p117 (r := []) rfl rfl rfl rfl rfl (t117 hn s r1 er1) (w := []) rfl ?_
    cases e
    exact r_retV (pc := 24) p141 k141_24 rfl
  · have e := (if_pos c).symm.trans e
    refine r_aload_n (pc := 8) p141 k141_8 h0 ?_
    refine r_iconst (pc := 9) p141 k141_9 (v := (1 : Int32)) rfl ?_
    refine r_aload_n (pc := 10) p141 k141_10 h0 ?_
    refine m_get hn (pc := 11) p141 k141_11 (v := .int (s.1 21)) rfl ?_
    obtain ⟨r1, er1, e⟩ := of_bind e
    refine m_cv hn (pc := 14) p141 k141_14 rfl p131 (r := []) rfl rfl rfl rfl rfl (t131 hn s (1 : Int32) (s.1 21) r1 er1) (w := []) rfl ?_
    refine r_goto (pc := 17) p141 k141_17 ?_
    cases e
    exact r_retV (pc := 24) p141 k141_24 rfl

theorem p139 : ab_prog[139]? = some (ab_m139, ab_c139) := rfl
theorem k139_0 : ab_fetch ab_c139 0 = some (.aload_n 0, 1, 0, 0) := rfl
theorem k139_1 : ab_fetch ab_c139 1 = some (.invokevirtual 491, 3, 140, 0) := rfl
theorem k139_4 : ab_fetch ab_c139 4 = some (.istore_n 1, 1, 0, 0) := rfl
theorem k139_5 : ab_fetch ab_c139 5 = some (.aload_n 0, 1, 0, 0) := rfl
theorem k139_6 : ab_fetch ab_c139 6 = some (.bipush 44, 2, 0, 0) := rfl
theorem k139_8 : ab_fetch ab_c139 8 = some (.invokevirtual 495, 3, 141, 1) := rfl
theorem k139_11 : ab_fetch ab_c139 11 = some (.iload_n 1, 1, 0, 0) := rfl
theorem k139_12 : ab_fetch ab_c139 12 = some (.ireturn, 1, 0, 0) := rfl
/- CodeSmithModel registerAndComma()I -/
def f139 (s : mS) : Option (Int32 × mS) := ((f140 s).bind fun r1 => ((f141 r1.2 (44 : Int32)).bind fun r2 => some (r1.1, r2)))
theorem t139 {d n : Nat} {Z : Nat → ab_C} (hn : 42 ≤ n) (s : mS) (r : Int32 × mS) (e : f139 s = some r) : ab_Rn (d + 5) 139 0 (lv_args 0 [.ref 22]) [] (ab_hl n (mm_F s Z)) (.inl (some (.int r.1))) (ab_hl n (mm_F r.2 Z)) := by
  unfold f139 at e
  obtain ⟨l, hl⟩ : ∃ l, l = (lv_args 0 [.ref 22]) := ⟨_, rfl⟩
  rw [← hl]
  have h0 : ab_get l 0 = some (.ref 22) := by rw [hl]; rfl
  refine r_aload_n (pc := 0) p139 k139_0 h0 ?_
  obtain ⟨r1, er1, e⟩ := of_bind e
  refine m_cv hn (pc := 1) p139 k139_1 rfl p140 (r := []) rfl rfl rfl rfl rfl (t140 hn s r1 er1) (w := [.int r1.1]) rfl ?_
  refine r_istore_n (pc := 4) p139 k139_4 (by decide) (fun l g h1 => ?_)
  have h0 := g 0 _ (by decide) h0 (Or.inl rfl)
  refine r_aload_n (pc := 5) p139 k139_5 h0 ?_
  refine r_bipush (pc := 6) p139 k139_6 (v := (44 : Int32)) rfl ?_
  obtain ⟨r2, er2, e⟩ := of_bind e
  refine m_cv hn (pc := 8) p139 k139_8 rfl p141 (r := []) rfl rfl rfl rfl rfl (t141 hn r1.2 (44 : Int32) r2 er2) (w := []) rfl ?_
  refine r_iload_n (pc := 11) p139 k139_11 h1 ?_
  cases e
  exact r_retI (pc := 12) p139 k139_12 rfl

theorem p143 : ab_prog[143]? = some (ab_m143, ab_c143) := rfl
theorem k143_0 : ab_fetch ab_c143 0 = some (.iload_n 0, 1, 0, 0) := rfl
theorem k143_1 : ab_fetch ab_c143 1 = some (.bipush 25, 2, 0, 0) := rfl
theorem k143_3 : ab_fetch ab_c143 3 = some (.ishl, 1, 0, 0) := rfl
theorem k143_4 : ab_fetch ab_c143 4 = some (.iload_n 1, 1, 0, 0) := rfl
theorem k143_5 : ab_fetch ab_c143 5 = some (.bipush 20, 2, 0, 0) := rfl
theorem k143_7 : ab_fetch ab_c143 7 = some (.ishl, 1, 0, 0) := rfl
theorem k143_8 : ab_fetch ab_c143 8 = some (.ior, 1, 0, 0) := rfl
theorem k143_9 : ab_fetch ab_c143 9 = some (.iload_n 2, 1, 0, 0) := rfl
theorem k143_10 : ab_fetch ab_c143 10 = some (.bipush 15, 2, 0, 0) := rfl
theorem k143_12 : ab_fetch ab_c143 12 = some (.ishl, 1, 0, 0) := rfl
theorem k143_13 : ab_fetch ab_c143 13 = some (.ior, 1, 0, 0) := rfl
theorem k143_14 : ab_fetch ab_c143 14 = some (.iload_n 3, 1, 0, 0) := rfl
theorem k143_15 : ab_fetch ab_c143 15 = some (.bipush 12, 2, 0, 0) := rfl
theorem k143_17 : ab_fetch ab_c143 17 = some (.ishl, 1, 0, 0) := rfl
theorem k143_18 : ab_fetch ab_c143 18 = some (.ior, 1, 0, 0) := rfl
theorem k143_19 : ab_fetch ab_c143 19 = some (.iload 4, 2, 0, 0) := rfl
theorem k143_21 : ab_fetch ab_c143 21 = some (.bipush 7, 2, 0, 0) := rfl
theorem k143_23 : ab_fetch ab_c143 23 = some (.ishl, 1, 0, 0) := rfl
theorem k143_24 : ab_fetch ab_c143 24 = some (.ior, 1, 0, 0) := rfl
theorem k143_25 : ab_fetch ab_c143 25 = some (.bipush 51, 2, 0, 0) := rfl
theorem k143_27 : ab_fetch ab_c143 27 = some (.ior, 1, 0, 0) := rfl
theorem k143_28 : ab_fetch ab_c143 28 = some (.ireturn, 1, 0, 0) := rfl
/- CodeSmithModel both(IIIII)I -/
def f143 (x0 : Int32) (x1 : Int32) (x2 : Int32) (x3 : Int32) (x4 : Int32) : Int32 := ((((((x0 <<< ((25 : Int32) &&& 31)) ||| (x1 <<< ((20 : Int32) &&& 31))) ||| (x2 <<< ((15 : Int32) &&& 31))) ||| (x3 <<< ((12 : Int32) &&& 31))) ||| (x4 <<< ((7 : Int32) &&& 31))) ||| (51 : Int32))
theorem t143 {d : Nat} {h : ab_H} (x0 : Int32) (x1 : Int32) (x2 : Int32) (x3 : Int32) (x4 : Int32) (r : Int32) (e : f143 x0 x1 x2 x3 x4 = r) : ab_Rn d 143 0 (lv_args 0 [.int x0, .int x1, .int x2, .int x3, .int x4]) [] h (.inl (some (.int r))) h := by
  unfold f143 at e
  obtain ⟨l, hl⟩ : ∃ l, l = (lv_args 0 [.int x0, .int x1, .int x2, .int x3, .int x4]) := ⟨_, rfl⟩
  rw [← hl]
  have h0 : ab_get l 0 = some (.int x0) := by rw [hl]; rfl
  have h1 : ab_get l 1 = some (.int x1) := by rw [hl]; rfl
  have h2 : ab_get l 2 = some (.int x2) := by rw [hl]; rfl
  have h3 : ab_get l 3 = some (.int x3) := by rw [hl]; rfl
  have h4 : ab_get l 4 = some (.int x4) := by rw [hl]; rfl
  refine r_iload_n (pc := 0) p143 k143_0 h0 ?_
  refine r_bipush (pc := 1) p143 k143_1 (v := (25 : Int32)) rfl ?_
  refine r_ishl (pc := 3) p143 k143_3 ?_
  refine r_iload_n (pc := 4) p143 k143_4 h1 ?_
  refine r_bipush (pc := 5) p143 k143_5 (v := (20 : Int32)) rfl ?_
  refine r_ishl (pc := 7) p143 k143_7 ?_
  refine r_ior (pc := 8) p143 k143_8 ?_
  refine r_iload_n (pc := 9) p143 k143_9 h2 ?_
  refine r_bipush (pc := 10) p143 k143_10 (v := (15 : Int32)) rfl ?_
  refine r_ishl (pc := 12) p143 k143_12 ?_
  refine r_ior (pc := 13) p143 k143_13 ?_
  refine r_iload_n (pc := 14) p143 k143_14 h3 ?_
  refine r_bipush (pc := 15) p143 k143_15 (v := (12 : Int32)) rfl ?_
  refine r_ishl (pc := 17) p143 k143_17 ?_
  refine r_ior (pc := 18) p143 k143_18 ?_
  refine r_iload (pc := 19) p143 k143_19 h4 ?_
  refine r_bipush (pc := 21) p143 k143_21 (v := (7 : Int32)) rfl ?_
  refine r_ishl (pc := 23) p143 k143_23 ?_
  refine r_ior (pc := 24) p143 k143_24 ?_
  refine r_bipush (pc := 25) p143 k143_25 (v := (51 : Int32)) rfl ?_
  refine r_ior (pc := 27) p143 k143_27 ?_
  subst e
  exact r_retI (pc := 28) p143 k143_28 rfl

theorem p144 : ab_prog[144]? = some (ab_m144, ab_c144) := rfl
theorem k144_0 : ab_fetch ab_c144 0 = some (.iconst 0, 1, 0, 0) := rfl
theorem k144_1 : ab_fetch ab_c144 1 = some (.istore_n 3, 1, 0, 0) := rfl
theorem k144_2 : ab_fetch ab_c144 2 = some (.iload_n 3, 1, 0, 0) := rfl
theorem k144_3 : ab_fetch ab_c144 3 = some (.iload_n 2, 1, 0, 0) := rfl
theorem k144_4 : ab_fetch ab_c144 4 = some (.if_icmp .ge 48, 3, 52, 0) := rfl
theorem k144_7 : ab_fetch ab_c144 7 = some (.aload_n 0, 1, 0, 0) := rfl
theorem k144_8 : ab_fetch ab_c144 8 = some (.getfield 408, 3, 6, 19) := rfl
theorem k144_11 : ab_fetch ab_c144 11 = some (.ifCond .eq 41, 3, 52, 0) := rfl
theorem k144_14 : ab_fetch ab_c144 14 = some (.aload_n 0, 1, 0, 0) := rfl
theorem k144_15 : ab_fetch ab_c144 15 = some (.getfield 282, 3, 6, 36) := rfl
theorem k144_18 : ab_fetch ab_c144 18 = some (.ldc_w 476, 3, 65420, 0) := rfl
theorem k144_21 : ab_fetch ab_c144 21 = some (.aload_n 0, 1, 0, 0) := rfl
theorem k144_22 : ab_fetch ab_c144 22 = some (.getfield 477, 3, 6, 32) := rfl
theorem k144_25 : ab_fetch ab_c144 25 = some (.imul, 1, 0, 0) := rfl
theorem k144_26 : ab_fetch ab_c144 26 = some (.aload_n 0, 1, 0, 0) := rfl
theorem k144_27 : ab_fetch ab_c144 27 = some (.getfield 278, 3, 6, 35) := rfl
theorem k144_30 : ab_fetch ab_c144 30 = some (.aload_n 0, 1, 0, 0) := rfl
theorem k144_31 : ab_fetch ab_c144 31 = some (.getfield 477, 3, 6, 32) := rfl
theorem k144_34 : ab_fetch ab_c144 34 = some (.iaload, 1, 0, 0) := rfl
theorem k144_35 : ab_fetch ab_c144 35 = some (.iadd, 1, 0, 0) := rfl
theorem k144_36 : ab_fetch ab_c144 36 = some (.iload_n 3, 1, 0, 0) := rfl
theorem k144_37 : ab_fetch ab_c144 37 = some (.iadd, 1, 0, 0) := rfl
theorem k144_38 : ab_fetch ab_c144 38 = some (.iload_n 1, 1, 0, 0) := rfl
theorem k144_39 : ab_fetch ab_c144 39 = some (.bipush 8, 2, 0, 0) := rfl
theorem k144_41 : ab_fetch ab_c144 41 = some (.iload_n 3, 1, 0, 0) := rfl
theorem k144_42 : ab_fetch ab_c144 42 = some (.imul, 1, 0, 0) := rfl
theorem k144_43 : ab_fetch ab_c144 43 = some (.ishr, 1, 0, 0) := rfl
theorem k144_44 : ab_fetch ab_c144 44 = some (.i2b, 1, 0, 0) := rfl
theorem k144_45 : ab_fetch ab_c144 45 = some (.bastore, 1, 0, 0) := rfl
theorem k144_46 : ab_fetch ab_c144 46 = some (.iinc 3 1, 3, 0, 0) := rfl
theorem k144_49 : ab_fetch ab_c144 49 = some (.goto (-47), 3, 2, 0) := rfl
theorem k144_52 : ab_fetch ab_c144 52 = some (.aload_n 0, 1, 0, 0) := rfl
theorem k144_53 : ab_fetch ab_c144 53 = some (.getfield 278, 3, 6, 35) := rfl
theorem k144_56 : ab_fetch ab_c144 56 = some (.aload_n 0, 1, 0, 0) := rfl
theorem k144_57 : ab_fetch ab_c144 57 = some (.getfield 477, 3, 6, 32) := rfl
theorem k144_60 : ab_fetch ab_c144 60 = some (.dup2, 1, 0, 0) := rfl
theorem k144_61 : ab_fetch ab_c144 61 = some (.iaload, 1, 0, 0) := rfl
theorem k144_62 : ab_fetch ab_c144 62 = some (.iload_n 2, 1, 0, 0) := rfl
theorem k144_63 : ab_fetch ab_c144 63 = some (.iadd, 1, 0, 0) := rfl
theorem k144_64 : ab_fetch ab_c144 64 = some (.iastore, 1, 0, 0) := rfl
theorem k144_65 : ab_fetch ab_c144 65 = some (.return_, 1, 0, 0) := rfl
/- CodeSmithModel put(II)V -/
def f144_52 (s : mS) (x2 : Int32) : Option mS := if ib (s.1 32) 2 then if ib (s.1 32) 2 then some (mb s 35 (s.1 32) (((s.2 35) (s.1 32).toNatClampNeg) + x2)) else none else none
theorem t144_52 {d n : Nat} {Z : Nat → ab_C} (hn : 42 ≤ n) : ∀ (s : mS) (l : ab_L) (x2 : Int32) (h0 : ab_get l 0 = some (.ref 22)) (h2 : ab_get l 2 = some (.int x2)) (r : mS) (e : f144_52 s x2 = some r), ab_Rn d 144 52 l [] (ab_hl n (mm_F s Z)) (.inl none) (ab_hl n (mm_F r Z)) := by
  intro s l x2 h0 h2 r e
  unfold f144_52 at e
  refine r_aload_n (pc := 52) p144 k144_52 h0 ?_
  refine m_get hn (pc := 53) p144 k144_53 (v := .ref 34) rfl ?_
  refine r_aload_n (pc := 56) p144 k144_56 h0 ?_
  refine m_get hn (pc := 57) p144 k144_57 (v := .int (s.1 32)) rfl ?_
  refine r_dup2 (pc := 60) p144 k144_60 ⟨rfl, rfl⟩ ?_
  obtain ⟨c, e⟩ := of_if e
  refine r_iald (pc := 61) p144 k144_61 (m_lt hn rfl) (f := (s.2 35)) rfl c ?_
  refine r_iload_n (pc := 62) p144 k144_62 h2 ?_
  refine r_iadd (pc := 63) p144 k144_63 ?_
  obtain ⟨c, e⟩ := of_if e
  refine m_ast hn rfl (pc := 64) p144 k144_64 (k := 35) rfl (mm_arr35 _ Z) c ?_
  cases e
  exact r_retV (pc := 65) p144 k144_65 rfl
def f144_2 : Nat → mS → Int32 → Int32 → Int32 → Option mS
  | 0, _, _, _, _ => none
  | u + 1, s, x1, x2, x3 => (if x2 ≤ x3 then f144_52 s x2 else (if (s.1 19) = 0 then f144_52 s x2 else if ib (s.1 32) 2 then if ib ((((65420 : Int32) * (s.1 32)) + ((s.2 35) (s.1 32).toNatClampNeg)) + x3) 130840 then f144_2 u (mb s 36 ((((65420 : Int32) * (s.1 32)) + ((s.2 35) (s.1 32).toNatClampNeg)) + x3) (x1 >>> (((8 : Int32) * x3) &&& 31)).toInt8.toInt32.toInt8.toInt32) x1 x2 (x3 + (1 : Int32)) else none else none))
theorem t144_2 {d n : Nat} {Z : Nat → ab_C} (hn : 42 ≤ n) : ∀ u : Nat, ∀ (s : mS) (l : ab_L) (x1 : Int32) (x2 : Int32) (x3 : Int32) (h0 : ab_get l 0 = some (.ref 22)) (h1 : ab_get l 1 = some (.int x1)) (h2 : ab_get l 2 = some (.int x2)) (h3 : ab_get l 3 = some (.int x3)) (r : mS) (e : f144_2 u s x1 x2 x3 = some r), ab_Rn d 144 2 l [] (ab_hl n (mm_F s Z)) (.inl none) (ab_hl n (mm_F r Z)) := by
  intro u
  induction u with
  | zero => intro s l x1 x2 x3 h0 h1 h2 h3 r e; rw [f144_2] at e; cases e
  | succ u ih =>
    intro s l x1 x2 x3 h0 h1 h2 h3 r e
    rw [f144_2] at e
    refine r_iload_n (pc := 2) p144 k144_2 h3 ?_
    refine r_iload_n (pc := 3) p144 k144_3 h2 ?_
    refine r_ic_ge (pc := 4) p144 k144_4 (fun c => ?_) (fun c => ?_)
    · have e := (if_pos c).symm.trans e
      exact t144_52 hn s l x2 h0 h2 r e
    · have e := (if_neg c).symm.trans e
      refine r_aload_n (pc := 7) p144 k144_7 h0 ?_
      refine m_get hn (pc := 8) p144 k144_8 (v := .int (s.1 19)) rfl ?_
      refine r_if_eq (pc := 11) p144 k144_11 (fun c => ?_) (fun c => ?_)
      · have e := (if_pos c).symm.trans e
        exact t144_52 hn s l x2 h0 h2 r e
      · have e := (if_neg c).symm.trans e
        refine r_aload_n (pc := 14) p144 k144_14 h0 ?_
        refine m_get hn (pc := 15) p144 k144_15 (v := .ref 35) rfl ?_
        refine r_ldcwI (pc := 18) p144 k144_18 (v := (65420 : Int32)) rfl ?_
        refine r_aload_n (pc := 21) p144 k144_21 h0 ?_
        refine m_get hn (pc := 22) p144 k144_22 (v := .int (s.1 32)) rfl ?_
        refine r_imul (pc := 25) p144 k144_25 ?_
        refine r_aload_n (pc := 26) p144 k144_26 h0 ?_
        refine m_get hn (pc := 27) p144 k144_27 (v := .ref 34) rfl ?_
        refine r_aload_n (pc := 30) p144 k144_30 h0 ?_
        refine m_get hn (pc := 31) p144 k144_31 (v := .int (s.1 32)) rfl ?_
        obtain ⟨c, e⟩ := of_if e
        refine r_iald (pc := 34) p144 k144_34 (m_lt hn rfl) (f := (s.2 35)) rfl c ?_
        refine r_iadd (pc := 35) p144 k144_35 ?_
        refine r_iload_n (pc := 36) p144 k144_36 h3 ?_
        refine r_iadd (pc := 37) p144 k144_37 ?_
        refine r_iload_n (pc := 38) p144 k144_38 h1 ?_
        refine r_bipush (pc := 39) p144 k144_39 (v := (8 : Int32)) rfl ?_
        refine r_iload_n (pc := 41) p144 k144_41 h3 ?_
        refine r_imul (pc := 42) p144 k144_42 ?_
        refine r_ishr (pc := 43) p144 k144_43 ?_
        refine r_i2b (pc := 44) p144 k144_44 ?_
        obtain ⟨c, e⟩ := of_if e
        refine m_bst hn rfl (pc := 45) p144 k144_45 (k := 36) rfl (mm_arr36 _ Z) c ?_
        refine r_iinc (pc := 46) p144 k144_46 h3 (by decide) (v := (x3 + (1 : Int32))) rfl (fun l g h3 => ?_)
        have h0 := g 0 _ (by decide) h0 (Or.inl rfl)
        have h1 := g 1 _ (by decide) h1 (Or.inl rfl)
        have h2 := g 2 _ (by decide) h2 (Or.inl rfl)
        refine r_goto (pc := 49) p144 k144_49 ?_
        exact ih (mb s 36 ((((65420 : Int32) * (s.1 32)) + ((s.2 35) (s.1 32).toNatClampNeg)) + x3) (x1 >>> (((8 : Int32) * x3) &&& 31)).toInt8.toInt32.toInt8.toInt32) l x1 x2 (x3 + (1 : Int32)) h0 h1 h2 h3 r e
def f144 (s : mS) (x1 : Int32) (x2 : Int32) : Option mS := f144_2 mm_U s x1 x2 (0 : Int32)
theorem t144 {d n : Nat} {Z : Nat → ab_C} (hn : 42 ≤ n) (s : mS) (x1 : Int32) (x2 : Int32) (r : mS) (e : f144 s x1 x2 = some r) : ab_Rn d 144 0 (lv_args 0 [.ref 22, .int x1, .int x2]) [] (ab_hl n (mm_F s Z)) (.inl none) (ab_hl n (mm_F r Z)) := by
  unfold f144 at e
  obtain ⟨l, hl⟩ : ∃ l, l = (lv_args 0 [.ref 22, .int x1, .int x2]) := ⟨_, rfl⟩
  rw [← hl]
  have h0 : ab_get l 0 = some (.ref 22) := by rw [hl]; rfl
  have h1 : ab_get l 1 = some (.int x1) := by rw [hl]; rfl
  have h2 : ab_get l 2 = some (.int x2) := by rw [hl]; rfl
  refine r_iconst (pc := 0) p144 k144_0 (v := (0 : Int32)) rfl ?_
  refine r_istore_n (pc := 1) p144 k144_1 (by decide) (fun l g h3 => ?_)
  have h0 := g 0 _ (by decide) h0 (Or.inl rfl)
  have h1 := g 1 _ (by decide) h1 (Or.inl rfl)
  have h2 := g 2 _ (by decide) h2 (Or.inl rfl)
  exact t144_2 hn mm_U s l x1 x2 (0 : Int32) h0 h1 h2 h3 r e

theorem p148 : ab_prog[148]? = some (ab_m148, ab_c148) := rfl
theorem k148_0 : ab_fetch ab_c148 0 = some (.aload_n 0, 1, 0, 0) := rfl
theorem k148_1 : ab_fetch ab_c148 1 = some (.aload_n 0, 1, 0, 0) := rfl
theorem k148_2 : ab_fetch ab_c148 2 = some (.getfield 349, 3, 6, 21) := rfl
theorem k148_5 : ab_fetch ab_c148 5 = some (.aload_n 0, 1, 0, 0) := rfl
theorem k148_6 : ab_fetch ab_c148 6 = some (.getfield 322, 3, 6, 18) := rfl
theorem k148_9 : ab_fetch ab_c148 9 = some (.aload_n 0, 1, 0, 0) := rfl
theorem k148_10 : ab_fetch ab_c148 10 = some (.getfield 349, 3, 6, 21) := rfl
theorem k148_13 : ab_fetch ab_c148 13 = some (.isub, 1, 0, 0) := rfl
theorem k148_14 : ab_fetch ab_c148 14 = some (.invokevirtual 412, 3, 133, 2) := rfl
theorem k148_17 : ab_fetch ab_c148 17 = some (.istore_n 2, 1, 0, 0) := rfl
theorem k148_18 : ab_fetch ab_c148 18 = some (.iload_n 1, 1, 0, 0) := rfl
theorem k148_19 : ab_fetch ab_c148 19 = some (.iconst 1, 1, 0, 0) := rfl
theorem k148_20 : ab_fetch ab_c148 20 = some (.if_icmp .eq 10, 3, 30, 0) := rfl
theorem k148_23 : ab_fetch ab_c148 23 = some (.aload_n 0, 1, 0, 0) := rfl
theorem k148_24 : ab_fetch ab_c148 24 = some (.getfield 307, 3, 6, 11) := rfl
theorem k148_27 : ab_fetch ab_c148 27 = some (.ifCond .le 5, 3, 32, 0) := rfl
theorem k148_30 : ab_fetch ab_c148 30 = some (.iconst 0, 1, 0, 0) := rfl
theorem k148_31 : ab_fetch ab_c148 31 = some (.ireturn, 1, 0, 0) := rfl
theorem k148_32 : ab_fetch ab_c148 32 = some (.iload_n 1, 1, 0, 0) := rfl
theorem k148_33 : ab_fetch ab_c148 33 = some (.iconst 2, 1, 0, 0) := rfl
theorem k148_34 : ab_fetch ab_c148 34 = some (.if_icmp .ne 15, 3, 49, 0) := rfl
theorem k148_37 : ab_fetch ab_c148 37 = some (.iload_n 2, 1, 0, 0) := rfl
theorem k148_38 : ab_fetch ab_c148 38 = some (.ifCond .lt 7, 3, 45, 0) := rfl
theorem k148_41 : ab_fetch ab_c148 41 = some (.iconst 1, 1, 0, 0) := rfl
theorem k148_42 : ab_fetch ab_c148 42 = some (.goto 39, 3, 81, 0) := rfl
theorem k148_45 : ab_fetch ab_c148 45 = some (.iconst 0, 1, 0, 0) := rfl
theorem k148_46 : ab_fetch ab_c148 46 = some (.goto 35, 3, 81, 0) := rfl
theorem k148_49 : ab_fetch ab_c148 49 = some (.iload_n 2, 1, 0, 0) := rfl
theorem k148_50 : ab_fetch ab_c148 50 = some (.ifCond .lt 30, 3, 80, 0) := rfl
theorem k148_53 : ab_fetch ab_c148 53 = some (.aload_n 0, 1, 0, 0) := rfl
theorem k148_54 : ab_fetch ab_c148 54 = some (.getfield 269, 3, 6, 29) := rfl
theorem k148_57 : ab_fetch ab_c148 57 = some (.iload_n 2, 1, 0, 0) := rfl
theorem k148_58 : ab_fetch ab_c148 58 = some (.iaload, 1, 0, 0) := rfl
theorem k148_59 : ab_fetch ab_c148 59 = some (.iconst 1, 1, 0, 0) := rfl
theorem k148_60 : ab_fetch ab_c148 60 = some (.if_icmp .ne 20, 3, 80, 0) := rfl
theorem k148_63 : ab_fetch ab_c148 63 = some (.aload_n 0, 1, 0, 0) := rfl
theorem k148_64 : ab_fetch ab_c148 64 = some (.getfield 275, 3, 6, 31) := rfl
theorem k148_67 : ab_fetch ab_c148 67 = some (.iload_n 2, 1, 0, 0) := rfl
theorem k148_68 : ab_fetch ab_c148 68 = some (.iaload, 1, 0, 0) := rfl
theorem k148_69 : ab_fetch ab_c148 69 = some (.aload_n 0, 1, 0, 0) := rfl
theorem k148_70 : ab_fetch ab_c148 70 = some (.getfield 316, 3, 6, 15) := rfl
theorem k148_73 : ab_fetch ab_c148 73 = some (.if_icmp .ge 7, 3, 80, 0) := rfl
theorem k148_76 : ab_fetch ab_c148 76 = some (.iconst 1, 1, 0, 0) := rfl
theorem k148_77 : ab_fetch ab_c148 77 = some (.goto 4, 3, 81, 0) := rfl
theorem k148_80 : ab_fetch ab_c148 80 = some (.iconst 0, 1, 0, 0) := rfl
theorem k148_81 : ab_fetch ab_c148 81 = some (.istore_n 3, 1, 0, 0) := rfl
theorem k148_82 : ab_fetch ab_c148 82 = some (.aload_n 0, 1, 0, 0) := rfl
theorem k148_83 : ab_fetch ab_c148 83 = some (.aload_n 0, 1, 0, 0) := rfl
theorem k148_84 : ab_fetch ab_c148 84 = some (.getfield 415, 3, 6, 38) := rfl
theorem k148_87 : ab_fetch ab_c148 87 = some (.ifCond .ne 7, 3, 94, 0) := rfl
theorem k148_90 : ab_fetch ab_c148 90 = some (.iload_n 3, 1, 0, 0) := rfl
theorem k148_91 : ab_fetch ab_c148 91 = some (.ifCond .ne 7, 3, 98, 0) := rfl
theorem k148_94 : ab_fetch ab_c148 94 = some (.iconst 1, 1, 0, 0) := rfl
theorem k148_95 : ab_fetch ab_c148 95 = some (.goto 4, 3, 99, 0) := rfl
theorem k148_98 : ab_fetch ab_c148 98 = some (.iconst 0, 1, 0, 0) := rfl
theorem k148_99 : ab_fetch ab_c148 99 = some (.putfield 415, 3, 6, 38) := rfl
theorem k148_102 : ab_fetch ab_c148 102 = some (.iload_n 3, 1, 0, 0) := rfl
theorem k148_103 : ab_fetch ab_c148 103 = some (.ifCond .ne 26, 3, 129, 0) := rfl
theorem k148_106 : ab_fetch ab_c148 106 = some (.iload_n 1, 1, 0, 0) := rfl
theorem k148_107 : ab_fetch ab_c148 107 = some (.iconst 3, 1, 0, 0) := rfl
theorem k148_108 : ab_fetch ab_c148 108 = some (.if_icmp .eq 21, 3, 129, 0) := rfl
theorem k148_111 : ab_fetch ab_c148 111 = some (.aload_n 0, 1, 0, 0) := rfl
theorem k148_112 : ab_fetch ab_c148 112 = some (.iload_n 1, 1, 0, 0) := rfl
theorem k148_113 : ab_fetch ab_c148 113 = some (.ifCond .ne 7, 3, 120, 0) := rfl
theorem k148_116 : ab_fetch ab_c148 116 = some (.iconst 4, 1, 0, 0) := rfl
theorem k148_117 : ab_fetch ab_c148 117 = some (.goto 5, 3, 122, 0) := rfl
theorem k148_120 : ab_fetch ab_c148 120 = some (.bipush 8, 2, 0, 0) := rfl
theorem k148_122 : ab_fetch ab_c148 122 = some (.aload_n 0, 1, 0, 0) := rfl
theorem k148_123 : ab_fetch ab_c148 123 = some (.getfield 349, 3, 6, 21) := rfl
theorem k148_126 : ab_fetch ab_c148 126 = some (.invokevirtual 342, 3, 131, 2) := rfl
theorem k148_129 : ab_fetch ab_c148 129 = some (.iload_n 3, 1, 0, 0) := rfl
theorem k148_130 : ab_fetch ab_c148 130 = some (.ifCond .eq 31, 3, 161, 0) := rfl
theorem k148_133 : ab_fetch ab_c148 133 = some (.aload_n 0, 1, 0, 0) := rfl
theorem k148_134 : ab_fetch ab_c148 134 = some (.getfield 272, 3, 6, 30) := rfl
theorem k148_137 : ab_fetch ab_c148 137 = some (.iload_n 2, 1, 0, 0) := rfl
theorem k148_138 : ab_fetch ab_c148 138 = some (.iaload, 1, 0, 0) := rfl
theorem k148_139 : ab_fetch ab_c148 139 = some (.aload_n 0, 1, 0, 0) := rfl
theorem k148_140 : ab_fetch ab_c148 140 = some (.getfield 269, 3, 6, 29) := rfl
theorem k148_143 : ab_fetch ab_c148 143 = some (.iload_n 2, 1, 0, 0) := rfl
theorem k148_144 : ab_fetch ab_c148 144 = some (.iaload, 1, 0, 0) := rfl
theorem k148_145 : ab_fetch ab_c148 145 = some (.iconst 3, 1, 0, 0) := rfl
theorem k148_146 : ab_fetch ab_c148 146 = some (.if_icmp .ne 10, 3, 156, 0) := rfl
theorem k148_149 : ab_fetch ab_c148 149 = some (.aload_n 0, 1, 0, 0) := rfl
theorem k148_150 : ab_fetch ab_c148 150 = some (.getfield 418, 3, 6, 34) := rfl
theorem k148_153 : ab_fetch ab_c148 153 = some (.goto 4, 3, 157, 0) := rfl
theorem k148_156 : ab_fetch ab_c148 156 = some (.iconst 0, 1, 0, 0) := rfl
theorem k148_157 : ab_fetch ab_c148 157 = some (.iadd, 1, 0, 0) := rfl
theorem k148_158 : ab_fetch ab_c148 158 = some (.goto 4, 3, 162, 0) := rfl
theorem k148_161 : ab_fetch ab_c148 161 = some (.iconst 0, 1, 0, 0) := rfl
theorem k148_162 : ab_fetch ab_c148 162 = some (.ireturn, 1, 0, 0) := rfl
/- CodeSmithModel nameValue(I)I -/
def f148_157 (s : mS) (y0 : Int32) (y1 : Int32) : Option (Int32 × mS) := some ((y1 + y0), s)
theorem t148_157 {d n : Nat} {Z : Nat → ab_C} (hn : 42 ≤ n) : ∀ (s : mS) (l : ab_L) (y0 : Int32) (y1 : Int32)  (r : Int32 × mS) (e : f148_157 s y0 y1 = some r), ab_Rn (d + 1) 148 157 l [.int y0, .int y1] (ab_hl n (mm_F s Z)) (.inl (some (.int r.1))) (ab_hl n (mm_F r.2 Z)) := by
  intro s l y0 y1 r e
  unfold f148_157 at e
  refine r_iadd (pc := 157) p148 k148_157 ?_
  refine r_goto (pc := 158) p148 k148_158 ?_
  cases e
  exact r_retI (pc := 162) p148 k148_162 rfl
def f148_129 (s : mS) (x2 : Int32) (x3 : Int32) : Option (Int32 × mS) := (if x3 = 0 then some ((0 : Int32), s) else if ib x2 17500 then if ib x2 17500 then (if ((s.2 29) x2.toNatClampNeg) = (3 : Int32) then f148_157 s (s.1 34) ((s.2 30) x2.toNatClampNeg) else f148_157 s (0 : Int32) ((s.2 30) x2.toNatClampNeg)) else none else none)
theorem t148_129 {d n : Nat} {Z : Nat → ab_C} (hn : 42 ≤ n) : ∀ (s : mS) (l : ab_L) (x2 : Int32) (x3 : Int32) (h0 : ab_get l 0 = some (.ref 22)) (h2 : ab_get l 2 = some (.int x2)) (h3 : ab_get l 3 = some (.int x3)) (r : Int32 × mS) (e : f148_129 s x2 x3 = some r), ab_Rn (d + 1) 148 129 l [] (ab_hl n (mm_F s Z)) (.inl (some (.int r.1))) (ab_hl n (mm_F r.2 Z)) := by
  intro s l x2 x3 h0 h2 h3 r e
  unfold f148_129 at e
  refine r_iload_n (pc := 129) p148 k148_129 h3 ?_
  refine r_if_eq (pc := 130) p148 k148_130 (fun c => ?_) (fun c => ?_)
  · have e := (if_pos c).symm.trans e
    refine r_iconst (pc := 161) p148 k148_161 (v := (0 : Int32)) rfl ?_
    cases e
    exact r_retI (pc := 162) p148 k148_162 rfl
  · have e := (if_neg c).symm.trans e
    refine r_aload_n (pc := 133) p148 k148_133 h0 ?_
    refine m_get hn (pc := 134) p148 k148_134 (v := .ref 32) rfl ?_
    refine r_iload_n (pc := 137) p148 k148_137 h2 ?_
    obtain ⟨c, e⟩ := of_if e
    refine r_iald (pc := 138) p148 k148_138 (m_lt hn rfl) (f := (s.2 30)) rfl c ?_
    refine r_aload_n (pc := 139) p148 k148_139 h0 ?_
    refine m_get hn (pc := 140) p148 k148_140 (v := .ref 31) rfl ?_
    refine r_iload_n (pc := 143) p148 k148_143 h2 ?_
    obtain ⟨c, e⟩ := of_if e
    refine r_iald (pc := 144) p148 k148_144 (m_lt hn rfl) (f := (s.2 29)) rfl c ?_
    refine r_iconst (pc := 145) p148 k148_145 (v := (3 : Int32)) rfl ?_
    refine r_ic_ne (pc := 146) p148 k148_146 (fun c => ?_) (fun c => ?_)
    · have e := (if_neg c).symm.trans e
      refine r_iconst (pc := 156) p148 k148_156 (v := (0 : Int32)) rfl ?_
      exact t148_157 hn s l (0 : Int32) ((s.2 30) x2.toNatClampNeg) r e
    · have e := (if_pos c).symm.trans e
      refine r_aload_n (pc := 149) p148 k148_149 h0 ?_
      refine m_get hn (pc := 150) p148 k148_150 (v := .int (s.1 34)) rfl ?_
      refine r_goto (pc := 153) p148 k148_153 ?_
      exact t148_157 hn s l (s.1 34) ((s.2 30) x2.toNatClampNeg) r e
def f148_122 (s : mS) (x2 : Int32) (x3 : Int32) (y0 : Int32) : Option (Int32 × mS) := ((f131 s y0 (s.1 21)).bind fun r1 => f148_129 r1 x2 x3)
theorem t148_122 {d n : Nat} {Z : Nat → ab_C} (hn : 42 ≤ n) : ∀ (s : mS) (l : ab_L) (x2 : Int32) (x3 : Int32) (y0 : Int32) (h0 : ab_get l 0 = some (.ref 22)) (h2 : ab_get l 2 = some (.int x2)) (h3 : ab_get l 3 = some (.int x3)) (r : Int32 × mS) (e : f148_122 s x2 x3 y0 = some r), ab_Rn (d + 1) 148 122 l [.int y0, .ref 22] (ab_hl n (mm_F s Z)) (.inl (some (.int r.1))) (ab_hl n (mm_F r.2 Z)) := by
  intro s l x2 x3 y0 h0 h2 h3 r e
  unfold f148_122 at e
  refine r_aload_n (pc := 122) p148 k148_122 h0 ?_
  refine m_get hn (pc := 123) p148 k148_123 (v := .int (s.1 21)) rfl ?_
  obtain ⟨r1, er1, e⟩ := of_bind e
  refine m_cv hn (pc := 126) p148 k148_126 rfl p131 (r := []) rfl rfl rfl rfl rfl (t131 hn s y0 (s.1 21) r1 er1) (w := []) rfl ?_
  exact t148_129 hn r1 l x2 x3 h0 h2 h3 r e
def f148_99 (s : mS) (x1 : Int32) (x2 : Int32) (x3 : Int32) (y0 : Int32) : Option (Int32 × mS) := if bz y0 then (if x3 = 0 then (if x1 = (3 : Int32) then f148_129 (mg s 38 y0) x2 x3 else (if x1 = 0 then f148_122 (mg s 38 y0) x2 x3 (4 : Int32) else f148_122 (mg s 38 y0) x2 x3 (8 : Int32))) else f148_129 (mg s 38 y0) x2 x3) else none
theorem t148_99 {d n : Nat} {Z : Nat → ab_C} (hn : 42 ≤ n) : ∀ (s : mS) (l : ab_L) (x1 : Int32) (x2 : Int32) (x3 : Int32) (y0 : Int32) (h0 : ab_get l 0 = some (.ref 22)) (h1 : ab_get l 1 = some (.int x1)) (h2 : ab_get l 2 = some (.int x2)) (h3 : ab_get l 3 = some (.int x3)) (r : Int32 × mS) (e : f148_99 s x1 x2 x3 y0 = some r), ab_Rn (d + 1) 148 99 l [.int y0, .ref 22] (ab_hl n (mm_F s Z)) (.inl (some (.int r.1))) (ab_hl n (mm_F r.2 Z)) := by
  intro s l x1 x2 x3 y0 h0 h1 h2 h3 r e
  unfold f148_99 at e
  obtain ⟨c, e⟩ := of_if e
  refine m_put hn (pc := 99) p148 k148_99 rfl rfl (bz_fit c) rfl ?_
  refine r_iload_n (pc := 102) p148 k148_102 h3 ?_
  refine r_if_ne (pc := 103) p148 k148_103 (fun c => ?_) (fun c => ?_)
  · have e := (if_neg c).symm.trans e
    exact t148_129 hn (mg s 38 y0) l x2 x3 h0 h2 h3 r e
  · have e := (if_pos c).symm.trans e
    refine r_iload_n (pc := 106) p148 k148_106 h1 ?_
    refine r_iconst (pc := 107) p148 k148_107 (v := (3 : Int32)) rfl ?_
    refine r_ic_eq (pc := 108) p148 k148_108 (fun c => ?_) (fun c => ?_)
    · have e := (if_pos c).symm.trans e
      exact t148_129 hn (mg s 38 y0) l x2 x3 h0 h2 h3 r e
    · have e := (if_neg c).symm.trans e
      refine r_aload_n (pc := 111) p148 k148_111 h0 ?_
      refine r_iload_n (pc := 112) p148 k148_112 h1 ?_
      refine r_if_ne (pc := 113) p148 k148_113 (fun c => ?_) (fun c => ?_)
      · have e := (if_neg c).symm.trans e
        refine r_bipush (pc := 120) p148 k148_120 (v := (8 : Int32)) rfl ?_
        exact t148_122 hn (mg s 38 y0) l x2 x3 (8 : Int32) h0 h2 h3 r e
      · have e := (if_pos c).symm.trans e
        refine r_iconst (pc := 116) p148 k148_116 (v := (4 : Int32)) rfl ?_
        refine r_goto (pc := 117) p148 k148_117 ?_
        exact t148_122 hn (mg s 38 y0) l x2 x3 (4 : Int32) h0 h2 h3 r e
def f148_94 (s : mS) (x1 : Int32) (x2 : Int32) (x3 : Int32) : Option (Int32 × mS) := f148_99 s x1 x2 x3 (1 : Int32)
theorem t148_94 {d n : Nat} {Z : Nat → ab_C} (hn : 42 ≤ n) : ∀ (s : mS) (l : ab_L) (x1 : Int32) (x2 : Int32) (x3 : Int32) (h0 : ab_get l 0 = some (.ref 22)) (h1 : ab_get l 1 = some (.int x1)) (h2 : ab_get l 2 = some (.int x2)) (h3 : ab_get l 3 = some (.int x3)) (r : Int32 × mS) (e : f148_94 s x1 x2 x3 = some r), ab_Rn (d + 1) 148 94 l [.ref 22] (ab_hl n (mm_F s Z)) (.inl (some (.int r.1))) (ab_hl n (mm_F r.2 Z)) := by
  intro s l x1 x2 x3 h0 h1 h2 h3 r e
  unfold f148_94 at e
  refine r_iconst (pc := 94) p148 k148_94 (v := (1 : Int32)) rfl ?_
  refine r_goto (pc := 95) p148 k148_95 ?_
  exact t148_99 hn s l x1 x2 x3 (1 : Int32) h0 h1 h2 h3 r e
def f148_81 (s : mS) (x1 : Int32) (x2 : Int32) (y0 : Int32) : Option (Int32 × mS) := (if (s.1 38) = 0 then (if y0 = 0 then f148_94 s x1 x2 y0 else f148_99 s x1 x2 y0 (0 : Int32)) else f148_94 s x1 x2 y0)
theorem t148_81 {d n : Nat} {Z : Nat → ab_C} (hn : 42 ≤ n) : ∀ (s : mS) (l : ab_L) (x1 : Int32) (x2 : Int32) (y0 : Int32) (h0 : ab_get l 0 = some (.ref 22)) (h1 : ab_get l 1 = some (.int x1)) (h2 : ab_get l 2 = some (.int x2)) (r : Int32 × mS) (e : f148_81 s x1 x2 y0 = some r), ab_Rn (d + 1) 148 81 l [.int y0] (ab_hl n (mm_F s Z)) (.inl (some (.int r.1))) (ab_hl n (mm_F r.2 Z)) := by
  intro s l x1 x2 y0 h0 h1 h2 r e
  unfold f148_81 at e
  refine r_istore_n (pc := 81) p148 k148_81 (by decide) (fun l g h3 => ?_)
  have h0 := g 0 _ (by decide) h0 (Or.inl rfl)
  have h1 := g 1 _ (by decide) h1 (Or.inl rfl)
  have h2 := g 2 _ (by decide) h2 (Or.inl rfl)
  refine r_aload_n (pc := 82) p148 k148_82 h0 ?_
  refine r_aload_n (pc := 83) p148 k148_83 h0 ?_
  refine m_get hn (pc := 84) p148 k148_84 (v := .int (s.1 38)) rfl ?_
  refine r_if_ne (pc := 87) p148 k148_87 (fun c => ?_) (fun c => ?_)
  · have e := (if_neg c).symm.trans e
    exact t148_94 hn s l x1 x2 y0 h0 h1 h2 h3 r e
  · have e := (if_pos c).symm.trans e
    refine r_iload_n (pc := 90) p148 k148_90 h3 ?_
    refine r_if_ne (pc := 91) p148 k148_91 (fun c => ?_) (fun c => ?_)
    · have e := (if_neg c).symm.trans e
      refine r_iconst (pc := 98) p148 k148_98 (v := (0 : Int32)) rfl ?_
      exact t148_99 hn s l x1 x2 y0 (0 : Int32) h0 h1 h2 h3 r e
    · have e := (if_pos c).symm.trans e
      exact t148_94 hn s l x1 x2 y0 h0 h1 h2 h3 r e
def f148_80 (s : mS) (x1 : Int32) (x2 : Int32) : Option (Int32 × mS) := f148_81 s x1 x2 (0 : Int32)
theorem t148_80 {d n : Nat} {Z : Nat → ab_C} (hn : 42 ≤ n) : ∀ (s : mS) (l : ab_L) (x1 : Int32) (x2 : Int32) (h0 : ab_get l 0 = some (.ref 22)) (h1 : ab_get l 1 = some (.int x1)) (h2 : ab_get l 2 = some (.int x2)) (r : Int32 × mS) (e : f148_80 s x1 x2 = some r), ab_Rn (d + 1) 148 80 l [] (ab_hl n (mm_F s Z)) (.inl (some (.int r.1))) (ab_hl n (mm_F r.2 Z)) := by
  intro s l x1 x2 h0 h1 h2 r e
  unfold f148_80 at e
  refine r_iconst (pc := 80) p148 k148_80 (v := (0 : Int32)) rfl ?_
  exact t148_81 hn s l x1 x2 (0 : Int32) h0 h1 h2 r e
def f148 (s : mS) (x1 : Int32) : Option (Int32 × mS) := ((f133 s (s.1 21) ((s.1 18) - (s.1 21))).bind fun r1 => (if x1 = (1 : Int32) then some ((0 : Int32), s) else (if (s.1 11) ≤ 0 then (if x1 = (2 : Int32) then (if r1 < 0 then f148_81 s x1 r1 (0 : Int32) else f148_81 s x1 r1 (1 : Int32)) else (if r1 < 0 then f148_80 s x1 r1 else if ib r1 17500 then (if ((s.2 29) r1.toNatClampNeg) = (1 : Int32) then if ib r1 17500 then (if (s.1 15) ≤ ((s.2 31) r1.toNatClampNeg) then f148_80 s x1 r1 else f148_81 s x1 r1 (1 : Int32)) else none else f148_80 s x1 r1) else none)) else some ((0 : Int32), s))))
theorem t148 {d n : Nat} {Z : Nat → ab_C} (hn : 42 ≤ n) (s : mS) (x1 : Int32) (r : Int32 × mS) (e : f148 s x1 = some r) : ab_Rn (d + 1) 148 0 (lv_args 0 [.ref 22, .int x1]) [] (ab_hl n (mm_F s Z)) (.inl (some (.int r.1))) (ab_hl n (mm_F r.2 Z)) := by
  unfold f148 at e
  obtain ⟨l, hl⟩ : ∃ l, l = (lv_args 0 [.ref 22, .int x1]) := ⟨_, rfl⟩
  rw [← hl]
  have h0 : ab_get l 0 = some (.ref 22) := by rw [hl]; rfl
  have h1 : ab_get l 1 = some (.int x1) := by rw [hl]; rfl
  refine r_aload_n (pc := 0) p148 k148_0 h0 ?_
  refine r_aload_n (pc := 1) p148 k148_1 h0 ?_
  refine m_get hn (pc := 2) p148 k148_2 (v := .int (s.1 21)) rfl ?_
  refine r_aload_n (pc := 5) p148 k148_5 h0 ?_
  refine m_get hn (pc := 6) p148 k148_6 (v := .int (s.1 18)) rfl ?_
  refine r_aload_n (pc := 9) p148 k148_9 h0 ?_
  refine m_get hn (pc := 10) p148 k148_10 (v := .int (s.1 21)) rfl ?_
  refine r_isub (pc := 13) p148 k148_13 ?_
  obtain ⟨r1, er1, e⟩ := of_bind e
  refine m_cv hn (pc := 14) p148 k148_14 rfl p133 (r := []) rfl rfl rfl rfl rfl (t133 hn s (s.1 21) ((s.1 18) - (s.1 21)) r1 er1) (w := [.int r1]) rfl ?_
  refine r_istore_n (pc := 17) p148 k148_17 (by decide) (fun l g h2 => ?_)
  have h0 := g 0 _ (by decide) h0 (Or.inl rfl)
  have h1 := g 1 _ (by decide) h1 (Or.inl rfl)
  refine r_iload_n (pc := 18) p148 k148_18 h1 ?_
  refine r_iconst (pc := 19) p148 k148_19 (v := (1 : Int32)) rfl ?_
  refine r_ic_eq (pc := 20) p148 k148_20 (fun c => ?_) (fun c => ?_)
  · have e := (if_pos c).symm.trans e
    refine r_iconst (pc := 30) p148 k148_30 (v := (0 : Int32)) rfl ?_
    cases e
    exact r_retI (pc := 31) p148 k148_31 rfl
  · have e := (if_neg c).symm.trans e
    refine r_aload_n (pc := 23) p148 k148_23 h0 ?_
    refine m_get hn (pc := 24) p148 k148_24 (v := .int (s.1 11)) rfl ?_
    refine r_if_le (pc := 27) p148 k148_27 (fun c => ?_) (fun c => ?_)
    · have e := (if_pos c).symm.trans e
      refine r_iload_n (pc := 32) p148 k148_32 h1 ?_
      refine r_iconst (pc := 33) p148 k148_33 (v := (2 : Int32)) rfl ?_
      refine r_ic_ne (pc := 34) p148 k148_34 (fun c => ?_) (fun c => ?_)
      · have e := (if_neg c).symm.trans e
        refine r_iload_n (pc := 49) p148 k148_49 h2 ?_
        refine r_if_lt (pc := 50) p148 k148_50 (fun c => ?_) (fun c => ?_)
        · have e := (if_pos c).symm.trans e
          exact t148_80 hn s l x1 r1 h0 h1 h2 r e
        · have e := (if_neg c).symm.trans e
          refine r_aload_n (pc := 53) p148 k148_53 h0 ?_
          refine m_get hn (pc := 54) p148 k148_54 (v := .ref 31) rfl ?_
          refine r_iload_n (pc := 57) p148 k148_57 h2 ?_
          obtain ⟨c, e⟩ := of_if e
          refine r_iald (pc := 58) p148 k148_58 (m_lt hn rfl) (f := (s.2 29)) rfl c ?_
          refine r_iconst (pc := 59) p148 k148_59 (v := (1 : Int32)) rfl ?_
          refine r_ic_ne (pc := 60) p148 k148_60 (fun c => ?_) (fun c => ?_)
          · have e := (if_neg c).symm.trans e
            exact t148_80 hn s l x1 r1 h0 h1 h2 r e
          · have e := (if_pos c).symm.trans e
            refine r_aload_n (pc := 63) p148 k148_63 h0 ?_
            refine m_get hn (pc := 64) p148 k148_64 (v := .ref 33) rfl ?_
            refine r_iload_n (pc := 67) p148 k148_67 h2 ?_
            obtain ⟨c, e⟩ := of_if e
            refine r_iald (pc := 68) p148 k148_68 (m_lt hn rfl) (f := (s.2 31)) rfl c ?_
            refine r_aload_n (pc := 69) p148 k148_69 h0 ?_
            refine m_get hn (pc := 70) p148 k148_70 (v := .int (s.1 15)) rfl ?_
            refine r_ic_ge (pc := 73) p148 k148_73 (fun c => ?_) (fun c => ?_)
            · have e := (if_pos c).symm.trans e
              exact t148_80 hn s l x1 r1 h0 h1 h2 r e
            · have e := (if_neg c).symm.trans e
              refine r_iconst (pc := 76) p148 k148_76 (v := (1 : Int32)) rfl ?_
              refine r_goto (pc := 77) p148 k148_77 ?_
              exact t148_81 hn s l x1 r1 (1 : Int32) h0 h1 h2 r e
      · have e := (if_pos c).symm.trans e
        refine r_iload_n (pc := 37) p148 k148_37 h2 ?_
        refine r_if_lt (pc := 38) p148 k148_38 (fun c => ?_) (fun c => ?_)
        · have e := (if_pos c).symm.trans e
          refine r_iconst (pc := 45) p148 k148_45 (v := (0 : Int32)) rfl ?_
          refine r_goto (pc := 46) p148 k148_46 ?_
          exact t148_81 hn s l x1 r1 (0 : Int32) h0 h1 h2 r e
        · have e := (if_neg c).symm.trans e
          refine r_iconst (pc := 41) p148 k148_41 (v := (1 : Int32)) rfl ?_
          refine r_goto (pc := 42) p148 k148_42 ?_
          exact t148_81 hn s l x1 r1 (1 : Int32) h0 h1 h2 r e
    · have e := (if_neg c).symm.trans e
      refine r_iconst (pc := 30) p148 k148_30 (v := (0 : Int32)) rfl ?_
      cases e
      exact r_retI (pc := 31) p148 k148_31 rfl

theorem p150 : ab_prog[150]? = some (ab_m150, ab_c150) := rfl
theorem k150_0 : ab_fetch ab_c150 0 = some (.iload_n 0, 1, 0, 0) := rfl
theorem k150_1 : ab_fetch ab_c150 1 = some (.bipush 42, 2, 0, 0) := rfl
theorem k150_3 : ab_fetch ab_c150 3 = some (.if_icmp .eq 15, 3, 18, 0) := rfl
theorem k150_6 : ab_fetch ab_c150 6 = some (.iload_n 0, 1, 0, 0) := rfl
theorem k150_7 : ab_fetch ab_c150 7 = some (.bipush 47, 2, 0, 0) := rfl
theorem k150_9 : ab_fetch ab_c150 9 = some (.if_icmp .eq 9, 3, 18, 0) := rfl
theorem k150_12 : ab_fetch ab_c150 12 = some (.iload_n 0, 1, 0, 0) := rfl
theorem k150_13 : ab_fetch ab_c150 13 = some (.bipush 37, 2, 0, 0) := rfl
theorem k150_15 : ab_fetch ab_c150 15 = some (.if_icmp .ne 8, 3, 23, 0) := rfl
theorem k150_18 : ab_fetch ab_c150 18 = some (.bipush 6, 2, 0, 0) := rfl
theorem k150_20 : ab_fetch ab_c150 20 = some (.goto 66, 3, 86, 0) := rfl
theorem k150_23 : ab_fetch ab_c150 23 = some (.iload_n 0, 1, 0, 0) := rfl
theorem k150_24 : ab_fetch ab_c150 24 = some (.bipush 43, 2, 0, 0) := rfl
theorem k150_26 : ab_fetch ab_c150 26 = some (.if_icmp .eq 9, 3, 35, 0) := rfl
theorem k150_29 : ab_fetch ab_c150 29 = some (.iload_n 0, 1, 0, 0) := rfl
theorem k150_30 : ab_fetch ab_c150 30 = some (.bipush 45, 2, 0, 0) := rfl
theorem k150_32 : ab_fetch ab_c150 32 = some (.if_icmp .ne 7, 3, 39, 0) := rfl
theorem k150_35 : ab_fetch ab_c150 35 = some (.iconst 5, 1, 0, 0) := rfl
theorem k150_36 : ab_fetch ab_c150 36 = some (.goto 50, 3, 86, 0) := rfl
theorem k150_39 : ab_fetch ab_c150 39 = some (.iload_n 0, 1, 0, 0) := rfl
theorem k150_40 : ab_fetch ab_c150 40 = some (.bipush 60, 2, 0, 0) := rfl
theorem k150_42 : ab_fetch ab_c150 42 = some (.if_icmp .eq 9, 3, 51, 0) := rfl
theorem k150_45 : ab_fetch ab_c150 45 = some (.iload_n 0, 1, 0, 0) := rfl
theorem k150_46 : ab_fetch ab_c150 46 = some (.bipush 62, 2, 0, 0) := rfl
theorem k150_48 : ab_fetch ab_c150 48 = some (.if_icmp .ne 7, 3, 55, 0) := rfl
theorem k150_51 : ab_fetch ab_c150 51 = some (.iconst 4, 1, 0, 0) := rfl
theorem k150_52 : ab_fetch ab_c150 52 = some (.goto 34, 3, 86, 0) := rfl
theorem k150_55 : ab_fetch ab_c150 55 = some (.iload_n 0, 1, 0, 0) := rfl
theorem k150_56 : ab_fetch ab_c150 56 = some (.bipush 38, 2, 0, 0) := rfl
theorem k150_58 : ab_fetch ab_c150 58 = some (.if_icmp .ne 7, 3, 65, 0) := rfl
theorem k150_61 : ab_fetch ab_c150 61 = some (.iconst 3, 1, 0, 0) := rfl
theorem k150_62 : ab_fetch ab_c150 62 = some (.goto 24, 3, 86, 0) := rfl
theorem k150_65 : ab_fetch ab_c150 65 = some (.iload_n 0, 1, 0, 0) := rfl
theorem k150_66 : ab_fetch ab_c150 66 = some (.bipush 94, 2, 0, 0) := rfl
theorem k150_68 : ab_fetch ab_c150 68 = some (.if_icmp .ne 7, 3, 75, 0) := rfl
theorem k150_71 : ab_fetch ab_c150 71 = some (.iconst 2, 1, 0, 0) := rfl
theorem k150_72 : ab_fetch ab_c150 72 = some (.goto 14, 3, 86, 0) := rfl
theorem k150_75 : ab_fetch ab_c150 75 = some (.iload_n 0, 1, 0, 0) := rfl
theorem k150_76 : ab_fetch ab_c150 76 = some (.bipush 124, 2, 0, 0) := rfl
theorem k150_78 : ab_fetch ab_c150 78 = some (.if_icmp .ne 7, 3, 85, 0) := rfl
theorem k150_81 : ab_fetch ab_c150 81 = some (.iconst 1, 1, 0, 0) := rfl
theorem k150_82 : ab_fetch ab_c150 82 = some (.goto 4, 3, 86, 0) := rfl
theorem k150_85 : ab_fetch ab_c150 85 = some (.iconst 0, 1, 0, 0) := rfl
theorem k150_86 : ab_fetch ab_c150 86 = some (.ireturn, 1, 0, 0) := rfl
/- CodeSmithModel level(I)I -/
def f150_18 : Int32 := (6 : Int32)
theorem t150_18 {d : Nat} {h : ab_H} : ∀ (l : ab_L)   (r : Int32) (e : f150_18  = r), ab_Rn d 150 18 l [] h (.inl (some (.int r))) h := by
  intro l r e
  unfold f150_18 at e
  refine r_bipush (pc := 18) p150 k150_18 (v := (6 : Int32)) rfl ?_
  refine r_goto (pc := 20) p150 k150_20 ?_
  subst e
  exact r_retI (pc := 86) p150 k150_86 rfl
def f150_35 : Int32 := (5 : Int32)
theorem t150_35 {d : Nat} {h : ab_H} : ∀ (l : ab_L)   (r : Int32) (e : f150_35  = r), ab_Rn d 150 35 l [] h (.inl (some (.int r))) h := by
  intro l r e
  unfold f150_35 at e
  refine r_iconst (pc := 35) p150 k150_35 (v := (5 : Int32)) rfl ?_
  refine r_goto (pc := 36) p150 k150_36 ?_
  subst e
  exact r_retI (pc := 86) p150 k150_86 rfl
def f150_51 : Int32 := (4 : Int32)
theorem t150_51 {d : Nat} {h : ab_H} : ∀ (l : ab_L)   (r : Int32) (e : f150_51  = r), ab_Rn d 150 51 l [] h (.inl (some (.int r))) h := by
  intro l r e
  unfold f150_51 at e
  refine r_iconst (pc := 51) p150 k150_51 (v := (4 : Int32)) rfl ?_
  refine r_goto (pc := 52) p150 k150_52 ?_
  subst e
  exact r_retI (pc := 86) p150 k150_86 rfl
def f150 (x0 : Int32) : Int32 := (if x0 = (42 : Int32) then f150_18 else (if x0 = (47 : Int32) then f150_18 else (if x0 = (37 : Int32) then f150_18 else (if x0 = (43 : Int32) then f150_35 else (if x0 = (45 : Int32) then f150_35 else (if x0 = (60 : Int32) then f150_51 else (if x0 = (62 : Int32) then f150_51 else (if x0 = (38 : Int32) then (3 : Int32) else (if x0 = (94 : Int32) then (2 : Int32) else (if x0 = (124 : Int32) then (1 : Int32) else (0 : Int32)))))))))))
theorem t150 {d : Nat} {h : ab_H} (x0 : Int32) (r : Int32) (e : f150 x0 = r) : ab_Rn d 150 0 (lv_args 0 [.int x0]) [] h (.inl (some (.int r))) h := by
  unfold f150 at e
  obtain ⟨l, hl⟩ : ∃ l, l = (lv_args 0 [.int x0]) := ⟨_, rfl⟩
  rw [← hl]
  have h0 : ab_get l 0 = some (.int x0) := by rw [hl]; rfl
  refine r_iload_n (pc := 0) p150 k150_0 h0 ?_
  refine r_bipush (pc := 1) p150 k150_1 (v := (42 : Int32)) rfl ?_
  refine r_ic_eq (pc := 3) p150 k150_3 (fun c => ?_) (fun c => ?_)
  · have e := (if_pos c).symm.trans e
    exact t150_18 l r e
  · have e := (if_neg c).symm.trans e
    refine r_iload_n (pc := 6) p150 k150_6 h0 ?_
    refine r_bipush (pc := 7) p150 k150_7 (v := (47 : Int32)) rfl ?_
    refine r_ic_eq (pc := 9) p150 k150_9 (fun c => ?_) (fun c => ?_)
    · have e := (if_pos c).symm.trans e
      exact t150_18 l r e
    · have e := (if_neg c).symm.trans e
      refine r_iload_n (pc := 12) p150 k150_12 h0 ?_
      refine r_bipush (pc := 13) p150 k150_13 (v := (37 : Int32)) rfl ?_
      refine r_ic_ne (pc := 15) p150 k150_15 (fun c => ?_) (fun c => ?_)
      · have e := (if_neg c).symm.trans e
        refine r_iload_n (pc := 23) p150 k150_23 h0 ?_
        refine r_bipush (pc := 24) p150 k150_24 (v := (43 : Int32)) rfl ?_
        refine r_ic_eq (pc := 26) p150 k150_26 (fun c => ?_) (fun c => ?_)
        · have e := (if_pos c).symm.trans e
          exact t150_35 l r e
        · have e := (if_neg c).symm.trans e
          refine r_iload_n (pc := 29) p150 k150_29 h0 ?_
          refine r_bipush (pc := 30) p150 k150_30 (v := (45 : Int32)) rfl ?_
          refine r_ic_ne (pc := 32) p150 k150_32 (fun c => ?_) (fun c => ?_)
          · have e := (if_neg c).symm.trans e
            refine r_iload_n (pc := 39) p150 k150_39 h0 ?_
            refine r_bipush (pc := 40) p150 k150_40 (v := (60 : Int32)) rfl ?_
            refine r_ic_eq (pc := 42) p150 k150_42 (fun c => ?_) (fun c => ?_)
            · have e := (if_pos c).symm.trans e
              exact t150_51 l r e
            · have e := (if_neg c).symm.trans e
              refine r_iload_n (pc := 45) p150 k150_45 h0 ?_
              refine r_bipush (pc := 46) p150 k150_46 (v := (62 : Int32)) rfl ?_
              refine r_ic_ne (pc := 48) p150 k150_48 (fun c => ?_) (fun c => ?_)
              · have e := (if_neg c).symm.trans e
                refine r_iload_n (pc := 55) p150 k150_55 h0 ?_
                refine r_bipush (pc := 56) p150 k150_56 (v := (38 : Int32)) rfl ?_
                refine r_ic_ne (pc := 58) p150 k150_58 (fun c => ?_) (fun c => ?_)
                · have e := (if_neg c).symm.trans e
                  refine r_iload_n (pc := 65) p150 k150_65 h0 ?_
                  refine r_bipush (pc := 66) p150 k150_66 (v := (94 : Int32)) rfl ?_
                  refine r_ic_ne (pc := 68) p150 k150_68 (fun c => ?_) (fun c => ?_)
                  · have e := (if_neg c).symm.trans e
                    refine r_iload_n (pc := 75) p150 k150_75 h0 ?_
                    refine r_bipush (pc := 76) p150 k150_76 (v := (124 : Int32)) rfl ?_
                    refine r_ic_ne (pc := 78) p150 k150_78 (fun c => ?_) (fun c => ?_)
                    · have e := (if_neg c).symm.trans e
                      refine r_iconst (pc := 85) p150 k150_85 (v := (0 : Int32)) rfl ?_
                      subst e
                      exact r_retI (pc := 86) p150 k150_86 rfl
                    · have e := (if_pos c).symm.trans e
                      refine r_iconst (pc := 81) p150 k150_81 (v := (1 : Int32)) rfl ?_
                      refine r_goto (pc := 82) p150 k150_82 ?_
                      subst e
                      exact r_retI (pc := 86) p150 k150_86 rfl
                  · have e := (if_pos c).symm.trans e
                    refine r_iconst (pc := 71) p150 k150_71 (v := (2 : Int32)) rfl ?_
                    refine r_goto (pc := 72) p150 k150_72 ?_
                    subst e
                    exact r_retI (pc := 86) p150 k150_86 rfl
                · have e := (if_pos c).symm.trans e
                  refine r_iconst (pc := 61) p150 k150_61 (v := (3 : Int32)) rfl ?_
                  refine r_goto (pc := 62) p150 k150_62 ?_
                  subst e
                  exact r_retI (pc := 86) p150 k150_86 rfl
              · have e := (if_pos c).symm.trans e
                exact t150_51 l r e
          · have e := (if_pos c).symm.trans e
            exact t150_35 l r e
      · have e := (if_pos c).symm.trans e
        exact t150_18 l r e

theorem p152 : ab_prog[152]? = some (ab_m152, ab_c152) := rfl
theorem k152_0 : ab_fetch ab_c152 0 = some (.iload_n 0, 1, 0, 0) := rfl
theorem k152_1 : ab_fetch ab_c152 1 = some (.bipush 42, 2, 0, 0) := rfl
theorem k152_3 : ab_fetch ab_c152 3 = some (.if_icmp .ne 9, 3, 12, 0) := rfl
theorem k152_6 : ab_fetch ab_c152 6 = some (.iload_n 1, 1, 0, 0) := rfl
theorem k152_7 : ab_fetch ab_c152 7 = some (.iload_n 2, 1, 0, 0) := rfl
theorem k152_8 : ab_fetch ab_c152 8 = some (.imul, 1, 0, 0) := rfl
theorem k152_9 : ab_fetch ab_c152 9 = some (.goto 18, 3, 27, 0) := rfl
theorem k152_12 : ab_fetch ab_c152 12 = some (.iload_n 0, 1, 0, 0) := rfl
theorem k152_13 : ab_fetch ab_c152 13 = some (.bipush 43, 2, 0, 0) := rfl
theorem k152_15 : ab_fetch ab_c152 15 = some (.if_icmp .ne 9, 3, 24, 0) := rfl
theorem k152_18 : ab_fetch ab_c152 18 = some (.iload_n 1, 1, 0, 0) := rfl
theorem k152_19 : ab_fetch ab_c152 19 = some (.iload_n 2, 1, 0, 0) := rfl
theorem k152_20 : ab_fetch ab_c152 20 = some (.iadd, 1, 0, 0) := rfl
theorem k152_21 : ab_fetch ab_c152 21 = some (.goto 6, 3, 27, 0) := rfl
theorem k152_24 : ab_fetch ab_c152 24 = some (.iload_n 1, 1, 0, 0) := rfl
theorem k152_25 : ab_fetch ab_c152 25 = some (.iload_n 2, 1, 0, 0) := rfl
theorem k152_26 : ab_fetch ab_c152 26 = some (.isub, 1, 0, 0) := rfl
theorem k152_27 : ab_fetch ab_c152 27 = some (.istore_n 3, 1, 0, 0) := rfl
theorem k152_28 : ab_fetch ab_c152 28 = some (.iload_n 0, 1, 0, 0) := rfl
theorem k152_29 : ab_fetch ab_c152 29 = some (.bipush 38, 2, 0, 0) := rfl
theorem k152_31 : ab_fetch ab_c152 31 = some (.if_icmp .ne 9, 3, 40, 0) := rfl
theorem k152_34 : ab_fetch ab_c152 34 = some (.iload_n 1, 1, 0, 0) := rfl
theorem k152_35 : ab_fetch ab_c152 35 = some (.iload_n 2, 1, 0, 0) := rfl
theorem k152_36 : ab_fetch ab_c152 36 = some (.iand, 1, 0, 0) := rfl
theorem k152_37 : ab_fetch ab_c152 37 = some (.goto 18, 3, 55, 0) := rfl
theorem k152_40 : ab_fetch ab_c152 40 = some (.iload_n 0, 1, 0, 0) := rfl
theorem k152_41 : ab_fetch ab_c152 41 = some (.bipush 94, 2, 0, 0) := rfl
theorem k152_43 : ab_fetch ab_c152 43 = some (.if_icmp .ne 9, 3, 52, 0) := rfl
theorem k152_46 : ab_fetch ab_c152 46 = some (.iload_n 1, 1, 0, 0) := rfl
theorem k152_47 : ab_fetch ab_c152 47 = some (.iload_n 2, 1, 0, 0) := rfl
theorem k152_48 : ab_fetch ab_c152 48 = some (.ixor, 1, 0, 0) := rfl
theorem k152_49 : ab_fetch ab_c152 49 = some (.goto 6, 3, 55, 0) := rfl
theorem k152_52 : ab_fetch ab_c152 52 = some (.iload_n 1, 1, 0, 0) := rfl
theorem k152_53 : ab_fetch ab_c152 53 = some (.iload_n 2, 1, 0, 0) := rfl
theorem k152_54 : ab_fetch ab_c152 54 = some (.ior, 1, 0, 0) := rfl
theorem k152_55 : ab_fetch ab_c152 55 = some (.istore 4, 2, 0, 0) := rfl
theorem k152_57 : ab_fetch ab_c152 57 = some (.iload_n 0, 1, 0, 0) := rfl
theorem k152_58 : ab_fetch ab_c152 58 = some (.invokestatic 424, 3, 150, 1) := rfl
theorem k152_61 : ab_fetch ab_c152 61 = some (.iconst 4, 1, 0, 0) := rfl
theorem k152_62 : ab_fetch ab_c152 62 = some (.if_icmp .ne 21, 3, 83, 0) := rfl
theorem k152_65 : ab_fetch ab_c152 65 = some (.iload_n 0, 1, 0, 0) := rfl
theorem k152_66 : ab_fetch ab_c152 66 = some (.bipush 60, 2, 0, 0) := rfl
theorem k152_68 : ab_fetch ab_c152 68 = some (.if_icmp .ne 9, 3, 77, 0) := rfl
theorem k152_71 : ab_fetch ab_c152 71 = some (.iload_n 1, 1, 0, 0) := rfl
theorem k152_72 : ab_fetch ab_c152 72 = some (.iload_n 2, 1, 0, 0) := rfl
theorem k152_73 : ab_fetch ab_c152 73 = some (.ishl, 1, 0, 0) := rfl
theorem k152_74 : ab_fetch ab_c152 74 = some (.goto 47, 3, 121, 0) := rfl
theorem k152_77 : ab_fetch ab_c152 77 = some (.iload_n 1, 1, 0, 0) := rfl
theorem k152_78 : ab_fetch ab_c152 78 = some (.iload_n 2, 1, 0, 0) := rfl
theorem k152_79 : ab_fetch ab_c152 79 = some (.ishr, 1, 0, 0) := rfl
theorem k152_80 : ab_fetch ab_c152 80 = some (.goto 41, 3, 121, 0) := rfl
theorem k152_83 : ab_fetch ab_c152 83 = some (.iload_n 0, 1, 0, 0) := rfl
theorem k152_84 : ab_fetch ab_c152 84 = some (.invokestatic 424, 3, 150, 1) := rfl
theorem k152_87 : ab_fetch ab_c152 87 = some (.iconst 4, 1, 0, 0) := rfl
theorem k152_88 : ab_fetch ab_c152 88 = some (.if_icmp .ge 8, 3, 96, 0) := rfl
theorem k152_91 : ab_fetch ab_c152 91 = some (.iload 4, 2, 0, 0) := rfl
theorem k152_93 : ab_fetch ab_c152 93 = some (.goto 28, 3, 121, 0) := rfl
theorem k152_96 : ab_fetch ab_c152 96 = some (.iload_n 0, 1, 0, 0) := rfl
theorem k152_97 : ab_fetch ab_c152 97 = some (.bipush 47, 2, 0, 0) := rfl
theorem k152_99 : ab_fetch ab_c152 99 = some (.if_icmp .ne 9, 3, 108, 0) := rfl
theorem k152_102 : ab_fetch ab_c152 102 = some (.iload_n 1, 1, 0, 0) := rfl
theorem k152_103 : ab_fetch ab_c152 103 = some (.iload_n 2, 1, 0, 0) := rfl
theorem k152_104 : ab_fetch ab_c152 104 = some (.idiv, 1, 0, 0) := rfl
theorem k152_105 : ab_fetch ab_c152 105 = some (.goto 16, 3, 121, 0) := rfl
theorem k152_108 : ab_fetch ab_c152 108 = some (.iload_n 0, 1, 0, 0) := rfl
theorem k152_109 : ab_fetch ab_c152 109 = some (.bipush 37, 2, 0, 0) := rfl
theorem k152_111 : ab_fetch ab_c152 111 = some (.if_icmp .ne 9, 3, 120, 0) := rfl
theorem k152_114 : ab_fetch ab_c152 114 = some (.iload_n 1, 1, 0, 0) := rfl
theorem k152_115 : ab_fetch ab_c152 115 = some (.iload_n 2, 1, 0, 0) := rfl
theorem k152_116 : ab_fetch ab_c152 116 = some (.irem, 1, 0, 0) := rfl
theorem k152_117 : ab_fetch ab_c152 117 = some (.goto 4, 3, 121, 0) := rfl
theorem k152_120 : ab_fetch ab_c152 120 = some (.iload_n 3, 1, 0, 0) := rfl
theorem k152_121 : ab_fetch ab_c152 121 = some (.ireturn, 1, 0, 0) := rfl
/- CodeSmithModel worked(III)I -/
def f152_55 (x0 : Int32) (x1 : Int32) (x2 : Int32) (x3 : Int32) (y0 : Int32) : Option Int32 := (if (f150 x0) = (4 : Int32) then (if x0 = (60 : Int32) then some (x1 <<< (x2 &&& 31)) else some (x1 >>> (x2 &&& 31))) else (if (4 : Int32) ≤ (f150 x0) then (if x0 = (47 : Int32) then if ¬ x2 = 0 then some (x1 / x2) else none else (if x0 = (37 : Int32) then if ¬ x2 = 0 then some (x1 - x1 / x2 * x2) else none else some x3)) else some y0))
theorem t152_55 {d : Nat} {h : ab_H} : ∀ (l : ab_L) (x0 : Int32) (x1 : Int32) (x2 : Int32) (x3 : Int32) (y0 : Int32) (h0 : ab_get l 0 = some (.int x0)) (h1 : ab_get l 1 = some (.int x1)) (h2 : ab_get l 2 = some (.int x2)) (h3 : ab_get l 3 = some (.int x3)) (r : Int32) (e : f152_55 x0 x1 x2 x3 y0 = some r), ab_Rn (d + 1) 152 55 l [.int y0] h (.inl (some (.int r))) h := by
  intro l x0 x1 x2 x3 y0 h0 h1 h2 h3 r e
  unfold f152_55 at e
  refine r_istore (pc := 55) p152 k152_55 (by decide) (fun l g h4 => ?_)
  have h0 := g 0 _ (by decide) h0 (Or.inl rfl)
  have h1 := g 1 _ (by decide) h1 (Or.inl rfl)
  have h2 := g 2 _ (by decide) h2 (Or.inl rfl)
  have h3 := g 3 _ (by decide) h3 (Or.inl rfl)
  refine r_iload_n (pc := 57) p152 k152_57 h0 ?_
  refine r_csv (pc := 58) p152 k152_58 rfl rfl p150 (r := []) rfl rfl rfl rfl (t150 x0 _ rfl) (w := [.int (f150 x0)]) rfl ?_
  refine r_iconst (pc := 61) p152 k152_61 (v := (4 : Int32)) rfl ?_
  refine r_ic_ne (pc := 62) p152 k152_62 (fun c => ?_) (fun c => ?_)
  · have e := (if_neg c).symm.trans e
    refine r_iload_n (pc := 83) p152 k152_83 h0 ?_
    refine r_csv (pc := 84) p152 k152_84 rfl rfl p150 (r := []) rfl rfl rfl rfl (t150 x0 _ rfl) (w := [.int (f150 x0)]) rfl ?_
    refine r_iconst (pc := 87) p152 k152_87 (v := (4 : Int32)) rfl ?_
    refine r_ic_ge (pc := 88) p152 k152_88 (fun c => ?_) (fun c => ?_)
    · have e := (if_pos c).symm.trans e
      refine r_iload_n (pc := 96) p152 k152_96 h0 ?_
      refine r_bipush (pc := 97) p152 k152_97 (v := (47 : Int32)) rfl ?_
      refine r_ic_ne (pc := 99) p152 k152_99 (fun c => ?_) (fun c => ?_)
      · have e := (if_neg c).symm.trans e
        refine r_iload_n (pc := 108) p152 k152_108 h0 ?_
        refine r_bipush (pc := 109) p152 k152_109 (v := (37 : Int32)) rfl ?_
        refine r_ic_ne (pc := 111) p152 k152_111 (fun c => ?_) (fun c => ?_)
        · have e := (if_neg c).symm.trans e
          refine r_iload_n (pc := 120) p152 k152_120 h3 ?_
          cases e
          exact r_retI (pc := 121) p152 k152_121 rfl
        · have e := (if_pos c).symm.trans e
          refine r_iload_n (pc := 114) p152 k152_114 h1 ?_
          refine r_iload_n (pc := 115) p152 k152_115 h2 ?_
          obtain ⟨c, e⟩ := of_if e
          refine r_irem (pc := 116) p152 k152_116 c ?_
          refine r_goto (pc := 117) p152 k152_117 ?_
          cases e
          exact r_retI (pc := 121) p152 k152_121 rfl
      · have e := (if_pos c).symm.trans e
        refine r_iload_n (pc := 102) p152 k152_102 h1 ?_
        refine r_iload_n (pc := 103) p152 k152_103 h2 ?_
        obtain ⟨c, e⟩ := of_if e
        refine r_idiv (pc := 104) p152 k152_104 c ?_
        refine r_goto (pc := 105) p152 k152_105 ?_
        cases e
        exact r_retI (pc := 121) p152 k152_121 rfl
    · have e := (if_neg c).symm.trans e
      refine r_iload (pc := 91) p152 k152_91 h4 ?_
      refine r_goto (pc := 93) p152 k152_93 ?_
      cases e
      exact r_retI (pc := 121) p152 k152_121 rfl
  · have e := (if_pos c).symm.trans e
    refine r_iload_n (pc := 65) p152 k152_65 h0 ?_
    refine r_bipush (pc := 66) p152 k152_66 (v := (60 : Int32)) rfl ?_
    refine r_ic_ne (pc := 68) p152 k152_68 (fun c => ?_) (fun c => ?_)
    · have e := (if_neg c).symm.trans e
      refine r_iload_n (pc := 77) p152 k152_77 h1 ?_
      refine r_iload_n (pc := 78) p152 k152_78 h2 ?_
      refine r_ishr (pc := 79) p152 k152_79 ?_
      refine r_goto (pc := 80) p152 k152_80 ?_
      cases e
      exact r_retI (pc := 121) p152 k152_121 rfl
    · have e := (if_pos c).symm.trans e
      refine r_iload_n (pc := 71) p152 k152_71 h1 ?_
      refine r_iload_n (pc := 72) p152 k152_72 h2 ?_
      refine r_ishl (pc := 73) p152 k152_73 ?_
      refine r_goto (pc := 74) p152 k152_74 ?_
      cases e
      exact r_retI (pc := 121) p152 k152_121 rfl
def f152_27 (x0 : Int32) (x1 : Int32) (x2 : Int32) (y0 : Int32) : Option Int32 := (if x0 = (38 : Int32) then f152_55 x0 x1 x2 y0 (x1 &&& x2) else (if x0 = (94 : Int32) then f152_55 x0 x1 x2 y0 (x1 ^^^ x2) else f152_55 x0 x1 x2 y0 (x1 ||| x2)))
theorem t152_27 {d : Nat} {h : ab_H} : ∀ (l : ab_L) (x0 : Int32) (x1 : Int32) (x2 : Int32) (y0 : Int32) (h0 : ab_get l 0 = some (.int x0)) (h1 : ab_get l 1 = some (.int x1)) (h2 : ab_get l 2 = some (.int x2)) (r : Int32) (e : f152_27 x0 x1 x2 y0 = some r), ab_Rn (d + 1) 152 27 l [.int y0] h (.inl (some (.int r))) h := by
  intro l x0 x1 x2 y0 h0 h1 h2 r e
  unfold f152_27 at e
  refine r_istore_n (pc := 27) p152 k152_27 (by decide) (fun l g h3 => ?_)
  have h0 := g 0 _ (by decide) h0 (Or.inl rfl)
  have h1 := g 1 _ (by decide) h1 (Or.inl rfl)
  have h2 := g 2 _ (by decide) h2 (Or.inl rfl)
  refine r_iload_n (pc := 28) p152 k152_28 h0 ?_
  refine r_bipush (pc := 29) p152 k152_29 (v := (38 : Int32)) rfl ?_
  refine r_ic_ne (pc := 31) p152 k152_31 (fun c => ?_) (fun c => ?_)
  · have e := (if_neg c).symm.trans e
    refine r_iload_n (pc := 40) p152 k152_40 h0 ?_
    refine r_bipush (pc := 41) p152 k152_41 (v := (94 : Int32)) rfl ?_
    refine r_ic_ne (pc := 43) p152 k152_43 (fun c => ?_) (fun c => ?_)
    · have e := (if_neg c).symm.trans e
      refine r_iload_n (pc := 52) p152 k152_52 h1 ?_
      refine r_iload_n (pc := 53) p152 k152_53 h2 ?_
      refine r_ior (pc := 54) p152 k152_54 ?_
      exact t152_55 l x0 x1 x2 y0 (x1 ||| x2) h0 h1 h2 h3 r e
    · have e := (if_pos c).symm.trans e
      refine r_iload_n (pc := 46) p152 k152_46 h1 ?_
      refine r_iload_n (pc := 47) p152 k152_47 h2 ?_
      refine r_ixor (pc := 48) p152 k152_48 ?_
      refine r_goto (pc := 49) p152 k152_49 ?_
      exact t152_55 l x0 x1 x2 y0 (x1 ^^^ x2) h0 h1 h2 h3 r e
  · have e := (if_pos c).symm.trans e
    refine r_iload_n (pc := 34) p152 k152_34 h1 ?_
    refine r_iload_n (pc := 35) p152 k152_35 h2 ?_
    refine r_iand (pc := 36) p152 k152_36 ?_
    refine r_goto (pc := 37) p152 k152_37 ?_
    exact t152_55 l x0 x1 x2 y0 (x1 &&& x2) h0 h1 h2 h3 r e
def f152 (x0 : Int32) (x1 : Int32) (x2 : Int32) : Option Int32 := (if x0 = (42 : Int32) then f152_27 x0 x1 x2 (x1 * x2) else (if x0 = (43 : Int32) then f152_27 x0 x1 x2 (x1 + x2) else f152_27 x0 x1 x2 (x1 - x2)))
theorem t152 {d : Nat} {h : ab_H} (x0 : Int32) (x1 : Int32) (x2 : Int32) (r : Int32) (e : f152 x0 x1 x2 = some r) : ab_Rn (d + 1) 152 0 (lv_args 0 [.int x0, .int x1, .int x2]) [] h (.inl (some (.int r))) h := by
  unfold f152 at e
  obtain ⟨l, hl⟩ : ∃ l, l = (lv_args 0 [.int x0, .int x1, .int x2]) := ⟨_, rfl⟩
  rw [← hl]
  have h0 : ab_get l 0 = some (.int x0) := by rw [hl]; rfl
  have h1 : ab_get l 1 = some (.int x1) := by rw [hl]; rfl
  have h2 : ab_get l 2 = some (.int x2) := by rw [hl]; rfl
  refine r_iload_n (pc := 0) p152 k152_0 h0 ?_
  refine r_bipush (pc := 1) p152 k152_1 (v := (42 : Int32)) rfl ?_
  refine r_ic_ne (pc := 3) p152 k152_3 (fun c => ?_) (fun c => ?_)
  · have e := (if_neg c).symm.trans e
    refine r_iload_n (pc := 12) p152 k152_12 h0 ?_
    refine r_bipush (pc := 13) p152 k152_13 (v := (43 : Int32)) rfl ?_
    refine r_ic_ne (pc := 15) p152 k152_15 (fun c => ?_) (fun c => ?_)
    · have e := (if_neg c).symm.trans e
      refine r_iload_n (pc := 24) p152 k152_24 h1 ?_
      refine r_iload_n (pc := 25) p152 k152_25 h2 ?_
      refine r_isub (pc := 26) p152 k152_26 ?_
      exact t152_27 l x0 x1 x2 (x1 - x2) h0 h1 h2 r e
    · have e := (if_pos c).symm.trans e
      refine r_iload_n (pc := 18) p152 k152_18 h1 ?_
      refine r_iload_n (pc := 19) p152 k152_19 h2 ?_
      refine r_iadd (pc := 20) p152 k152_20 ?_
      refine r_goto (pc := 21) p152 k152_21 ?_
      exact t152_27 l x0 x1 x2 (x1 + x2) h0 h1 h2 r e
  · have e := (if_pos c).symm.trans e
    refine r_iload_n (pc := 6) p152 k152_6 h1 ?_
    refine r_iload_n (pc := 7) p152 k152_7 h2 ?_
    refine r_imul (pc := 8) p152 k152_8 ?_
    refine r_goto (pc := 9) p152 k152_9 ?_
    exact t152_27 l x0 x1 x2 (x1 * x2) h0 h1 h2 r e
