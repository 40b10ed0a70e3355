theorem p126 : ab_prog[126]? = some (ab_m126, ab_c126) := rfl
theorem k126_0 : ab_fetch ab_c126 0 = some (.aload_n 0, 1, 0, 0) := rfl
theorem k126_1 : ab_fetch ab_c126 1 = some (.dup, 1, 0, 0) := rfl
theorem k126_2 : ab_fetch ab_c126 2 = some (.getfield 322, 3, 6, 18) := rfl
theorem k126_5 : ab_fetch ab_c126 5 = some (.iconst 1, 1, 0, 0) := rfl
theorem k126_6 : ab_fetch ab_c126 6 = some (.iadd, 1, 0, 0) := rfl
theorem k126_7 : ab_fetch ab_c126 7 = some (.putfield 322, 3, 6, 18) := rfl
theorem k126_10 : ab_fetch ab_c126 10 = some (.aload_n 0, 1, 0, 0) := rfl
theorem k126_11 : ab_fetch ab_c126 11 = some (.aload_n 0, 1, 0, 0) := rfl
theorem k126_12 : ab_fetch ab_c126 12 = some (.bipush 39, 2, 0, 0) := rfl
theorem k126_14 : ab_fetch ab_c126 14 = some (.invokevirtual 378, 3, 127, 1) := rfl
theorem k126_17 : ab_fetch ab_c126 17 = some (.putfield 352, 3, 6, 22) := rfl
theorem k126_20 : ab_fetch ab_c126 20 = some (.aload_n 0, 1, 0, 0) := rfl
theorem k126_21 : ab_fetch ab_c126 21 = some (.iconst 0, 1, 0, 0) := rfl
theorem k126_22 : ab_fetch ab_c126 22 = some (.invokevirtual 335, 3, 119, 1) := rfl
theorem k126_25 : ab_fetch ab_c126 25 = some (.bipush 39, 2, 0, 0) := rfl
theorem k126_27 : ab_fetch ab_c126 27 = some (.if_icmp .eq 11, 3, 38, 0) := rfl
theorem k126_30 : ab_fetch ab_c126 30 = some (.aload_n 0, 1, 0, 0) := rfl
theorem k126_31 : ab_fetch ab_c126 31 = some (.aload_n 0, 1, 0, 0) := rfl
theorem k126_32 : ab_fetch ab_c126 32 = some (.getfield 322, 3, 6, 18) := rfl
theorem k126_35 : ab_fetch ab_c126 35 = some (.invokevirtual 361, 3, 123, 1) := rfl
theorem k126_38 : ab_fetch ab_c126 38 = some (.aload_n 0, 1, 0, 0) := rfl
theorem k126_39 : ab_fetch ab_c126 39 = some (.dup, 1, 0, 0) := rfl
theorem k126_40 : ab_fetch ab_c126 40 = some (.getfield 322, 3, 6, 18) := rfl
theorem k126_43 : ab_fetch ab_c126 43 = some (.iconst 1, 1, 0, 0) := rfl
theorem k126_44 : ab_fetch ab_c126 44 = some (.iadd, 1, 0, 0) := rfl
theorem k126_45 : ab_fetch ab_c126 45 = some (.putfield 322, 3, 6, 18) := rfl
theorem k126_48 : ab_fetch ab_c126 48 = some (.return_, 1, 0, 0) := rfl
/- CodeSmithModel letter()V -/
def f126_38 (s : mS) : Option mS := some (mg s 18 ((s.1 18) + (1 : Int32)))
theorem t126_38 {d n : Nat} {Z : Nat → ab_C} (hn : 42 ≤ n) : ∀ (s : mS) (l : ab_L)  (h0 : ab_get l 0 = some (.ref 22)) (r : mS) (e : f126_38 s  = some r), ab_Rn (d + 2) 126 38 l [] (ab_hl n (mm_F s Z)) (.inl none) (ab_hl n (mm_F r Z)) := by
  intro s l h0 r e
  unfold f126_38 at e
  refine r_aload_n (pc := 38) p126 k126_38 h0 ?_
  refine r_dup (pc := 39) p126 k126_39 rfl ?_
  refine m_get hn (pc := 40) p126 k126_40 (v := .int (s.1 18)) rfl ?_
  refine r_iconst (pc := 43) p126 k126_43 (v := (1 : Int32)) rfl ?_
  refine r_iadd (pc := 44) p126 k126_44 ?_
  refine m_put hn (pc := 45) p126 k126_45 rfl rfl rfl rfl ?_
  cases e
  exact r_retV (pc := 48) p126 k126_48 rfl
def f126 (s : mS) : Option mS := ((f127 (mg s 18 ((s.1 18) + (1 : Int32))) (39 : Int32)).bind fun r1 => ((f119 (mg r1.2 22 r1.1) (0 : Int32)).bind fun r2 => (if r2 = (39 : Int32) then f126_38 (mg r1.2 22 r1.1) else ((f123 (mg r1.2 22 r1.1) (r1.2.1 18)).bind fun r3 => f126_38 r3))))
theorem t126 {d n : Nat} {Z : Nat → ab_C} (hn : 42 ≤ n) (s : mS) (r : mS) (e : f126 s = some r) : ab_Rn (d + 2) 126 0 (lv_args 0 [.ref 22]) [] (ab_hl n (mm_F s Z)) (.inl none) (ab_hl n (mm_F r Z)) := by
  unfold f126 at e
  obtain ⟨l, hl⟩ : ∃ l, l = (lv_args 0 [.ref 22]) := ⟨_, rfl⟩
  rw [← hl]
  have h0 : ab_get l 0 = some (.ref 22) := by rw [hl]; rfl
  refine r_aload_n (pc := 0) p126 k126_0 h0 ?_
  refine r_dup (pc := 1) p126 k126_1 rfl ?_
  refine m_get hn (pc := 2) p126 k126_2 (v := .int (s.1 18)) rfl ?_
  refine r_iconst (pc := 5) p126 k126_5 (v := (1 : Int32)) rfl ?_
  refine r_iadd (pc := 6) p126 k126_6 ?_
  refine m_put hn (pc := 7) p126 k126_7 rfl rfl rfl rfl ?_
  refine r_aload_n (pc := 10) p126 k126_10 h0 ?_
  refine r_aload_n (pc := 11) p126 k126_11 h0 ?_
  refine r_bipush (pc := 12) p126 k126_12 (v := (39 : Int32)) rfl ?_
  obtain ⟨r1, er1, e⟩ := of_bind e
  refine m_cv hn (pc := 14) p126 k126_14 rfl p127 (r := [.ref 22]) rfl rfl rfl rfl rfl (t127 hn (mg s 18 ((s.1 18) + (1 : Int32))) (39 : Int32) r1 er1) (w := [.int r1.1, .ref 22]) rfl ?_
  refine m_put hn (pc := 17) p126 k126_17 rfl rfl rfl rfl ?_
  refine r_aload_n (pc := 20) p126 k126_20 h0 ?_
  refine r_iconst (pc := 21) p126 k126_21 (v := (0 : Int32)) rfl ?_
  obtain ⟨r2, er2, e⟩ := of_bind e
  refine m_cv hn (pc := 22) p126 k126_22 rfl p119 (r := []) rfl rfl rfl rfl rfl (t119 hn (mg r1.2 22 r1.1) (0 : Int32) r2 er2) (w := [.int r2]) rfl ?_
  refine r_bipush (pc := 25) p126 k126_25 (v := (39 : Int32)) rfl ?_
  refine r_ic_eq (pc := 27) p126 k126_27 (fun c => ?_) (fun c => ?_)
  · have e := (if_pos c).symm.trans e
    exact t126_38 hn (mg r1.2 22 r1.1) l h0 r e
  · have e := (if_neg c).symm.trans e
    refine r_aload_n (pc := 30) p126 k126_30 h0 ?_
    refine r_aload_n (pc := 31) p126 k126_31 h0 ?_
    refine m_get hn (pc := 32) p126 k126_32 (v := .int (r1.2.1 18)) rfl ?_
    obtain ⟨r3, er3, e⟩ := of_bind e
    refine m_cv hn (pc := 35) p126 k126_35 rfl p123 (r := []) rfl rfl rfl rfl rfl (t123 hn (mg r1.2 22 r1.1) (r1.2.1 18) r3 er3) (w := []) rfl ?_
    exact t126_38 hn r3 l h0 r e

theorem p128 : ab_prog[128]? = some (ab_m128, ab_c128) := rfl
theorem k128_0 : ab_fetch ab_c128 0 = some (.aload_n 0, 1, 0, 0) := rfl
theorem k128_1 : ab_fetch ab_c128 1 = some (.iconst 0, 1, 0, 0) := rfl
theorem k128_2 : ab_fetch ab_c128 2 = some (.putfield 381, 3, 6, 24) := rfl
theorem k128_5 : ab_fetch ab_c128 5 = some (.aload_n 0, 1, 0, 0) := rfl
theorem k128_6 : ab_fetch ab_c128 6 = some (.dup, 1, 0, 0) := rfl
theorem k128_7 : ab_fetch ab_c128 7 = some (.getfield 322, 3, 6, 18) := rfl
theorem k128_10 : ab_fetch ab_c128 10 = some (.iconst 1, 1, 0, 0) := rfl
theorem k128_11 : ab_fetch ab_c128 11 = some (.iadd, 1, 0, 0) := rfl
theorem k128_12 : ab_fetch ab_c128 12 = some (.putfield 322, 3, 6, 18) := rfl
theorem k128_15 : ab_fetch ab_c128 15 = some (.aload_n 0, 1, 0, 0) := rfl
theorem k128_16 : ab_fetch ab_c128 16 = some (.getfield 339, 3, 6, 23) := rfl
theorem k128_19 : ab_fetch ab_c128 19 = some (.ifCond .ge 42, 3, 61, 0) := rfl
theorem k128_22 : ab_fetch ab_c128 22 = some (.aload_n 0, 1, 0, 0) := rfl
theorem k128_23 : ab_fetch ab_c128 23 = some (.iconst 0, 1, 0, 0) := rfl
theorem k128_24 : ab_fetch ab_c128 24 = some (.invokevirtual 335, 3, 119, 1) := rfl
theorem k128_27 : ab_fetch ab_c128 27 = some (.bipush 34, 2, 0, 0) := rfl
theorem k128_29 : ab_fetch ab_c128 29 = some (.if_icmp .eq 32, 3, 61, 0) := rfl
theorem k128_32 : ab_fetch ab_c128 32 = some (.aload_n 0, 1, 0, 0) := rfl
theorem k128_33 : ab_fetch ab_c128 33 = some (.getfield 260, 3, 6, 25) := rfl
theorem k128_36 : ab_fetch ab_c128 36 = some (.aload_n 0, 1, 0, 0) := rfl
theorem k128_37 : ab_fetch ab_c128 37 = some (.getfield 381, 3, 6, 24) := rfl
theorem k128_40 : ab_fetch ab_c128 40 = some (.aload_n 0, 1, 0, 0) := rfl
theorem k128_41 : ab_fetch ab_c128 41 = some (.bipush 34, 2, 0, 0) := rfl
theorem k128_43 : ab_fetch ab_c128 43 = some (.invokevirtual 378, 3, 127, 1) := rfl
theorem k128_46 : ab_fetch ab_c128 46 = some (.i2b, 1, 0, 0) := rfl
theorem k128_47 : ab_fetch ab_c128 47 = some (.bastore, 1, 0, 0) := rfl
theorem k128_48 : ab_fetch ab_c128 48 = some (.aload_n 0, 1, 0, 0) := rfl
theorem k128_49 : ab_fetch ab_c128 49 = some (.dup, 1, 0, 0) := rfl
theorem k128_50 : ab_fetch ab_c128 50 = some (.getfield 381, 3, 6, 24) := rfl
theorem k128_53 : ab_fetch ab_c128 53 = some (.iconst 1, 1, 0, 0) := rfl
theorem k128_54 : ab_fetch ab_c128 54 = some (.iadd, 1, 0, 0) := rfl
theorem k128_55 : ab_fetch ab_c128 55 = some (.putfield 381, 3, 6, 24) := rfl
theorem k128_58 : ab_fetch ab_c128 58 = some (.goto (-43), 3, 15, 0) := rfl
theorem k128_61 : ab_fetch ab_c128 61 = some (.aload_n 0, 1, 0, 0) := rfl
theorem k128_62 : ab_fetch ab_c128 62 = some (.dup, 1, 0, 0) := rfl
theorem k128_63 : ab_fetch ab_c128 63 = some (.getfield 322, 3, 6, 18) := rfl
theorem k128_66 : ab_fetch ab_c128 66 = some (.iconst 1, 1, 0, 0) := rfl
theorem k128_67 : ab_fetch ab_c128 67 = some (.iadd, 1, 0, 0) := rfl
theorem k128_68 : ab_fetch ab_c128 68 = some (.putfield 322, 3, 6, 18) := rfl
theorem k128_71 : ab_fetch ab_c128 71 = some (.return_, 1, 0, 0) := rfl
/- CodeSmithModel string()V -/
def f128_61 (s : mS) : Option mS := some (mg s 18 ((s.1 18) + (1 : Int32)))
theorem t128_61 {d n : Nat} {Z : Nat → ab_C} (hn : 42 ≤ n) : ∀ (s : mS) (l : ab_L)  (h0 : ab_get l 0 = some (.ref 22)) (r : mS) (e : f128_61 s  = some r), ab_Rn (d + 2) 128 61 l [] (ab_hl n (mm_F s Z)) (.inl none) (ab_hl n (mm_F r Z)) := by
  intro s l h0 r e
  unfold f128_61 at e
  refine r_aload_n (pc := 61) p128 k128_61 h0 ?_
  refine r_dup (pc := 62) p128 k128_62 rfl ?_
  refine m_get hn (pc := 63) p128 k128_63 (v := .int (s.1 18)) rfl ?_
  refine r_iconst (pc := 66) p128 k128_66 (v := (1 : Int32)) rfl ?_
  refine r_iadd (pc := 67) p128 k128_67 ?_
  refine m_put hn (pc := 68) p128 k128_68 rfl rfl rfl rfl ?_
  cases e
  exact r_retV (pc := 71) p128 k128_71 rfl
def f128_15 : Nat → mS → Option mS
  | 0, _ => none
  | u + 1, s => (if 0 ≤ (s.1 23) then f128_61 s else ((f119 s (0 : Int32)).bind fun r1 => (if r1 = (34 : Int32) then f128_61 s else ((f127 s (34 : Int32)).bind fun r2 => if ib (s.1 24) 65536 then f128_15 u (mg (mb r2.2 25 (s.1 24) r2.1.toInt8.toInt32.toInt8.toInt32) 24 ((r2.2.1 24) + (1 : Int32))) else none))))
theorem t128_15 {d n : Nat} {Z : Nat → ab_C} (hn : 42 ≤ n) : ∀ u : Nat, ∀ (s : mS) (l : ab_L)  (h0 : ab_get l 0 = some (.ref 22)) (r : mS) (e : f128_15 u s  = some r), ab_Rn (d + 2) 128 15 l [] (ab_hl n (mm_F s Z)) (.inl none) (ab_hl n (mm_F r Z)) := by
  intro u
  induction u with
  | zero => intro s l h0 r e; rw [f128_15] at e; cases e
  | succ u ih =>
    intro s l h0 r e
    rw [f128_15] at e
    refine r_aload_n (pc := 15) p128 k128_15 h0 ?_
    refine m_get hn (pc := 16) p128 k128_16 (v := .int (s.1 23)) rfl ?_
    refine r_if_ge (pc := 19) p128 k128_19 (fun c => ?_) (fun c => ?_)
    · have e := (if_pos c).symm.trans e
      exact t128_61 hn s l h0 r e
    · have e := (if_neg c).symm.trans e
      refine r_aload_n (pc := 22) p128 k128_22 h0 ?_
      refine r_iconst (pc := 23) p128 k128_23 (v := (0 : Int32)) rfl ?_
      obtain ⟨r1, er1, e⟩ := of_bind e
      refine m_cv hn (pc := 24) p128 k128_24 rfl p119 (r := []) rfl rfl rfl rfl rfl (t119 hn s (0 : Int32) r1 er1) (w := [.int r1]) rfl ?_
      refine r_bipush (pc := 27) p128 k128_27 (v := (34 : Int32)) rfl ?_
      refine r_ic_eq (pc := 29) p128 k128_29 (fun c => ?_) (fun c => ?_)
      · have e := (if_pos c).symm.trans e
        exact t128_61 hn s l h0 r e
      · have e := (if_neg c).symm.trans e
        refine r_aload_n (pc := 32) p128 k128_32 h0 ?_
        refine m_get hn (pc := 33) p128 k128_33 (v := .ref 28) rfl ?_
        refine r_aload_n (pc := 36) p128 k128_36 h0 ?_
        refine m_get hn (pc := 37) p128 k128_37 (v := .int (s.1 24)) rfl ?_
        refine r_aload_n (pc := 40) p128 k128_40 h0 ?_
        refine r_bipush (pc := 41) p128 k128_41 (v := (34 : Int32)) rfl ?_
        obtain ⟨r2, er2, e⟩ := of_bind e
        refine m_cv hn (pc := 43) p128 k128_43 rfl p127 (r := [.int (s.1 24), .ref 28]) rfl rfl rfl rfl rfl (t127 hn s (34 : Int32) r2 er2) (w := [.int r2.1, .int (s.1 24), .ref 28]) rfl ?_
        refine r_i2b (pc := 46) p128 k128_46 ?_
        obtain ⟨c, e⟩ := of_if e
        refine m_bst hn rfl (pc := 47) p128 k128_47 (k := 25) rfl (mm_arr25 _ Z) c ?_
        refine r_aload_n (pc := 48) p128 k128_48 h0 ?_
        refine r_dup (pc := 49) p128 k128_49 rfl ?_
        refine m_get hn (pc := 50) p128 k128_50 (v := .int (r2.2.1 24)) rfl ?_
        refine r_iconst (pc := 53) p128 k128_53 (v := (1 : Int32)) rfl ?_
        refine r_iadd (pc := 54) p128 k128_54 ?_
        refine m_put hn (pc := 55) p128 k128_55 rfl rfl rfl rfl ?_
        refine r_goto (pc := 58) p128 k128_58 ?_
        exact ih (mg (mb r2.2 25 (s.1 24) r2.1.toInt8.toInt32.toInt8.toInt32) 24 ((r2.2.1 24) + (1 : Int32))) l h0 r e
def f128 (s : mS) : Option mS := f128_15 mm_U (mg (mg s 24 (0 : Int32)) 18 ((s.1 18) + (1 : Int32)))
theorem t128 {d n : Nat} {Z : Nat → ab_C} (hn : 42 ≤ n) (s : mS) (r : mS) (e : f128 s = some r) : ab_Rn (d + 2) 128 0 (lv_args 0 [.ref 22]) [] (ab_hl n (mm_F s Z)) (.inl none) (ab_hl n (mm_F r Z)) := by
  unfold f128 at e
  obtain ⟨l, hl⟩ : ∃ l, l = (lv_args 0 [.ref 22]) := ⟨_, rfl⟩
  rw [← hl]
  have h0 : ab_get l 0 = some (.ref 22) := by rw [hl]; rfl
  refine r_aload_n (pc := 0) p128 k128_0 h0 ?_
  refine r_iconst (pc := 1) p128 k128_1 (v := (0 : Int32)) rfl ?_
  refine m_put hn (pc := 2) p128 k128_2 rfl rfl rfl rfl ?_
  refine r_aload_n (pc := 5) p128 k128_5 h0 ?_
  refine r_dup (pc := 6) p128 k128_6 rfl ?_
  refine m_get hn (pc := 7) p128 k128_7 (v := .int (s.1 18)) rfl ?_
  refine r_iconst (pc := 10) p128 k128_10 (v := (1 : Int32)) rfl ?_
  refine r_iadd (pc := 11) p128 k128_11 ?_
  refine m_put hn (pc := 12) p128 k128_12 rfl rfl rfl rfl ?_
  exact t128_15 hn mm_U (mg (mg s 24 (0 : Int32)) 18 ((s.1 18) + (1 : Int32))) l h0 r e

theorem p129 : ab_prog[129]? = some (ab_m129, ab_c129) := rfl
theorem k129_0 : ab_fetch ab_c129 0 = some (.aload_n 0, 1, 0, 0) := rfl
theorem k129_1 : ab_fetch ab_c129 1 = some (.iload_n 1, 1, 0, 0) := rfl
theorem k129_2 : ab_fetch ab_c129 2 = some (.putfield 352, 3, 6, 22) := rfl
theorem k129_5 : ab_fetch ab_c129 5 = some (.iload_n 1, 1, 0, 0) := rfl
theorem k129_6 : ab_fetch ab_c129 6 = some (.bipush 44, 2, 0, 0) := rfl
theorem k129_8 : ab_fetch ab_c129 8 = some (.if_icmp .eq 81, 3, 89, 0) := rfl
theorem k129_11 : ab_fetch ab_c129 11 = some (.iload_n 1, 1, 0, 0) := rfl
theorem k129_12 : ab_fetch ab_c129 12 = some (.bipush 58, 2, 0, 0) := rfl
theorem k129_14 : ab_fetch ab_c129 14 = some (.if_icmp .eq 75, 3, 89, 0) := rfl
theorem k129_17 : ab_fetch ab_c129 17 = some (.iload_n 1, 1, 0, 0) := rfl
theorem k129_18 : ab_fetch ab_c129 18 = some (.bipush 40, 2, 0, 0) := rfl
theorem k129_20 : ab_fetch ab_c129 20 = some (.if_icmp .eq 69, 3, 89, 0) := rfl
theorem k129_23 : ab_fetch ab_c129 23 = some (.iload_n 1, 1, 0, 0) := rfl
theorem k129_24 : ab_fetch ab_c129 24 = some (.bipush 41, 2, 0, 0) := rfl
theorem k129_26 : ab_fetch ab_c129 26 = some (.if_icmp .eq 63, 3, 89, 0) := rfl
theorem k129_29 : ab_fetch ab_c129 29 = some (.iload_n 1, 1, 0, 0) := rfl
theorem k129_30 : ab_fetch ab_c129 30 = some (.bipush 43, 2, 0, 0) := rfl
theorem k129_32 : ab_fetch ab_c129 32 = some (.if_icmp .eq 57, 3, 89, 0) := rfl
theorem k129_35 : ab_fetch ab_c129 35 = some (.iload_n 1, 1, 0, 0) := rfl
theorem k129_36 : ab_fetch ab_c129 36 = some (.bipush 45, 2, 0, 0) := rfl
theorem k129_38 : ab_fetch ab_c129 38 = some (.if_icmp .eq 51, 3, 89, 0) := rfl
theorem k129_41 : ab_fetch ab_c129 41 = some (.iload_n 1, 1, 0, 0) := rfl
theorem k129_42 : ab_fetch ab_c129 42 = some (.bipush 42, 2, 0, 0) := rfl
theorem k129_44 : ab_fetch ab_c129 44 = some (.if_icmp .eq 45, 3, 89, 0) := rfl
theorem k129_47 : ab_fetch ab_c129 47 = some (.iload_n 1, 1, 0, 0) := rfl
theorem k129_48 : ab_fetch ab_c129 48 = some (.bipush 47, 2, 0, 0) := rfl
theorem k129_50 : ab_fetch ab_c129 50 = some (.if_icmp .eq 39, 3, 89, 0) := rfl
theorem k129_53 : ab_fetch ab_c129 53 = some (.iload_n 1, 1, 0, 0) := rfl
theorem k129_54 : ab_fetch ab_c129 54 = some (.bipush 37, 2, 0, 0) := rfl
theorem k129_56 : ab_fetch ab_c129 56 = some (.if_icmp .eq 33, 3, 89, 0) := rfl
theorem k129_59 : ab_fetch ab_c129 59 = some (.iload_n 1, 1, 0, 0) := rfl
theorem k129_60 : ab_fetch ab_c129 60 = some (.bipush 38, 2, 0, 0) := rfl
theorem k129_62 : ab_fetch ab_c129 62 = some (.if_icmp .eq 27, 3, 89, 0) := rfl
theorem k129_65 : ab_fetch ab_c129 65 = some (.iload_n 1, 1, 0, 0) := rfl
theorem k129_66 : ab_fetch ab_c129 66 = some (.bipush 124, 2, 0, 0) := rfl
theorem k129_68 : ab_fetch ab_c129 68 = some (.if_icmp .eq 21, 3, 89, 0) := rfl
theorem k129_71 : ab_fetch ab_c129 71 = some (.iload_n 1, 1, 0, 0) := rfl
theorem k129_72 : ab_fetch ab_c129 72 = some (.bipush 94, 2, 0, 0) := rfl
theorem k129_74 : ab_fetch ab_c129 74 = some (.if_icmp .eq 15, 3, 89, 0) := rfl
theorem k129_77 : ab_fetch ab_c129 77 = some (.iload_n 1, 1, 0, 0) := rfl
theorem k129_78 : ab_fetch ab_c129 78 = some (.bipush 126, 2, 0, 0) := rfl
theorem k129_80 : ab_fetch ab_c129 80 = some (.if_icmp .eq 9, 3, 89, 0) := rfl
theorem k129_83 : ab_fetch ab_c129 83 = some (.iload_n 1, 1, 0, 0) := rfl
theorem k129_84 : ab_fetch ab_c129 84 = some (.bipush 46, 2, 0, 0) := rfl
theorem k129_86 : ab_fetch ab_c129 86 = some (.if_icmp .ne 7, 3, 93, 0) := rfl
theorem k129_89 : ab_fetch ab_c129 89 = some (.iconst 1, 1, 0, 0) := rfl
theorem k129_90 : ab_fetch ab_c129 90 = some (.goto 4, 3, 94, 0) := rfl
theorem k129_93 : ab_fetch ab_c129 93 = some (.iconst 0, 1, 0, 0) := rfl
theorem k129_94 : ab_fetch ab_c129 94 = some (.istore_n 2, 1, 0, 0) := rfl
theorem k129_95 : ab_fetch ab_c129 95 = some (.iload_n 1, 1, 0, 0) := rfl
theorem k129_96 : ab_fetch ab_c129 96 = some (.bipush 60, 2, 0, 0) := rfl
theorem k129_98 : ab_fetch ab_c129 98 = some (.if_icmp .eq 9, 3, 107, 0) := rfl
theorem k129_101 : ab_fetch ab_c129 101 = some (.iload_n 1, 1, 0, 0) := rfl
theorem k129_102 : ab_fetch ab_c129 102 = some (.bipush 62, 2, 0, 0) := rfl
theorem k129_104 : ab_fetch ab_c129 104 = some (.if_icmp .ne 7, 3, 111, 0) := rfl
theorem k129_107 : ab_fetch ab_c129 107 = some (.iconst 1, 1, 0, 0) := rfl
theorem k129_108 : ab_fetch ab_c129 108 = some (.goto 4, 3, 112, 0) := rfl
theorem k129_111 : ab_fetch ab_c129 111 = some (.iconst 0, 1, 0, 0) := rfl
theorem k129_112 : ab_fetch ab_c129 112 = some (.istore_n 3, 1, 0, 0) := rfl
theorem k129_113 : ab_fetch ab_c129 113 = some (.aload_n 0, 1, 0, 0) := rfl
theorem k129_114 : ab_fetch ab_c129 114 = some (.dup, 1, 0, 0) := rfl
theorem k129_115 : ab_fetch ab_c129 115 = some (.getfield 322, 3, 6, 18) := rfl
theorem k129_118 : ab_fetch ab_c129 118 = some (.iconst 1, 1, 0, 0) := rfl
theorem k129_119 : ab_fetch ab_c129 119 = some (.iadd, 1, 0, 0) := rfl
theorem k129_120 : ab_fetch ab_c129 120 = some (.putfield 322, 3, 6, 18) := rfl
theorem k129_123 : ab_fetch ab_c129 123 = some (.iload_n 2, 1, 0, 0) := rfl
theorem k129_124 : ab_fetch ab_c129 124 = some (.ifCond .ne 15, 3, 139, 0) := rfl
theorem k129_127 : ab_fetch ab_c129 127 = some (.iload_n 3, 1, 0, 0) := rfl
theorem k129_128 : ab_fetch ab_c129 128 = some (.ifCond .ne 11, 3, 139, 0) := rfl
theorem k129_131 : ab_fetch ab_c129 131 = some (.aload_n 0, 1, 0, 0) := rfl
theorem k129_132 : ab_fetch ab_c129 132 = some (.aload_n 0, 1, 0, 0) := rfl
theorem k129_133 : ab_fetch ab_c129 133 = some (.getfield 349, 3, 6, 21) := rfl
theorem k129_136 : ab_fetch ab_c129 136 = some (.invokevirtual 361, 3, 123, 1) := rfl
theorem k129_139 : ab_fetch ab_c129 139 = some (.iload_n 3, 1, 0, 0) := rfl
theorem k129_140 : ab_fetch ab_c129 140 = some (.ifCond .eq 20, 3, 160, 0) := rfl
theorem k129_143 : ab_fetch ab_c129 143 = some (.aload_n 0, 1, 0, 0) := rfl
theorem k129_144 : ab_fetch ab_c129 144 = some (.iconst 0, 1, 0, 0) := rfl
theorem k129_145 : ab_fetch ab_c129 145 = some (.invokevirtual 335, 3, 119, 1) := rfl
theorem k129_148 : ab_fetch ab_c129 148 = some (.iload_n 1, 1, 0, 0) := rfl
theorem k129_149 : ab_fetch ab_c129 149 = some (.if_icmp .eq 11, 3, 160, 0) := rfl
theorem k129_152 : ab_fetch ab_c129 152 = some (.aload_n 0, 1, 0, 0) := rfl
theorem k129_153 : ab_fetch ab_c129 153 = some (.aload_n 0, 1, 0, 0) := rfl
theorem k129_154 : ab_fetch ab_c129 154 = some (.getfield 322, 3, 6, 18) := rfl
theorem k129_157 : ab_fetch ab_c129 157 = some (.invokevirtual 361, 3, 123, 1) := rfl
theorem k129_160 : ab_fetch ab_c129 160 = some (.aload_n 0, 1, 0, 0) := rfl
theorem k129_161 : ab_fetch ab_c129 161 = some (.dup, 1, 0, 0) := rfl
theorem k129_162 : ab_fetch ab_c129 162 = some (.getfield 322, 3, 6, 18) := rfl
theorem k129_165 : ab_fetch ab_c129 165 = some (.iload_n 3, 1, 0, 0) := rfl
theorem k129_166 : ab_fetch ab_c129 166 = some (.ifCond .eq 7, 3, 173, 0) := rfl
theorem k129_169 : ab_fetch ab_c129 169 = some (.iconst 1, 1, 0, 0) := rfl
theorem k129_170 : ab_fetch ab_c129 170 = some (.goto 4, 3, 174, 0) := rfl
theorem k129_173 : ab_fetch ab_c129 173 = some (.iconst 0, 1, 0, 0) := rfl
theorem k129_174 : ab_fetch ab_c129 174 = some (.iadd, 1, 0, 0) := rfl
theorem k129_175 : ab_fetch ab_c129 175 = some (.putfield 322, 3, 6, 18) := rfl
theorem k129_178 : ab_fetch ab_c129 178 = some (.return_, 1, 0, 0) := rfl
/- CodeSmithModel sign(I)V -/
def f129_174 (s : mS) (y0 : Int32) (y1 : Int32) : Option mS := some (mg s 18 (y1 + y0))
theorem t129_174 {d n : Nat} {Z : Nat → ab_C} (hn : 42 ≤ n) : ∀ (s : mS) (l : ab_L) (y0 : Int32) (y1 : Int32)  (r : mS) (e : f129_174 s y0 y1 = some r), ab_Rn (d + 1) 129 174 l [.int y0, .int y1, .ref 22] (ab_hl n (mm_F s Z)) (.inl none) (ab_hl n (mm_F r Z)) := by
  intro s l y0 y1 r e
  unfold f129_174 at e
  refine r_iadd (pc := 174) p129 k129_174 ?_
  refine m_put hn (pc := 175) p129 k129_175 rfl rfl rfl rfl ?_
  cases e
  exact r_retV (pc := 178) p129 k129_178 rfl
def f129_160 (s : mS) (x3 : Int32) : Option mS := (if x3 = 0 then f129_174 s (0 : Int32) (s.1 18) else f129_174 s (1 : Int32) (s.1 18))
theorem t129_160 {d n : Nat} {Z : Nat → ab_C} (hn : 42 ≤ n) : ∀ (s : mS) (l : ab_L) (x3 : Int32) (h0 : ab_get l 0 = some (.ref 22)) (h3 : ab_get l 3 = some (.int x3)) (r : mS) (e : f129_160 s x3 = some r), ab_Rn (d + 1) 129 160 l [] (ab_hl n (mm_F s Z)) (.inl none) (ab_hl n (mm_F r Z)) := by
  intro s l x3 h0 h3 r e
  unfold f129_160 at e
  refine r_aload_n (pc := 160) p129 k129_160 h0 ?_
  refine r_dup (pc := 161) p129 k129_161 rfl ?_
  refine m_get hn (pc := 162) p129 k129_162 (v := .int (s.1 18)) rfl ?_
  refine r_iload_n (pc := 165) p129 k129_165 h3 ?_
  refine r_if_eq (pc := 166) p129 k129_166 (fun c => ?_) (fun c => ?_)
  · have e := (if_pos c).symm.trans e
    refine r_iconst (pc := 173) p129 k129_173 (v := (0 : Int32)) rfl ?_
    exact t129_174 hn s l (0 : Int32) (s.1 18) r e
  · have e := (if_neg c).symm.trans e
    refine r_iconst (pc := 169) p129 k129_169 (v := (1 : Int32)) rfl ?_
    refine r_goto (pc := 170) p129 k129_170 ?_
    exact t129_174 hn s l (1 : Int32) (s.1 18) r e
def f129_139 (s : mS) (x1 : Int32) (x3 : Int32) : Option mS := (if x3 = 0 then f129_160 s x3 else ((f119 s (0 : Int32)).bind fun r1 => (if r1 = x1 then f129_160 s x3 else ((f123 s (s.1 18)).bind fun r2 => f129_160 r2 x3))))
theorem t129_139 {d n : Nat} {Z : Nat → ab_C} (hn : 42 ≤ n) : ∀ (s : mS) (l : ab_L) (x1 : Int32) (x3 : Int32) (h0 : ab_get l 0 = some (.ref 22)) (h1 : ab_get l 1 = some (.int x1)) (h3 : ab_get l 3 = some (.int x3)) (r : mS) (e : f129_139 s x1 x3 = some r), ab_Rn (d + 1) 129 139 l [] (ab_hl n (mm_F s Z)) (.inl none) (ab_hl n (mm_F r Z)) := by
  intro s l x1 x3 h0 h1 h3 r e
  unfold f129_139 at e
  refine r_iload_n (pc := 139) p129 k129_139 h3 ?_
  refine r_if_eq (pc := 140) p129 k129_140 (fun c => ?_) (fun c => ?_)
  · have e := (if_pos c).symm.trans e
    exact t129_160 hn s l x3 h0 h3 r e
  · have e := (if_neg c).symm.trans e
    refine r_aload_n (pc := 143) p129 k129_143 h0 ?_
    refine r_iconst (pc := 144) p129 k129_144 (v := (0 : Int32)) rfl ?_
    obtain ⟨r1, er1, e⟩ := of_bind e
    refine m_cv hn (pc := 145) p129 k129_145 rfl p119 (r := []) rfl rfl rfl rfl rfl (t119 hn s (0 : Int32) r1 er1) (w := [.int r1]) rfl ?_
    refine r_iload_n (pc := 148) p129 k129_148 h1 ?_
    refine r_ic_eq (pc := 149) p129 k129_149 (fun c => ?_) (fun c => ?_)
    · have e := (if_pos c).symm.trans e
      exact t129_160 hn s l x3 h0 h3 r e
    · have e := (if_neg c).symm.trans e
      refine r_aload_n (pc := 152) p129 k129_152 h0 ?_
      refine r_aload_n (pc := 153) p129 k129_153 h0 ?_
      refine m_get hn (pc := 154) p129 k129_154 (v := .int (s.1 18)) rfl ?_
      obtain ⟨r2, er2, e⟩ := of_bind e
      refine m_cv hn (pc := 157) p129 k129_157 rfl p123 (r := []) rfl rfl rfl rfl rfl (t123 hn s (s.1 18) r2 er2) (w := []) rfl ?_
      exact t129_160 hn r2 l x3 h0 h3 r e
def f129_112 (s : mS) (x1 : Int32) (x2 : Int32) (y0 : Int32) : Option mS := (if x2 = 0 then (if y0 = 0 then ((f123 (mg s 18 ((s.1 18) + (1 : Int32))) (s.1 21)).bind fun r1 => f129_139 r1 x1 y0) else f129_139 (mg s 18 ((s.1 18) + (1 : Int32))) x1 y0) else f129_139 (mg s 18 ((s.1 18) + (1 : Int32))) x1 y0)
theorem t129_112 {d n : Nat} {Z : Nat → ab_C} (hn : 42 ≤ n) : ∀ (s : mS) (l : ab_L) (x1 : Int32) (x2 : Int32) (y0 : Int32) (h0 : ab_get l 0 = some (.ref 22)) (h1 : ab_get l 1 = some (.int x1)) (h2 : ab_get l 2 = some (.int x2)) (r : mS) (e : f129_112 s x1 x2 y0 = some r), ab_Rn (d + 1) 129 112 l [.int y0] (ab_hl n (mm_F s Z)) (.inl none) (ab_hl n (mm_F r Z)) := by
  intro s l x1 x2 y0 h0 h1 h2 r e
  unfold f129_112 at e
  refine r_istore_n (pc := 112) p129 k129_112 (by decide) (fun l g h3 => ?_)
  have h0 := g 0 _ (by decide) h0 (Or.inl rfl)
  have h1 := g 1 _ (by decide) h1 (Or.inl rfl)
  have h2 := g 2 _ (by decide) h2 (Or.inl rfl)
  refine r_aload_n (pc := 113) p129 k129_113 h0 ?_
  refine r_dup (pc := 114) p129 k129_114 rfl ?_
  refine m_get hn (pc := 115) p129 k129_115 (v := .int (s.1 18)) rfl ?_
  refine r_iconst (pc := 118) p129 k129_118 (v := (1 : Int32)) rfl ?_
  refine r_iadd (pc := 119) p129 k129_119 ?_
  refine m_put hn (pc := 120) p129 k129_120 rfl rfl rfl rfl ?_
  refine r_iload_n (pc := 123) p129 k129_123 h2 ?_
  refine r_if_ne (pc := 124) p129 k129_124 (fun c => ?_) (fun c => ?_)
  · have e := (if_neg c).symm.trans e
    exact t129_139 hn (mg s 18 ((s.1 18) + (1 : Int32))) l x1 y0 h0 h1 h3 r e
  · have e := (if_pos c).symm.trans e
    refine r_iload_n (pc := 127) p129 k129_127 h3 ?_
    refine r_if_ne (pc := 128) p129 k129_128 (fun c => ?_) (fun c => ?_)
    · have e := (if_neg c).symm.trans e
      exact t129_139 hn (mg s 18 ((s.1 18) + (1 : Int32))) l x1 y0 h0 h1 h3 r e
    · have e := (if_pos c).symm.trans e
      refine r_aload_n (pc := 131) p129 k129_131 h0 ?_
      refine r_aload_n (pc := 132) p129 k129_132 h0 ?_
      refine m_get hn (pc := 133) p129 k129_133 (v := .int (s.1 21)) rfl ?_
      obtain ⟨r1, er1, e⟩ := of_bind e
      refine m_cv hn (pc := 136) p129 k129_136 rfl p123 (r := []) rfl rfl rfl rfl rfl (t123 hn (mg s 18 ((s.1 18) + (1 : Int32))) (s.1 21) r1 er1) (w := []) rfl ?_
      exact t129_139 hn r1 l x1 y0 h0 h1 h3 r e
def f129_107 (s : mS) (x1 : Int32) (x2 : Int32) : Option mS := f129_112 s x1 x2 (1 : Int32)
theorem t129_107 {d n : Nat} {Z : Nat → ab_C} (hn : 42 ≤ n) : ∀ (s : mS) (l : ab_L) (x1 : Int32) (x2 : Int32) (h0 : ab_get l 0 = some (.ref 22)) (h1 : ab_get l 1 = some (.int x1)) (h2 : ab_get l 2 = some (.int x2)) (r : mS) (e : f129_107 s x1 x2 = some r), ab_Rn (d + 1) 129 107 l [] (ab_hl n (mm_F s Z)) (.inl none) (ab_hl n (mm_F r Z)) := by
  intro s l x1 x2 h0 h1 h2 r e
  unfold f129_107 at e
  refine r_iconst (pc := 107) p129 k129_107 (v := (1 : Int32)) rfl ?_
  refine r_goto (pc := 108) p129 k129_108 ?_
  exact t129_112 hn s l x1 x2 (1 : Int32) h0 h1 h2 r e
def f129_94 (s : mS) (x1 : Int32) (y0 : Int32) : Option mS := (if x1 = (60 : Int32) then f129_107 s x1 y0 else (if x1 = (62 : Int32) then f129_107 s x1 y0 else f129_112 s x1 y0 (0 : Int32)))
theorem t129_94 {d n : Nat} {Z : Nat → ab_C} (hn : 42 ≤ n) : ∀ (s : mS) (l : ab_L) (x1 : Int32) (y0 : Int32) (h0 : ab_get l 0 = some (.ref 22)) (h1 : ab_get l 1 = some (.int x1)) (r : mS) (e : f129_94 s x1 y0 = some r), ab_Rn (d + 1) 129 94 l [.int y0] (ab_hl n (mm_F s Z)) (.inl none) (ab_hl n (mm_F r Z)) := by
  intro s l x1 y0 h0 h1 r e
  unfold f129_94 at e
  refine r_istore_n (pc := 94) p129 k129_94 (by decide) (fun l g h2 => ?_)
  have h0 := g 0 _ (by decide) h0 (Or.inl rfl)
  have h1 := g 1 _ (by decide) h1 (Or.inl rfl)
  refine r_iload_n (pc := 95) p129 k129_95 h1 ?_
  refine r_bipush (pc := 96) p129 k129_96 (v := (60 : Int32)) rfl ?_
  refine r_ic_eq (pc := 98) p129 k129_98 (fun c => ?_) (fun c => ?_)
  · have e := (if_pos c).symm.trans e
    exact t129_107 hn s l x1 y0 h0 h1 h2 r e
  · have e := (if_neg c).symm.trans e
    refine r_iload_n (pc := 101) p129 k129_101 h1 ?_
    refine r_bipush (pc := 102) p129 k129_102 (v := (62 : Int32)) rfl ?_
    refine r_ic_ne (pc := 104) p129 k129_104 (fun c => ?_) (fun c => ?_)
    · have e := (if_neg c).symm.trans e
      refine r_iconst (pc := 111) p129 k129_111 (v := (0 : Int32)) rfl ?_
      exact t129_112 hn s l x1 y0 (0 : Int32) h0 h1 h2 r e
    · have e := (if_pos c).symm.trans e
      exact t129_107 hn s l x1 y0 h0 h1 h2 r e
def f129_89 (s : mS) (x1 : Int32) : Option mS := f129_94 s x1 (1 : Int32)
theorem t129_89 {d n : Nat} {Z : Nat → ab_C} (hn : 42 ≤ n) : ∀ (s : mS) (l : ab_L) (x1 : Int32) (h0 : ab_get l 0 = some (.ref 22)) (h1 : ab_get l 1 = some (.int x1)) (r : mS) (e : f129_89 s x1 = some r), ab_Rn (d + 1) 129 89 l [] (ab_hl n (mm_F s Z)) (.inl none) (ab_hl n (mm_F r Z)) := by
  intro s l x1 h0 h1 r e
  unfold f129_89 at e
  refine r_iconst (pc := 89) p129 k129_89 (v := (1 : Int32)) rfl ?_
  refine r_goto (pc := 90) p129 k129_90 ?_
  exact t129_94 hn s l x1 (1 : Int32) h0 h1 r e
def f129 (s : mS) (x1 : Int32) : Option mS := (if x1 = (44 : Int32) then f129_89 (mg s 22 x1) x1 else (if x1 = (58 : Int32) then f129_89 (mg s 22 x1) x1 else (if x1 = (40 : Int32) then f129_89 (mg s 22 x1) x1 else (if x1 = (41 : Int32) then f129_89 (mg s 22 x1) x1 else (if x1 = (43 : Int32) then f129_89 (mg s 22 x1) x1 else (if x1 = (45 : Int32) then f129_89 (mg s 22 x1) x1 else (if x1 = (42 : Int32) then f129_89 (mg s 22 x1) x1 else (if x1 = (47 : Int32) then f129_89 (mg s 22 x1) x1 else (if x1 = (37 : Int32) then f129_89 (mg s 22 x1) x1 else (if x1 = (38 : Int32) then f129_89 (mg s 22 x1) x1 else (if x1 = (124 : Int32) then f129_89 (mg s 22 x1) x1 else (if x1 = (94 : Int32) then f129_89 (mg s 22 x1) x1 else (if x1 = (126 : Int32) then f129_89 (mg s 22 x1) x1 else (if x1 = (46 : Int32) then f129_89 (mg s 22 x1) x1 else f129_94 (mg s 22 x1) x1 (0 : Int32)))))))))))))))
theorem t129 {d n : Nat} {Z : Nat → ab_C} (hn : 42 ≤ n) (s : mS) (x1 : Int32) (r : mS) (e : f129 s x1 = some r) : ab_Rn (d + 1) 129 0 (lv_args 0 [.ref 22, .int x1]) [] (ab_hl n (mm_F s Z)) (.inl none) (ab_hl n (mm_F r Z)) := by
  unfold f129 at e
  obtain ⟨l, hl⟩ : ∃ l, l = (lv_args 0 [.ref 22, .int x1]) := ⟨_, rfl⟩
  rw [← hl]
  have h0 : ab_get l 0 = some (.ref 22) := by rw [hl]; rfl
  have h1 : ab_get l 1 = some (.int x1) := by rw [hl]; rfl
  refine r_aload_n (pc := 0) p129 k129_0 h0 ?_
  refine r_iload_n (pc := 1) p129 k129_1 h1 ?_
  refine m_put hn (pc := 2) p129 k129_2 rfl rfl rfl rfl ?_
  refine r_iload_n (pc := 5) p129 k129_5 h1 ?_
  refine r_bipush (pc := 6) p129 k129_6 (v := (44 : Int32)) rfl ?_
  refine r_ic_eq (pc := 8) p129 k129_8 (fun c => ?_) (fun c => ?_)
  · have e := (if_pos c).symm.trans e
    exact t129_89 hn (mg s 22 x1) l x1 h0 h1 r e
  · have e := (if_neg c).symm.trans e
    refine r_iload_n (pc := 11) p129 k129_11 h1 ?_
    refine r_bipush (pc := 12) p129 k129_12 (v := (58 : Int32)) rfl ?_
    refine r_ic_eq (pc := 14) p129 k129_14 (fun c => ?_) (fun c => ?_)
    · have e := (if_pos c).symm.trans e
      exact t129_89 hn (mg s 22 x1) l x1 h0 h1 r e
    · have e := (if_neg c).symm.trans e
      refine r_iload_n (pc := 17) p129 k129_17 h1 ?_
      refine r_bipush (pc := 18) p129 k129_18 (v := (40 : Int32)) rfl ?_
      refine r_ic_eq (pc := 20) p129 k129_20 (fun c => ?_) (fun c => ?_)
      · have e := (if_pos c).symm.trans e
        exact t129_89 hn (mg s 22 x1) l x1 h0 h1 r e
      · have e := (if_neg c).symm.trans e
        refine r_iload_n (pc := 23) p129 k129_23 h1 ?_
        refine r_bipush (pc := 24) p129 k129_24 (v := (41 : Int32)) rfl ?_
        refine r_ic_eq (pc := 26) p129 k129_26 (fun c => ?_) (fun c => ?_)
        · have e := (if_pos c).symm.trans e
          exact t129_89 hn (mg s 22 x1) l x1 h0 h1 r e
        · have e := (if_neg c).symm.trans e
          refine r_iload_n (pc := 29) p129 k129_29 h1 ?_
          refine r_bipush (pc := 30) p129 k129_30 (v := (43 : Int32)) rfl ?_
          refine r_ic_eq (pc := 32) p129 k129_32 (fun c => ?_) (fun c => ?_)
          · have e := (if_pos c).symm.trans e
            exact t129_89 hn (mg s 22 x1) l x1 h0 h1 r e
          · have e := (if_neg c).symm.trans e
            refine r_iload_n (pc := 35) p129 k129_35 h1 ?_
            refine r_bipush (pc := 36) p129 k129_36 (v := (45 : Int32)) rfl ?_
            refine r_ic_eq (pc := 38) p129 k129_38 (fun c => ?_) (fun c => ?_)
            · have e := (if_pos c).symm.trans e
              exact t129_89 hn (mg s 22 x1) l x1 h0 h1 r e
            · have e := (if_neg c).symm.trans e
              refine r_iload_n (pc := 41) p129 k129_41 h1 ?_
              refine r_bipush (pc := 42) p129 k129_42 (v := (42 : Int32)) rfl ?_
              refine r_ic_eq (pc := 44) p129 k129_44 (fun c => ?_) (fun c => ?_)
              · have e := (if_pos c).symm.trans e
                exact t129_89 hn (mg s 22 x1) l x1 h0 h1 r e
              · have e := (if_neg c).symm.trans e
                refine r_iload_n (pc := 47) p129 k129_47 h1 ?_
                refine r_bipush (pc := 48) p129 k129_48 (v := (47 : Int32)) rfl ?_
                refine r_ic_eq (pc := 50) p129 k129_50 (fun c => ?_) (fun c => ?_)
                · have e := (if_pos c).symm.trans e
                  exact t129_89 hn (mg s 22 x1) l x1 h0 h1 r e
                · have e := (if_neg c).symm.trans e
                  refine r_iload_n (pc := 53) p129 k129_53 h1 ?_
                  refine r_bipush (pc := 54) p129 k129_54 (v := (37 : Int32)) rfl ?_
                  refine r_ic_eq (pc := 56) p129 k129_56 (fun c => ?_) (fun c => ?_)
                  · have e := (if_pos c).symm.trans e
                    exact t129_89 hn (mg s 22 x1) l x1 h0 h1 r e
                  · have e := (if_neg c).symm.trans e
                    refine r_iload_n (pc := 59) p129 k129_59 h1 ?_
                    refine r_bipush (pc := 60) p129 k129_60 (v := (38 : Int32)) rfl ?_
                    refine r_ic_eq (pc := 62) p129 k129_62 (fun c => ?_) (fun c => ?_)
                    · have e := (if_pos c).symm.trans e
                      exact t129_89 hn (mg s 22 x1) l x1 h0 h1 r e
                    · have e := (if_neg c).symm.trans e
                      refine r_iload_n (pc := 65) p129 k129_65 h1 ?_
                      refine r_bipush (pc := 66) p129 k129_66 (v := (124 : Int32)) rfl ?_
                      refine r_ic_eq (pc := 68) p129 k129_68 (fun c => ?_) (fun c => ?_)
                      · have e := (if_pos c).symm.trans e
                        exact t129_89 hn (mg s 22 x1) l x1 h0 h1 r e
                      · have e := (if_neg c).symm.trans e
                        refine r_iload_n (pc := 71) p129 k129_71 h1 ?_
                        refine r_bipush (pc := 72) p129 k129_72 (v := (94 : Int32)) rfl ?_
                        refine r_ic_eq (pc := 74) p129 k129_74 (fun c => ?_) (fun c => ?_)
                        · have e := (if_pos c).symm.trans e
                          exact t129_89 hn (mg s 22 x1) l x1 h0 h1 r e
                        · have e := (if_neg c).symm.trans e
                          refine r_iload_n (pc := 77) p129 k129_77 h1 ?_
                          refine r_bipush (pc := 78) p129 k129_78 (v := (126 : Int32)) rfl ?_
                          refine r_ic_eq (pc := 80) p129 k129_80 (fun c => ?_) (fun c => ?_)
                          · have e := (if_pos c).symm.trans e
                            exact t129_89 hn (mg s 22 x1) l x1 h0 h1 r e
                          · have e := (if_neg c).symm.trans e
                            refine r_iload_n (pc := 83) p129 k129_83 h1 ?_
                            refine r_bipush (pc := 84) p129 k129_84 (v := (46 : Int32)) rfl ?_
                            refine r_ic_ne (pc := 86) p129 k129_86 (fun c => ?_) (fun c => ?_)
                            · have e := (if_neg c).symm.trans e
                              refine r_iconst (pc := 93) p129 k129_93 (v := (0 : Int32)) rfl ?_
                              exact t129_94 hn (mg s 22 x1) l x1 (0 : Int32) h0 h1 r e
                            · have e := (if_pos c).symm.trans e
                              exact t129_89 hn (mg s 22 x1) l x1 h0 h1 r e

theorem p117 : ab_prog[117]? = some (ab_m117, ab_c117) := rfl
theorem k117_0 : ab_fetch ab_c117 0 = some (.aload_n 0, 1, 0, 0) := rfl
theorem k117_1 : ab_fetch ab_c117 1 = some (.invokevirtual 346, 3, 118, 0) := rfl
theorem k117_4 : ab_fetch ab_c117 4 = some (.aload_n 0, 1, 0, 0) := rfl
theorem k117_5 : ab_fetch ab_c117 5 = some (.aload_n 0, 1, 0, 0) := rfl
theorem k117_6 : ab_fetch ab_c117 6 = some (.getfield 322, 3, 6, 18) := rfl
theorem k117_9 : ab_fetch ab_c117 9 = some (.putfield 349, 3, 6, 21) := rfl
theorem k117_12 : ab_fetch ab_c117 12 = some (.aload_n 0, 1, 0, 0) := rfl
theorem k117_13 : ab_fetch ab_c117 13 = some (.iconst 0, 1, 0, 0) := rfl
theorem k117_14 : ab_fetch ab_c117 14 = some (.putfield 352, 3, 6, 22) := rfl
theorem k117_17 : ab_fetch ab_c117 17 = some (.aload_n 0, 1, 0, 0) := rfl
theorem k117_18 : ab_fetch ab_c117 18 = some (.iconst (-1), 1, 0, 0) := rfl
theorem k117_19 : ab_fetch ab_c117 19 = some (.putfield 339, 3, 6, 23) := rfl
theorem k117_22 : ab_fetch ab_c117 22 = some (.aload_n 0, 1, 0, 0) := rfl
theorem k117_23 : ab_fetch ab_c117 23 = some (.iconst 0, 1, 0, 0) := rfl
theorem k117_24 : ab_fetch ab_c117 24 = some (.invokevirtual 335, 3, 119, 1) := rfl
theorem k117_27 : ab_fetch ab_c117 27 = some (.istore_n 1, 1, 0, 0) := rfl
theorem k117_28 : ab_fetch ab_c117 28 = some (.aload_n 0, 1, 0, 0) := rfl
theorem k117_29 : ab_fetch ab_c117 29 = some (.aload_n 0, 1, 0, 0) := rfl
theorem k117_30 : ab_fetch ab_c117 30 = some (.getfield 322, 3, 6, 18) := rfl
theorem k117_33 : ab_fetch ab_c117 33 = some (.aload_n 0, 1, 0, 0) := rfl
theorem k117_34 : ab_fetch ab_c117 34 = some (.getfield 325, 3, 6, 17) := rfl
theorem k117_37 : ab_fetch ab_c117 37 = some (.if_icmp .eq 9, 3, 46, 0) := rfl
theorem k117_40 : ab_fetch ab_c117 40 = some (.iload_n 1, 1, 0, 0) := rfl
theorem k117_41 : ab_fetch ab_c117 41 = some (.bipush 35, 2, 0, 0) := rfl
theorem k117_43 : ab_fetch ab_c117 43 = some (.if_icmp .ne 7, 3, 50, 0) := rfl
theorem k117_46 : ab_fetch ab_c117 46 = some (.iconst 0, 1, 0, 0) := rfl
theorem k117_47 : ab_fetch ab_c117 47 = some (.goto 59, 3, 106, 0) := rfl
theorem k117_50 : ab_fetch ab_c117 50 = some (.iload_n 1, 1, 0, 0) := rfl
theorem k117_51 : ab_fetch ab_c117 51 = some (.invokestatic 328, 3, 120, 1) := rfl
theorem k117_54 : ab_fetch ab_c117 54 = some (.ifCond .eq 24, 3, 78, 0) := rfl
theorem k117_57 : ab_fetch ab_c117 57 = some (.iload_n 1, 1, 0, 0) := rfl
theorem k117_58 : ab_fetch ab_c117 58 = some (.bipush 46, 2, 0, 0) := rfl
theorem k117_60 : ab_fetch ab_c117 60 = some (.if_icmp .ne 14, 3, 74, 0) := rfl
theorem k117_63 : ab_fetch ab_c117 63 = some (.aload_n 0, 1, 0, 0) := rfl
theorem k117_64 : ab_fetch ab_c117 64 = some (.iconst 1, 1, 0, 0) := rfl
theorem k117_65 : ab_fetch ab_c117 65 = some (.invokevirtual 335, 3, 119, 1) := rfl
theorem k117_68 : ab_fetch ab_c117 68 = some (.invokestatic 355, 3, 121, 1) := rfl
theorem k117_71 : ab_fetch ab_c117 71 = some (.ifCond .eq 7, 3, 78, 0) := rfl
theorem k117_74 : ab_fetch ab_c117 74 = some (.iconst 1, 1, 0, 0) := rfl
theorem k117_75 : ab_fetch ab_c117 75 = some (.goto 31, 3, 106, 0) := rfl
theorem k117_78 : ab_fetch ab_c117 78 = some (.iload_n 1, 1, 0, 0) := rfl
theorem k117_79 : ab_fetch ab_c117 79 = some (.invokestatic 332, 3, 122, 1) := rfl
theorem k117_82 : ab_fetch ab_c117 82 = some (.ifCond .ne 9, 3, 91, 0) := rfl
theorem k117_85 : ab_fetch ab_c117 85 = some (.iload_n 1, 1, 0, 0) := rfl
theorem k117_86 : ab_fetch ab_c117 86 = some (.bipush 39, 2, 0, 0) := rfl
theorem k117_88 : ab_fetch ab_c117 88 = some (.if_icmp .ne 7, 3, 95, 0) := rfl
theorem k117_91 : ab_fetch ab_c117 91 = some (.iconst 2, 1, 0, 0) := rfl
theorem k117_92 : ab_fetch ab_c117 92 = some (.goto 14, 3, 106, 0) := rfl
theorem k117_95 : ab_fetch ab_c117 95 = some (.iload_n 1, 1, 0, 0) := rfl
theorem k117_96 : ab_fetch ab_c117 96 = some (.bipush 34, 2, 0, 0) := rfl
theorem k117_98 : ab_fetch ab_c117 98 = some (.if_icmp .ne 7, 3, 105, 0) := rfl
theorem k117_101 : ab_fetch ab_c117 101 = some (.iconst 3, 1, 0, 0) := rfl
theorem k117_102 : ab_fetch ab_c117 102 = some (.goto 4, 3, 106, 0) := rfl
theorem k117_105 : ab_fetch ab_c117 105 = some (.iconst 4, 1, 0, 0) := rfl
theorem k117_106 : ab_fetch ab_c117 106 = some (.putfield 358, 3, 6, 20) := rfl
theorem k117_109 : ab_fetch ab_c117 109 = some (.aload_n 0, 1, 0, 0) := rfl
theorem k117_110 : ab_fetch ab_c117 110 = some (.getfield 358, 3, 6, 20) := rfl
theorem k117_113 : ab_fetch ab_c117 113 = some (.iconst 1, 1, 0, 0) := rfl
theorem k117_114 : ab_fetch ab_c117 114 = some (.if_icmp .ne 27, 3, 141, 0) := rfl
theorem k117_117 : ab_fetch ab_c117 117 = some (.aload_n 0, 1, 0, 0) := rfl
theorem k117_118 : ab_fetch ab_c117 118 = some (.iconst 0, 1, 0, 0) := rfl
theorem k117_119 : ab_fetch ab_c117 119 = some (.invokevirtual 335, 3, 119, 1) := rfl
theorem k117_122 : ab_fetch ab_c117 122 = some (.invokestatic 355, 3, 121, 1) := rfl
theorem k117_125 : ab_fetch ab_c117 125 = some (.ifCond .eq 16, 3, 141, 0) := rfl
theorem k117_128 : ab_fetch ab_c117 128 = some (.aload_n 0, 1, 0, 0) := rfl
theorem k117_129 : ab_fetch ab_c117 129 = some (.dup, 1, 0, 0) := rfl
theorem k117_130 : ab_fetch ab_c117 130 = some (.getfield 322, 3, 6, 18) := rfl
theorem k117_133 : ab_fetch ab_c117 133 = some (.iconst 1, 1, 0, 0) := rfl
theorem k117_134 : ab_fetch ab_c117 134 = some (.iadd, 1, 0, 0) := rfl
theorem k117_135 : ab_fetch ab_c117 135 = some (.putfield 322, 3, 6, 18) := rfl
theorem k117_138 : ab_fetch ab_c117 138 = some (.goto (-29), 3, 109, 0) := rfl
theorem k117_141 : ab_fetch ab_c117 141 = some (.aload_n 0, 1, 0, 0) := rfl
theorem k117_142 : ab_fetch ab_c117 142 = some (.getfield 358, 3, 6, 20) := rfl
theorem k117_145 : ab_fetch ab_c117 145 = some (.iconst 1, 1, 0, 0) := rfl
theorem k117_146 : ab_fetch ab_c117 146 = some (.if_icmp .ne 28, 3, 174, 0) := rfl
theorem k117_149 : ab_fetch ab_c117 149 = some (.aload_n 0, 1, 0, 0) := rfl
theorem k117_150 : ab_fetch ab_c117 150 = some (.getfield 322, 3, 6, 18) := rfl
theorem k117_153 : ab_fetch ab_c117 153 = some (.aload_n 0, 1, 0, 0) := rfl
theorem k117_154 : ab_fetch ab_c117 154 = some (.getfield 349, 3, 6, 21) := rfl
theorem k117_157 : ab_fetch ab_c117 157 = some (.isub, 1, 0, 0) := rfl
theorem k117_158 : ab_fetch ab_c117 158 = some (.bipush 32, 2, 0, 0) := rfl
theorem k117_160 : ab_fetch ab_c117 160 = some (.if_icmp .le 14, 3, 174, 0) := rfl
theorem k117_163 : ab_fetch ab_c117 163 = some (.aload_n 0, 1, 0, 0) := rfl
theorem k117_164 : ab_fetch ab_c117 164 = some (.aload_n 0, 1, 0, 0) := rfl
theorem k117_165 : ab_fetch ab_c117 165 = some (.getfield 349, 3, 6, 21) := rfl
theorem k117_168 : ab_fetch ab_c117 168 = some (.bipush 32, 2, 0, 0) := rfl
theorem k117_170 : ab_fetch ab_c117 170 = some (.iadd, 1, 0, 0) := rfl
theorem k117_171 : ab_fetch ab_c117 171 = some (.invokevirtual 361, 3, 123, 1) := rfl
theorem k117_174 : ab_fetch ab_c117 174 = some (.iload_n 1, 1, 0, 0) := rfl
theorem k117_175 : ab_fetch ab_c117 175 = some (.invokestatic 332, 3, 122, 1) := rfl
theorem k117_178 : ab_fetch ab_c117 178 = some (.ifCond .eq 7, 3, 185, 0) := rfl
theorem k117_181 : ab_fetch ab_c117 181 = some (.aload_n 0, 1, 0, 0) := rfl
theorem k117_182 : ab_fetch ab_c117 182 = some (.invokevirtual 365, 3, 124, 0) := rfl
theorem k117_185 : ab_fetch ab_c117 185 = some (.iload_n 1, 1, 0, 0) := rfl
theorem k117_186 : ab_fetch ab_c117 186 = some (.bipush 39, 2, 0, 0) := rfl
theorem k117_188 : ab_fetch ab_c117 188 = some (.if_icmp .ne 7, 3, 195, 0) := rfl
theorem k117_191 : ab_fetch ab_c117 191 = some (.aload_n 0, 1, 0, 0) := rfl
theorem k117_192 : ab_fetch ab_c117 192 = some (.invokevirtual 368, 3, 126, 0) := rfl
theorem k117_195 : ab_fetch ab_c117 195 = some (.aload_n 0, 1, 0, 0) := rfl
theorem k117_196 : ab_fetch ab_c117 196 = some (.getfield 358, 3, 6, 20) := rfl
theorem k117_199 : ab_fetch ab_c117 199 = some (.iconst 3, 1, 0, 0) := rfl
theorem k117_200 : ab_fetch ab_c117 200 = some (.if_icmp .ne 7, 3, 207, 0) := rfl
theorem k117_203 : ab_fetch ab_c117 203 = some (.aload_n 0, 1, 0, 0) := rfl
theorem k117_204 : ab_fetch ab_c117 204 = some (.invokevirtual 371, 3, 128, 0) := rfl
theorem k117_207 : ab_fetch ab_c117 207 = some (.aload_n 0, 1, 0, 0) := rfl
theorem k117_208 : ab_fetch ab_c117 208 = some (.getfield 358, 3, 6, 20) := rfl
theorem k117_211 : ab_fetch ab_c117 211 = some (.iconst 4, 1, 0, 0) := rfl
theorem k117_212 : ab_fetch ab_c117 212 = some (.if_icmp .ne 8, 3, 220, 0) := rfl
theorem k117_215 : ab_fetch ab_c117 215 = some (.aload_n 0, 1, 0, 0) := rfl
theorem k117_216 : ab_fetch ab_c117 216 = some (.iload_n 1, 1, 0, 0) := rfl
theorem k117_217 : ab_fetch ab_c117 217 = some (.invokevirtual 373, 3, 129, 1) := rfl
theorem k117_220 : ab_fetch ab_c117 220 = some (.return_, 1, 0, 0) := rfl
/- CodeSmithModel next()V -/
def f117_207 (s : mS) (x1 : Int32) : Option mS := (if (s.1 20) = (4 : Int32) then ((f129 s x1).bind fun r1 => some r1) else some s)
theorem t117_207 {d n : Nat} {Z : Nat → ab_C} (hn : 42 ≤ n) : ∀ (s : mS) (l : ab_L) (x1 : Int32) (h0 : ab_get l 0 = some (.ref 22)) (h1 : ab_get l 1 = some (.int x1)) (r : mS) (e : f117_207 s x1 = some r), ab_Rn (d + 3) 117 207 l [] (ab_hl n (mm_F s Z)) (.inl none) (ab_hl n (mm_F r Z)) := by
  intro s l x1 h0 h1 r e
  unfold f117_207 at e
  refine r_aload_n (pc := 207) p117 k117_207 h0 ?_
  refine m_get hn (pc := 208) p117 k117_208 (v := .int (s.1 20)) rfl ?_
  refine r_iconst (pc := 211) p117 k117_211 (v := (4 : Int32)) rfl ?_
  refine r_ic_ne (pc := 212) p117 k117_212 (fun c => ?_) (fun c => ?_)
  · have e := (if_neg c).symm.trans e
    cases e
    exact r_retV (pc := 220) p117 k117_220 rfl
  · have e := (if_pos c).symm.trans e
    refine r_aload_n (pc := 215) p117 k117_215 h0 ?_
    refine r_iload_n (pc := 216) p117 k117_216 h1 ?_
    obtain ⟨r1, er1, e⟩ := of_bind e
    refine m_cv hn (pc := 217) p117 k117_217 rfl p129 (r := []) rfl rfl rfl rfl rfl (t129 hn s x1 r1 er1) (w := []) rfl ?_
    cases e
    exact r_retV (pc := 220) p117 k117_220 rfl
def f117_195 (s : mS) (x1 : Int32) : Option mS := (if (s.1 20) = (3 : Int32) then ((f128 s).bind fun r1 => f117_207 r1 x1) else f117_207 s x1)
theorem t117_195 {d n : Nat} {Z : Nat → ab_C} (hn : 42 ≤ n) : ∀ (s : mS) (l : ab_L) (x1 : Int32) (h0 : ab_get l 0 = some (.ref 22)) (h1 : ab_get l 1 = some (.int x1)) (r : mS) (e : f117_195 s x1 = some r), ab_Rn (d + 3) 117 195 l [] (ab_hl n (mm_F s Z)) (.inl none) (ab_hl n (mm_F r Z)) := by
  intro s l x1 h0 h1 r e
  unfold f117_195 at e
  refine r_aload_n (pc := 195) p117 k117_195 h0 ?_
  refine m_get hn (pc := 196) p117 k117_196 (v := .int (s.1 20)) rfl ?_
  refine r_iconst (pc := 199) p117 k117_199 (v := (3 : Int32)) rfl ?_
  refine r_ic_ne (pc := 200) p117 k117_200 (fun c => ?_) (fun c => ?_)
  · have e := (if_neg c).symm.trans e
    exact t117_207 hn s l x1 h0 h1 r e
  · have e := (if_pos c).symm.trans e
    refine r_aload_n (pc := 203) p117 k117_203 h0 ?_
    obtain ⟨r1, er1, e⟩ := of_bind e
    refine m_cv hn (pc := 204) p117 k117_204 rfl p128 (r := []) rfl rfl rfl rfl rfl (t128 hn s r1 er1) (w := []) rfl ?_
    exact t117_207 hn r1 l x1 h0 h1 r e
def f117_185 (s : mS) (x1 : Int32) : Option mS := (if x1 = (39 : Int32) then ((f126 s).bind fun r1 => f117_195 r1 x1) else f117_195 s x1)
theorem t117_185 {d n : Nat} {Z : Nat → ab_C} (hn : 42 ≤ n) : ∀ (s : mS) (l : ab_L) (x1 : Int32) (h0 : ab_get l 0 = some (.ref 22)) (h1 : ab_get l 1 = some (.int x1)) (r : mS) (e : f117_185 s x1 = some r), ab_Rn (d + 3) 117 185 l [] (ab_hl n (mm_F s Z)) (.inl none) (ab_hl n (mm_F r Z)) := by
  intro s l x1 h0 h1 r e
  unfold f117_185 at e
  refine r_iload_n (pc := 185) p117 k117_185 h1 ?_
  refine r_bipush (pc := 186) p117 k117_186 (v := (39 : Int32)) rfl ?_
  refine r_ic_ne (pc := 188) p117 k117_188 (fun c => ?_) (fun c => ?_)
  · have e := (if_neg c).symm.trans e
    exact t117_195 hn s l x1 h0 h1 r e
  · have e := (if_pos c).symm.trans e
    refine r_aload_n (pc := 191) p117 k117_191 h0 ?_
    obtain ⟨r1, er1, e⟩ := of_bind e
    refine m_cv hn (pc := 192) p117 k117_192 rfl p126 (r := []) rfl rfl rfl rfl rfl (t126 hn s r1 er1) (w := []) rfl ?_
    exact t117_195 hn r1 l x1 h0 h1 r e
def f117_174 (s : mS) (x1 : Int32) : Option mS := (if (f122 x1) = 0 then f117_185 s x1 else ((f124 s).bind fun r1 => f117_185 r1 x1))
theorem t117_174 {d n : Nat} {Z : Nat → ab_C} (hn : 42 ≤ n) : ∀ (s : mS) (l : ab_L) (x1 : Int32) (h0 : ab_get l 0 = some (.ref 22)) (h1 : ab_get l 1 = some (.int x1)) (r : mS) (e : f117_174 s x1 = some r), ab_Rn (d + 3) 117 174 l [] (ab_hl n (mm_F s Z)) (.inl none) (ab_hl n (mm_F r Z)) := by
  intro s l x1 h0 h1 r e
  unfold f117_174 at e
  refine r_iload_n (pc := 174) p117 k117_174 h1 ?_
  refine r_csv (pc := 175) p117 k117_175 rfl rfl p122 (r := []) rfl rfl rfl rfl (t122 x1 _ rfl) (w := [.int (f122 x1)]) rfl ?_
  refine r_if_eq (pc := 178) p117 k117_178 (fun c => ?_) (fun c => ?_)
  · have e := (if_pos c).symm.trans e
    exact t117_185 hn s l x1 h0 h1 r e
  · have e := (if_neg c).symm.trans e
    refine r_aload_n (pc := 181) p117 k117_181 h0 ?_
    obtain ⟨r1, er1, e⟩ := of_bind e
    refine m_cv hn (pc := 182) p117 k117_182 rfl p124 (r := []) rfl rfl rfl rfl rfl (t124 hn s r1 er1) (w := []) rfl ?_
    exact t117_185 hn r1 l x1 h0 h1 r e
def f117_141 (s : mS) (x1 : Int32) : Option mS := (if (s.1 20) = (1 : Int32) then (if ((s.1 18) - (s.1 21)) ≤ (32 : Int32) then f117_174 s x1 else ((f123 s ((s.1 21) + (32 : Int32))).bind fun r1 => f117_174 r1 x1)) else f117_174 s x1)
theorem t117_141 {d n : Nat} {Z : Nat → ab_C} (hn : 42 ≤ n) : ∀ (s : mS) (l : ab_L) (x1 : Int32) (h0 : ab_get l 0 = some (.ref 22)) (h1 : ab_get l 1 = some (.int x1)) (r : mS) (e : f117_141 s x1 = some r), ab_Rn (d + 3) 117 141 l [] (ab_hl n (mm_F s Z)) (.inl none) (ab_hl n (mm_F r Z)) := by
  intro s l x1 h0 h1 r e
  unfold f117_141 at e
  refine r_aload_n (pc := 141) p117 k117_141 h0 ?_
  refine m_get hn (pc := 142) p117 k117_142 (v := .int (s.1 20)) rfl ?_
  refine r_iconst (pc := 145) p117 k117_145 (v := (1 : Int32)) rfl ?_
  refine r_ic_ne (pc := 146) p117 k117_146 (fun c => ?_) (fun c => ?_)
  · have e := (if_neg c).symm.trans e
    exact t117_174 hn s l x1 h0 h1 r e
  · have e := (if_pos c).symm.trans e
    refine r_aload_n (pc := 149) p117 k117_149 h0 ?_
    refine m_get hn (pc := 150) p117 k117_150 (v := .int (s.1 18)) rfl ?_
    refine r_aload_n (pc := 153) p117 k117_153 h0 ?_
    refine m_get hn (pc := 154) p117 k117_154 (v := .int (s.1 21)) rfl ?_
    refine r_isub (pc := 157) p117 k117_157 ?_
    refine r_bipush (pc := 158) p117 k117_158 (v := (32 : Int32)) rfl ?_
    refine r_ic_le (pc := 160) p117 k117_160 (fun c => ?_) (fun c => ?_)
    · have e := (if_pos c).symm.trans e
      exact t117_174 hn s l x1 h0 h1 r e
    · have e := (if_neg c).symm.trans e
      refine r_aload_n (pc := 163) p117 k117_163 h0 ?_
      refine r_aload_n (pc := 164) p117 k117_164 h0 ?_
      refine m_get hn (pc := 165) p117 k117_165 (v := .int (s.1 21)) rfl ?_
      refine r_bipush (pc := 168) p117 k117_168 (v := (32 : Int32)) rfl ?_
      refine r_iadd (pc := 170) p117 k117_170 ?_
      obtain ⟨r1, er1, e⟩ := of_bind e
      refine m_cv hn (pc := 171) p117 k117_171 rfl p123 (r := []) rfl rfl rfl rfl rfl (t123 hn s ((s.1 21) + (32 : Int32)) r1 er1) (w := []) rfl ?_
      exact t117_174 hn r1 l x1 h0 h1 r e
def f117_109 : Nat → mS → Int32 → Option mS
  | 0, _, _ => none
  | u + 1, s, x1 => (if (s.1 20) = (1 : Int32) then ((f119 s (0 : Int32)).bind fun r1 => (if (f121 r1) = 0 then f117_141 s x1 else f117_109 u (mg s 18 ((s.1 18) + (1 : Int32))) x1)) else f117_141 s x1)
theorem t117_109 {d n : Nat} {Z : Nat → ab_C} (hn : 42 ≤ n) : ∀ u : Nat, ∀ (s : mS) (l : ab_L) (x1 : Int32) (h0 : ab_get l 0 = some (.ref 22)) (h1 : ab_get l 1 = some (.int x1)) (r : mS) (e : f117_109 u s x1 = some r), ab_Rn (d + 3) 117 109 l [] (ab_hl n (mm_F s Z)) (.inl none) (ab_hl n (mm_F r Z)) := by
  intro u
  induction u with
  | zero => intro s l x1 h0 h1 r e; rw [f117_109] at e; cases e
  | succ u ih =>
    intro s l x1 h0 h1 r e
    rw [f117_109] at e
    refine r_aload_n (pc := 109) p117 k117_109 h0 ?_
    refine m_get hn (pc := 110) p117 k117_110 (v := .int (s.1 20)) rfl ?_
    refine r_iconst (pc := 113) p117 k117_113 (v := (1 : Int32)) rfl ?_
    refine r_ic_ne (pc := 114) p117 k117_114 (fun c => ?_) (fun c => ?_)
    · have e := (if_neg c).symm.trans e
      exact t117_141 hn s l x1 h0 h1 r e
    · have e := (if_pos c).symm.trans e
      refine r_aload_n (pc := 117) p117 k117_117 h0 ?_
      refine r_iconst (pc := 118) p117 k117_118 (v := (0 : Int32)) rfl ?_
      obtain ⟨r1, er1, e⟩ := of_bind e
      refine m_cv hn (pc := 119) p117 k117_119 rfl p119 (r := []) rfl rfl rfl rfl rfl (t119 hn s (0 : Int32) r1 er1) (w := [.int r1]) rfl ?_
      refine r_csv (pc := 122) p117 k117_122 rfl rfl p121 (r := []) rfl rfl rfl rfl (t121 r1 _ rfl) (w := [.int (f121 r1)]) rfl ?_
      refine r_if_eq (pc := 125) p117 k117_125 (fun c => ?_) (fun c => ?_)
      · have e := (if_pos c).symm.trans e
        exact t117_141 hn s l x1 h0 h1 r e
      · have e := (if_neg c).symm.trans e
        refine r_aload_n (pc := 128) p117 k117_128 h0 ?_
        refine r_dup (pc := 129) p117 k117_129 rfl ?_
        refine m_get hn (pc := 130) p117 k117_130 (v := .int (s.1 18)) rfl ?_
        refine r_iconst (pc := 133) p117 k117_133 (v := (1 : Int32)) rfl ?_
        refine r_iadd (pc := 134) p117 k117_134 ?_
        refine m_put hn (pc := 135) p117 k117_135 rfl rfl rfl rfl ?_
        refine r_goto (pc := 138) p117 k117_138 ?_
        exact ih (mg s 18 ((s.1 18) + (1 : Int32))) l x1 h0 h1 r e
def f117_106 (s : mS) (x1 : Int32) (y0 : Int32) : Option mS := f117_109 mm_U (mg s 20 y0) x1
theorem t117_106 {d n : Nat} {Z : Nat → ab_C} (hn : 42 ≤ n) : ∀ (s : mS) (l : ab_L) (x1 : Int32) (y0 : Int32) (h0 : ab_get l 0 = some (.ref 22)) (h1 : ab_get l 1 = some (.int x1)) (r : mS) (e : f117_106 s x1 y0 = some r), ab_Rn (d + 3) 117 106 l [.int y0, .ref 22] (ab_hl n (mm_F s Z)) (.inl none) (ab_hl n (mm_F r Z)) := by
  intro s l x1 y0 h0 h1 r e
  unfold f117_106 at e
  refine m_put hn (pc := 106) p117 k117_106 rfl rfl rfl rfl ?_
  exact t117_109 hn mm_U (mg s 20 y0) l x1 h0 h1 r e
def f117_46 (s : mS) (x1 : Int32) : Option mS := f117_106 s x1 (0 : Int32)
theorem t117_46 {d n : Nat} {Z : Nat → ab_C} (hn : 42 ≤ n) : ∀ (s : mS) (l : ab_L) (x1 : Int32) (h0 : ab_get l 0 = some (.ref 22)) (h1 : ab_get l 1 = some (.int x1)) (r : mS) (e : f117_46 s x1 = some r), ab_Rn (d + 3) 117 46 l [.ref 22] (ab_hl n (mm_F s Z)) (.inl none) (ab_hl n (mm_F r Z)) := by
  intro s l x1 h0 h1 r e
  unfold f117_46 at e
  refine r_iconst (pc := 46) p117 k117_46 (v := (0 : Int32)) rfl ?_
  refine r_goto (pc := 47) p117 k117_47 ?_
  exact t117_106 hn s l x1 (0 : Int32) h0 h1 r e
def f117_91 (s : mS) (x1 : Int32) : Option mS := f117_106 s x1 (2 : Int32)
theorem t117_91 {d n : Nat} {Z : Nat → ab_C} (hn : 42 ≤ n) : ∀ (s : mS) (l : ab_L) (x1 : Int32) (h0 : ab_get l 0 = some (.ref 22)) (h1 : ab_get l 1 = some (.int x1)) (r : mS) (e : f117_91 s x1 = some r), ab_Rn (d + 3) 117 91 l [.ref 22] (ab_hl n (mm_F s Z)) (.inl none) (ab_hl n (mm_F r Z)) := by
  intro s l x1 h0 h1 r e
  unfold f117_91 at e
  refine r_iconst (pc := 91) p117 k117_91 (v := (2 : Int32)) rfl ?_
  refine r_goto (pc := 92) p117 k117_92 ?_
  exact t117_106 hn s l x1 (2 : Int32) h0 h1 r e
def f117_78 (s : mS) (x1 : Int32) : Option mS := (if (f122 x1) = 0 then (if x1 = (39 : Int32) then f117_91 s x1 else (if x1 = (34 : Int32) then f117_106 s x1 (3 : Int32) else f117_106 s x1 (4 : Int32))) else f117_91 s x1)
theorem t117_78 {d n : Nat} {Z : Nat → ab_C} (hn : 42 ≤ n) : ∀ (s : mS) (l : ab_L) (x1 : Int32) (h0 : ab_get l 0 = some (.ref 22)) (h1 : ab_get l 1 = some (.int x1)) (r : mS) (e : f117_78 s x1 = some r), ab_Rn (d + 3) 117 78 l [.ref 22] (ab_hl n (mm_F s Z)) (.inl none) (ab_hl n (mm_F r Z)) := by
  intro s l x1 h0 h1 r e
  unfold f117_78 at e
  refine r_iload_n (pc := 78) p117 k117_78 h1 ?_
  refine r_csv (pc := 79) p117 k117_79 rfl rfl p122 (r := [.ref 22]) rfl rfl rfl rfl (t122 x1 _ rfl) (w := [.int (f122 x1), .ref 22]) rfl ?_
  refine r_if_ne (pc := 82) p117 k117_82 (fun c => ?_) (fun c => ?_)
  · have e := (if_neg c).symm.trans e
    exact t117_91 hn s l x1 h0 h1 r e
  · have e := (if_pos c).symm.trans e
    refine r_iload_n (pc := 85) p117 k117_85 h1 ?_
    refine r_bipush (pc := 86) p117 k117_86 (v := (39 : Int32)) rfl ?_
    refine r_ic_ne (pc := 88) p117 k117_88 (fun c => ?_) (fun c => ?_)
    · have e := (if_neg c).symm.trans e
      refine r_iload_n (pc := 95) p117 k117_95 h1 ?_
      refine r_bipush (pc := 96) p117 k117_96 (v := (34 : Int32)) rfl ?_
      refine r_ic_ne (pc := 98) p117 k117_98 (fun c => ?_) (fun c => ?_)
      · have e := (if_neg c).symm.trans e
        refine r_iconst (pc := 105) p117 k117_105 (v := (4 : Int32)) rfl ?_
        exact t117_106 hn s l x1 (4 : Int32) h0 h1 r e
      · have e := (if_pos c).symm.trans e
        refine r_iconst (pc := 101) p117 k117_101 (v := (3 : Int32)) rfl ?_
        refine r_goto (pc := 102) p117 k117_102 ?_
        exact t117_106 hn s l x1 (3 : Int32) h0 h1 r e
    · have e := (if_pos c).symm.trans e
      exact t117_91 hn s l x1 h0 h1 r e
def f117_74 (s : mS) (x1 : Int32) : Option mS := f117_106 s x1 (1 : Int32)
theorem t117_74 {d n : Nat} {Z : Nat → ab_C} (hn : 42 ≤ n) : ∀ (s : mS) (l : ab_L) (x1 : Int32) (h0 : ab_get l 0 = some (.ref 22)) (h1 : ab_get l 1 = some (.int x1)) (r : mS) (e : f117_74 s x1 = some r), ab_Rn (d + 3) 117 74 l [.ref 22] (ab_hl n (mm_F s Z)) (.inl none) (ab_hl n (mm_F r Z)) := by
  intro s l x1 h0 h1 r e
  unfold f117_74 at e
  refine r_iconst (pc := 74) p117 k117_74 (v := (1 : Int32)) rfl ?_
  refine r_goto (pc := 75) p117 k117_75 ?_
  exact t117_106 hn s l x1 (1 : Int32) h0 h1 r e
def f117 (s : mS) : Option mS := ((f118 s).bind fun r1 => ((f119 (mg (mg (mg r1 21 (r1.1 18)) 22 (0 : Int32)) 23 (-1 : Int32)) (0 : Int32)).bind fun r2 => (if (r1.1 18) = (r1.1 17) then f117_46 (mg (mg (mg r1 21 (r1.1 18)) 22 (0 : Int32)) 23 (-1 : Int32)) r2 else (if r2 = (35 : Int32) then f117_46 (mg (mg (mg r1 21 (r1.1 18)) 22 (0 : Int32)) 23 (-1 : Int32)) r2 else (if (f120 r2) = 0 then f117_78 (mg (mg (mg r1 21 (r1.1 18)) 22 (0 : Int32)) 23 (-1 : Int32)) r2 else (if r2 = (46 : Int32) then ((f119 (mg (mg (mg r1 21 (r1.1 18)) 22 (0 : Int32)) 23 (-1 : Int32)) (1 : Int32)).bind fun r3 => (if (f121 r3) = 0 then f117_78 (mg (mg (mg r1 21 (r1.1 18)) 22 (0 : Int32)) 23 (-1 : Int32)) r2 else f117_74 (mg (mg (mg r1 21 (r1.1 18)) 22 (0 : Int32)) 23 (-1 : Int32)) r2)) else f117_74 (mg (mg (mg r1 21 (r1.1 18)) 22 (0 : Int32)) 23 (-1 : Int32)) r2))))))
theorem t117 {d n : Nat} {Z : Nat → ab_C} (hn : 42 ≤ n) (s : mS) (r : mS) (e : f117 s = some r) : ab_Rn (d + 3) 117 0 (lv_args 0 [.ref 22]) [] (ab_hl n (mm_F s Z)) (.inl none) (ab_hl n (mm_F r Z)) := by
  unfold f117 at e
  obtain ⟨l, hl⟩ : ∃ l, l = (lv_args 0 [.ref 22]) := ⟨_, rfl⟩
  rw [← hl]
  have h0 : ab_get l 0 = some (.ref 22) := by rw [hl]; rfl
  refine r_aload_n (pc := 0) p117 k117_0 h0 ?_
  obtain ⟨r1, er1, e⟩ := of_bind e
  refine m_cv hn (pc := 1) p117 k117_1 rfl p118 (r := []) rfl rfl rfl rfl rfl (t118 hn s r1 er1) (w := []) rfl ?_
  refine r_aload_n (pc := 4) p117 k117_4 h0 ?_
  refine r_aload_n (pc := 5) p117 k117_5 h0 ?_
  refine m_get hn (pc := 6) p117 k117_6 (v := .int (r1.1 18)) rfl ?_
  refine m_put hn (pc := 9) p117 k117_9 rfl rfl rfl rfl ?_
  refine r_aload_n (pc := 12) p117 k117_12 h0 ?_
  refine r_iconst (pc := 13) p117 k117_13 (v := (0 : Int32)) rfl ?_
  refine m_put hn (pc := 14) p117 k117_14 rfl rfl rfl rfl ?_
  refine r_aload_n (pc := 17) p117 k117_17 h0 ?_
  refine r_iconst (pc := 18) p117 k117_18 (v := (-1 : Int32)) rfl ?_
  refine m_put hn (pc := 19) p117 k117_19 rfl rfl rfl rfl ?_
  refine r_aload_n (pc := 22) p117 k117_22 h0 ?_
  refine r_iconst (pc := 23) p117 k117_23 (v := (0 : Int32)) rfl ?_
  obtain ⟨r2, er2, e⟩ := of_bind e
  refine m_cv hn (pc := 24) p117 k117_24 rfl p119 (r := []) rfl rfl rfl rfl rfl (t119 hn (mg (mg (mg r1 21 (r1.1 18)) 22 (0 : Int32)) 23 (-1 : Int32)) (0 : Int32) r2 er2) (w := [.int r2]) rfl ?_
  refine r_istore_n (pc := 27) p117 k117_27 (by decide) (fun l g h1 => ?_)
  have h0 := g 0 _ (by decide) h0 (Or.inl rfl)
  refine r_aload_n (pc := 28) p117 k117_28 h0 ?_
  refine r_aload_n (pc := 29) p117 k117_29 h0 ?_
  refine m_get hn (pc := 30) p117 k117_30 (v := .int (r1.1 18)) rfl ?_
  refine r_aload_n (pc := 33) p117 k117_33 h0 ?_
  refine m_get hn (pc := 34) p117 k117_34 (v := .int (r1.1 17)) rfl ?_
  refine r_ic_eq (pc := 37) p117 k117_37 (fun c => ?_) (fun c => ?_)
  · have e := (if_pos c).symm.trans e
    exact t117_46 hn (mg (mg (mg r1 21 (r1.1 18)) 22 (0 : Int32)) 23 (-1 : Int32)) l r2 h0 h1 r e
  · have e := (if_neg c).symm.trans e
    refine r_iload_n (pc := 40) p117 k117_40 h1 ?_
    refine r_bipush (pc := 41) p117 k117_41 (v := (35 : Int32)) rfl ?_
    refine r_ic_ne (pc := 43) p117 k117_43 (fun c => ?_) (fun c => ?_)
    · have e := (if_neg c).symm.trans e
      refine r_iload_n (pc := 50) p117 k117_50 h1 ?_
      refine r_csv (pc := 51) p117 k117_51 rfl rfl p120 (r := [.ref 22]) rfl rfl rfl rfl (t120 r2 _ rfl) (w := [.int (f120 r2), .ref 22]) rfl ?_
      refine r_if_eq (pc := 54) p117 k117_54 (fun c => ?_) (fun c => ?_)
      · have e := (if_pos c).symm.trans e
        exact t117_78 hn (mg (mg (mg r1 21 (r1.1 18)) 22 (0 : Int32)) 23 (-1 : Int32)) l r2 h0 h1 r e
      · have e := (if_neg c).symm.trans e
        refine r_iload_n (pc := 57) p117 k117_57 h1 ?_
        refine r_bipush (pc := 58) p117 k117_58 (v := (46 : Int32)) rfl ?_
        refine r_ic_ne (pc := 60) p117 k117_60 (fun c => ?_) (fun c => ?_)
        · have e := (if_neg c).symm.trans e
          exact t117_74 hn (mg (mg (mg r1 21 (r1.1 18)) 22 (0 : Int32)) 23 (-1 : Int32)) l r2 h0 h1 r e
        · have e := (if_pos c).symm.trans e
          refine r_aload_n (pc := 63) p117 k117_63 h0 ?_
          refine r_iconst (pc := 64) p117 k117_64 (v := (1 : Int32)) rfl ?_
          obtain ⟨r3, er3, e⟩ := of_bind e
          refine m_cv hn (pc := 65) p117 k117_65 rfl p119 (r := [.ref 22]) rfl rfl rfl rfl rfl (t119 hn (mg (mg (mg r1 21 (r1.1 18)) 22 (0 : Int32)) 23 (-1 : Int32)) (1 : Int32) r3 er3) (w := [.int r3, .ref 22]) rfl ?_
          refine r_csv (pc := 68) p117 k117_68 rfl rfl p121 (r := [.ref 22]) rfl rfl rfl rfl (t121 r3 _ rfl) (w := [.int (f121 r3), .ref 22]) rfl ?_
          refine r_if_eq (pc := 71) p117 k117_71 (fun c => ?_) (fun c => ?_)
          · have e := (if_pos c).symm.trans e
            exact t117_78 hn (mg (mg (mg r1 21 (r1.1 18)) 22 (0 : Int32)) 23 (-1 : Int32)) l r2 h0 h1 r e
          · have e := (if_neg c).symm.trans e
            exact t117_74 hn (mg (mg (mg r1 21 (r1.1 18)) 22 (0 : Int32)) 23 (-1 : Int32)) l r2 h0 h1 r e
    · have e := (if_pos c).symm.trans e
      exact t117_46 hn (mg (mg (mg r1 21 (r1.1 18)) 22 (0 : Int32)) 23 (-1 : Int32)) l r2 h0 h1 r e

theorem p131 : ab_prog[131]? = some (ab_m131, ab_c131) := rfl
theorem k131_0 : ab_fetch ab_c131 0 = some (.aload_n 0, 1, 0, 0) := rfl
theorem k131_1 : ab_fetch ab_c131 1 = some (.getfield 307, 3, 6, 11) := rfl
theorem k131_4 : ab_fetch ab_c131 4 = some (.ifCond .ne 26, 3, 30, 0) := rfl
theorem k131_7 : ab_fetch ab_c131 7 = some (.aload_n 0, 1, 0, 0) := rfl
theorem k131_8 : ab_fetch ab_c131 8 = some (.iload_n 1, 1, 0, 0) := rfl
theorem k131_9 : ab_fetch ab_c131 9 = some (.putfield 307, 3, 6, 11) := rfl
theorem k131_12 : ab_fetch ab_c131 12 = some (.aload_n 0, 1, 0, 0) := rfl
theorem k131_13 : ab_fetch ab_c131 13 = some (.iload_n 2, 1, 0, 0) := rfl
theorem k131_14 : ab_fetch ab_c131 14 = some (.aload_n 0, 1, 0, 0) := rfl
theorem k131_15 : ab_fetch ab_c131 15 = some (.getfield 310, 3, 6, 16) := rfl
theorem k131_18 : ab_fetch ab_c131 18 = some (.isub, 1, 0, 0) := rfl
theorem k131_19 : ab_fetch ab_c131 19 = some (.putfield 313, 3, 6, 12) := rfl
theorem k131_22 : ab_fetch ab_c131 22 = some (.aload_n 0, 1, 0, 0) := rfl
theorem k131_23 : ab_fetch ab_c131 23 = some (.aload_n 0, 1, 0, 0) := rfl
theorem k131_24 : ab_fetch ab_c131 24 = some (.getfield 316, 3, 6, 15) := rfl
theorem k131_27 : ab_fetch ab_c131 27 = some (.putfield 319, 3, 6, 13) := rfl
theorem k131_30 : ab_fetch ab_c131 30 = some (.return_, 1, 0, 0) := rfl
/- CodeSmithModel fail(II)V -/
def f131 (s : mS) (x1 : Int32) (x2 : Int32) : Option mS := (if (s.1 11) = 0 then some (mg (mg (mg s 11 x1) 12 (x2 - (s.1 16))) 13 (s.1 15)) else some s)
theorem t131 {d n : Nat} {Z : Nat → ab_C} (hn : 42 ≤ n) (s : mS) (x1 : Int32) (x2 : Int32) (r : mS) (e : f131 s x1 x2 = some r) : ab_Rn d 131 0 (lv_args 0 [.ref 22, .int x1, .int x2]) [] (ab_hl n (mm_F s Z)) (.inl none) (ab_hl n (mm_F r Z)) := by
  unfold f131 at e
  obtain ⟨l, hl⟩ : ∃ l, l = (lv_args 0 [.ref 22, .int x1, .int x2]) := ⟨_, rfl⟩
  rw [← hl]
  have h0 : ab_get l 0 = some (.ref 22) := by rw [hl]; rfl
  have h1 : ab_get l 1 = some (.int x1) := by rw [hl]; rfl
  have h2 : ab_get l 2 = some (.int x2) := by rw [hl]; rfl
  refine r_aload_n (pc := 0) p131 k131_0 h0 ?_
  refine m_get hn (pc := 1) p131 k131_1 (v := .int (s.1 11)) rfl ?_
  refine r_if_ne (pc := 4) p131 k131_4 (fun c => ?_) (fun c => ?_)
  · have e := (if_neg c).symm.trans e
    cases e
    exact r_retV (pc := 30) p131 k131_30 rfl
  · have e := (if_pos c).symm.trans e
    refine r_aload_n (pc := 7) p131 k131_7 h0 ?_
    refine r_iload_n (pc := 8) p131 k131_8 h1 ?_
    refine m_put hn (pc := 9) p131 k131_9 rfl rfl rfl rfl ?_
    refine r_aload_n (pc := 12) p131 k131_12 h0 ?_
    refine r_iload_n (pc := 13) p131 k131_13 h2 ?_
    refine r_aload_n (pc := 14) p131 k131_14 h0 ?_
    refine m_get hn (pc := 15) p131 k131_15 (v := .int (s.1 16)) rfl ?_
    refine r_isub (pc := 18) p131 k131_18 ?_
    refine m_put hn (pc := 19) p131 k131_19 rfl rfl rfl rfl ?_
    refine r_aload_n (pc := 22) p131 k131_22 h0 ?_
    refine r_aload_n (pc := 23) p131 k131_23 h0 ?_
    refine m_get hn (pc := 24) p131 k131_24 (v := .int (s.1 15)) rfl ?_
    refine m_put hn (pc := 27) p131 k131_27 rfl rfl rfl rfl ?_
    cases e
    exact r_retV (pc := 30) p131 k131_30 rfl

theorem p130 : ab_prog[130]? = some (ab_m130, ab_c130) := rfl
theorem k130_0 : ab_fetch ab_c130 0 = some (.aload_n 0, 1, 0, 0) := rfl
theorem k130_1 : ab_fetch ab_c130 1 = some (.getfield 339, 3, 6, 23) := rfl
theorem k130_4 : ab_fetch ab_c130 4 = some (.ifCond .lt 12, 3, 16, 0) := rfl
theorem k130_7 : ab_fetch ab_c130 7 = some (.aload_n 0, 1, 0, 0) := rfl
theorem k130_8 : ab_fetch ab_c130 8 = some (.iconst 1, 1, 0, 0) := rfl
theorem k130_9 : ab_fetch ab_c130 9 = some (.aload_n 0, 1, 0, 0) := rfl
theorem k130_10 : ab_fetch ab_c130 10 = some (.getfield 339, 3, 6, 23) := rfl
theorem k130_13 : ab_fetch ab_c130 13 = some (.invokevirtual 342, 3, 131, 2) := rfl
theorem k130_16 : ab_fetch ab_c130 16 = some (.return_, 1, 0, 0) := rfl
/- CodeSmithModel takes()V -/
def f130 (s : mS) : Option mS := (if (s.1 23) < 0 then some s else ((f131 s (1 : Int32) (s.1 23)).bind fun r1 => some r1))
theorem t130 {d n : Nat} {Z : Nat → ab_C} (hn : 42 ≤ n) (s : mS) (r : mS) (e : f130 s = some r) : ab_Rn (d + 1) 130 0 (lv_args 0 [.ref 22]) [] (ab_hl n (mm_F s Z)) (.inl none) (ab_hl n (mm_F r Z)) := by
  unfold f130 at e
  obtain ⟨l, hl⟩ : ∃ l, l = (lv_args 0 [.ref 22]) := ⟨_, rfl⟩
  rw [← hl]
  have h0 : ab_get l 0 = some (.ref 22) := by rw [hl]; rfl
  refine r_aload_n (pc := 0) p130 k130_0 h0 ?_
  refine m_get hn (pc := 1) p130 k130_1 (v := .int (s.1 23)) rfl ?_
  refine r_if_lt (pc := 4) p130 k130_4 (fun c => ?_) (fun c => ?_)
  · have e := (if_pos c).symm.trans e
    cases e
    exact r_retV (pc := 16) p130 k130_16 rfl
  · have e := (if_neg c).symm.trans e
    refine r_aload_n (pc := 7) p130 k130_7 h0 ?_
    refine r_iconst (pc := 8) p130 k130_8 (v := (1 : Int32)) rfl ?_
    refine r_aload_n (pc := 9) p130 k130_9 h0 ?_
    refine m_get hn (pc := 10) p130 k130_10 (v := .int (s.1 23)) rfl ?_
    obtain ⟨r1, er1, e⟩ := of_bind e
    refine m_cv hn (pc := 13) p130 k130_13 rfl p131 (r := []) rfl rfl rfl rfl rfl (t131 hn s (1 : Int32) (s.1 23) r1 er1) (w := []) rfl ?_
    cases e
    exact r_retV (pc := 16) p130 k130_16 rfl

theorem p133 : ab_prog[133]? = some (ab_m133, ab_c133) := rfl
theorem k133_0 : ab_fetch ab_c133 0 = some (.iconst (-1), 1, 0, 0) := rfl
theorem k133_1 : ab_fetch ab_c133 1 = some (.istore_n 3, 1, 0, 0) := rfl
theorem k133_2 : ab_fetch ab_c133 2 = some (.iconst 0, 1, 0, 0) := rfl
theorem k133_3 : ab_fetch ab_c133 3 = some (.istore 4, 2, 0, 0) := rfl
theorem k133_5 : ab_fetch ab_c133 5 = some (.iload 4, 2, 0, 0) := rfl
theorem k133_7 : ab_fetch ab_c133 7 = some (.aload_n 0, 1, 0, 0) := rfl
theorem k133_8 : ab_fetch ab_c133 8 = some (.getfield 405, 3, 6, 26) := rfl
theorem k133_11 : ab_fetch ab_c133 11 = some (.if_icmp .ge 97, 3, 108, 0) := rfl
theorem k133_14 : ab_fetch ab_c133 14 = some (.iload_n 3, 1, 0, 0) := rfl
theorem k133_15 : ab_fetch ab_c133 15 = some (.ifCond .ge 93, 3, 108, 0) := rfl
theorem k133_18 : ab_fetch ab_c133 18 = some (.aload_n 0, 1, 0, 0) := rfl
theorem k133_19 : ab_fetch ab_c133 19 = some (.getfield 266, 3, 6, 28) := rfl
theorem k133_22 : ab_fetch ab_c133 22 = some (.iload 4, 2, 0, 0) := rfl
theorem k133_24 : ab_fetch ab_c133 24 = some (.iaload, 1, 0, 0) := rfl
theorem k133_25 : ab_fetch ab_c133 25 = some (.iload_n 2, 1, 0, 0) := rfl
theorem k133_26 : ab_fetch ab_c133 26 = some (.if_icmp .ne 7, 3, 33, 0) := rfl
theorem k133_29 : ab_fetch ab_c133 29 = some (.iconst 1, 1, 0, 0) := rfl
theorem k133_30 : ab_fetch ab_c133 30 = some (.goto 4, 3, 34, 0) := rfl
theorem k133_33 : ab_fetch ab_c133 33 = some (.iconst 0, 1, 0, 0) := rfl
theorem k133_34 : ab_fetch ab_c133 34 = some (.istore 5, 2, 0, 0) := rfl
theorem k133_36 : ab_fetch ab_c133 36 = some (.iconst 0, 1, 0, 0) := rfl
theorem k133_37 : ab_fetch ab_c133 37 = some (.istore 6, 2, 0, 0) := rfl
theorem k133_39 : ab_fetch ab_c133 39 = some (.iload 6, 2, 0, 0) := rfl
theorem k133_41 : ab_fetch ab_c133 41 = some (.iload_n 2, 1, 0, 0) := rfl
theorem k133_42 : ab_fetch ab_c133 42 = some (.if_icmp .ge 48, 3, 90, 0) := rfl
theorem k133_45 : ab_fetch ab_c133 45 = some (.iload 5, 2, 0, 0) := rfl
theorem k133_47 : ab_fetch ab_c133 47 = some (.ifCond .eq 43, 3, 90, 0) := rfl
theorem k133_50 : ab_fetch ab_c133 50 = some (.aload_n 0, 1, 0, 0) := rfl
theorem k133_51 : ab_fetch ab_c133 51 = some (.getfield 253, 3, 6, 4) := rfl
theorem k133_54 : ab_fetch ab_c133 54 = some (.aload_n 0, 1, 0, 0) := rfl
theorem k133_55 : ab_fetch ab_c133 55 = some (.getfield 263, 3, 6, 27) := rfl
theorem k133_58 : ab_fetch ab_c133 58 = some (.iload 4, 2, 0, 0) := rfl
theorem k133_60 : ab_fetch ab_c133 60 = some (.iaload, 1, 0, 0) := rfl
theorem k133_61 : ab_fetch ab_c133 61 = some (.iload 6, 2, 0, 0) := rfl
theorem k133_63 : ab_fetch ab_c133 63 = some (.iadd, 1, 0, 0) := rfl
theorem k133_64 : ab_fetch ab_c133 64 = some (.baload, 1, 0, 0) := rfl
theorem k133_65 : ab_fetch ab_c133 65 = some (.aload_n 0, 1, 0, 0) := rfl
theorem k133_66 : ab_fetch ab_c133 66 = some (.getfield 253, 3, 6, 4) := rfl
theorem k133_69 : ab_fetch ab_c133 69 = some (.iload_n 1, 1, 0, 0) := rfl
theorem k133_70 : ab_fetch ab_c133 70 = some (.iload 6, 2, 0, 0) := rfl
theorem k133_72 : ab_fetch ab_c133 72 = some (.iadd, 1, 0, 0) := rfl
theorem k133_73 : ab_fetch ab_c133 73 = some (.baload, 1, 0, 0) := rfl
theorem k133_74 : ab_fetch ab_c133 74 = some (.if_icmp .ne 7, 3, 81, 0) := rfl
theorem k133_77 : ab_fetch ab_c133 77 = some (.iconst 1, 1, 0, 0) := rfl
theorem k133_78 : ab_fetch ab_c133 78 = some (.goto 4, 3, 82, 0) := rfl
theorem k133_81 : ab_fetch ab_c133 81 = some (.iconst 0, 1, 0, 0) := rfl
theorem k133_82 : ab_fetch ab_c133 82 = some (.istore 5, 2, 0, 0) := rfl
theorem k133_84 : ab_fetch ab_c133 84 = some (.iinc 6 1, 3, 0, 0) := rfl
theorem k133_87 : ab_fetch ab_c133 87 = some (.goto (-48), 3, 39, 0) := rfl
theorem k133_90 : ab_fetch ab_c133 90 = some (.iload 5, 2, 0, 0) := rfl
theorem k133_92 : ab_fetch ab_c133 92 = some (.ifCond .eq 8, 3, 100, 0) := rfl
theorem k133_95 : ab_fetch ab_c133 95 = some (.iload 4, 2, 0, 0) := rfl
theorem k133_97 : ab_fetch ab_c133 97 = some (.goto 4, 3, 101, 0) := rfl
theorem k133_100 : ab_fetch ab_c133 100 = some (.iconst (-1), 1, 0, 0) := rfl
theorem k133_101 : ab_fetch ab_c133 101 = some (.istore_n 3, 1, 0, 0) := rfl
theorem k133_102 : ab_fetch ab_c133 102 = some (.iinc 4 1, 3, 0, 0) := rfl
theorem k133_105 : ab_fetch ab_c133 105 = some (.goto (-100), 3, 5, 0) := rfl
theorem k133_108 : ab_fetch ab_c133 108 = some (.iload_n 3, 1, 0, 0) := rfl
theorem k133_109 : ab_fetch ab_c133 109 = some (.ireturn, 1, 0, 0) := rfl
/- CodeSmithModel symbol(II)I -/
def f133_101 (q5 : mS → Int32 → Int32 → Int32 → Int32 → Option Int32) (s : mS) (x1 : Int32) (x2 : Int32) (x4 : Int32) (y0 : Int32) : Option Int32 := q5 s x1 x2 y0 (x4 + (1 : Int32))
theorem t133_101 {d n : Nat} {Z : Nat → ab_C} (hn : 42 ≤ n) (q5 : mS → Int32 → Int32 → Int32 → Int32 → Option Int32) (hq5 : ∀ (s : mS) (l : ab_L) (x1 : Int32) (x2 : Int32) (x3 : Int32) (x4 : Int32) (h0 : ab_get l 0 = some (.ref 22)) (h1 : ab_get l 1 = some (.int x1)) (h2 : ab_get l 2 = some (.int x2)) (h3 : ab_get l 3 = some (.int x3)) (h4 : ab_get l 4 = some (.int x4)) (r : Int32) (e : q5 s x1 x2 x3 x4 = some r), ab_Rn d 133 5 l [] (ab_hl n (mm_F s Z)) (.inl (some (.int r))) (ab_hl n (mm_F s Z))) : ∀ (s : mS) (l : ab_L) (x1 : Int32) (x2 : Int32) (x4 : Int32) (y0 : Int32) (h0 : ab_get l 0 = some (.ref 22)) (h1 : ab_get l 1 = some (.int x1)) (h2 : ab_get l 2 = some (.int x2)) (h4 : ab_get l 4 = some (.int x4)) (r : Int32) (e : f133_101 q5 s x1 x2 x4 y0 = some r), ab_Rn d 133 101 l [.int y0] (ab_hl n (mm_F s Z)) (.inl (some (.int r))) (ab_hl n (mm_F s Z)) := by
  intro s l x1 x2 x4 y0 h0 h1 h2 h4 r e
  unfold f133_101 at e
  refine r_istore_n (pc := 101) p133 k133_101 (by decide) (fun l g h3 => ?_)
  have h0 := g 0 _ (by decide) h0 (Or.inl rfl)
  have h1 := g 1 _ (by decide) h1 (Or.inl rfl)
  have h2 := g 2 _ (by decide) h2 (Or.inl rfl)
  have h4 := g 4 _ (by decide) h4 (Or.inl rfl)
  refine r_iinc (pc := 102) p133 k133_102 h4 (by decide) (v := (x4 + (1 : Int32))) rfl (fun l g h4 => ?_)
  have h0 := g 0 _ (by decide) h0 (Or.inl rfl)
  have h1 := g 1 _ (by decide) h1 (Or.inl rfl)
  have h2 := g 2 _ (by decide) h2 (Or.inl rfl)
  have h3 := g 3 _ (by decide) h3 (Or.inl rfl)
  refine r_goto (pc := 105) p133 k133_105 ?_
  exact hq5 s l x1 x2 y0 (x4 + (1 : Int32)) h0 h1 h2 h3 h4 r e
def f133_90 (q5 : mS → Int32 → Int32 → Int32 → Int32 → Option Int32) (s : mS) (x1 : Int32) (x2 : Int32) (x4 : Int32) (x5 : Int32) : Option Int32 := (if x5 = 0 then f133_101 q5 s x1 x2 x4 (-1 : Int32) else f133_101 q5 s x1 x2 x4 x4)
theorem t133_90 {d n : Nat} {Z : Nat → ab_C} (hn : 42 ≤ n) (q5 : mS → Int32 → Int32 → Int32 → Int32 → Option Int32) (hq5 : ∀ (s : mS) (l : ab_L) (x1 : Int32) (x2 : Int32) (x3 : Int32) (x4 : Int32) (h0 : ab_get l 0 = some (.ref 22)) (h1 : ab_get l 1 = some (.int x1)) (h2 : ab_get l 2 = some (.int x2)) (h3 : ab_get l 3 = some (.int x3)) (h4 : ab_get l 4 = some (.int x4)) (r : Int32) (e : q5 s x1 x2 x3 x4 = some r), ab_Rn d 133 5 l [] (ab_hl n (mm_F s Z)) (.inl (some (.int r))) (ab_hl n (mm_F s Z))) : ∀ (s : mS) (l : ab_L) (x1 : Int32) (x2 : Int32) (x4 : Int32) (x5 : Int32) (h0 : ab_get l 0 = some (.ref 22)) (h1 : ab_get l 1 = some (.int x1)) (h2 : ab_get l 2 = some (.int x2)) (h4 : ab_get l 4 = some (.int x4)) (h5 : ab_get l 5 = some (.int x5)) (r : Int32) (e : f133_90 q5 s x1 x2 x4 x5 = some r), ab_Rn d 133 90 l [] (ab_hl n (mm_F s Z)) (.inl (some (.int r))) (ab_hl n (mm_F s Z)) := by
  intro s l x1 x2 x4 x5 h0 h1 h2 h4 h5 r e
  unfold f133_90 at e
  refine r_iload (pc := 90) p133 k133_90 h5 ?_
  refine r_if_eq (pc := 92) p133 k133_92 (fun c => ?_) (fun c => ?_)
  · have e := (if_pos c).symm.trans e
    refine r_iconst (pc := 100) p133 k133_100 (v := (-1 : Int32)) rfl ?_
    exact t133_101 hn q5 hq5 s l x1 x2 x4 (-1 : Int32) h0 h1 h2 h4 r e
  · have e := (if_neg c).symm.trans e
    refine r_iload (pc := 95) p133 k133_95 h4 ?_
    refine r_goto (pc := 97) p133 k133_97 ?_
    exact t133_101 hn q5 hq5 s l x1 x2 x4 x4 h0 h1 h2 h4 r e
def f133_82 (q5 : mS → Int32 → Int32 → Int32 → Int32 → Option Int32) (q39 : mS → Int32 → Int32 → Int32 → Int32 → Int32 → Option Int32) (s : mS) (x1 : Int32) (x2 : Int32) (x4 : Int32) (x6 : Int32) (y0 : Int32) : Option Int32 := q39 s x1 x2 x4 y0 (x6 + (1 : Int32))
theorem t133_82 {d n : Nat} {Z : Nat → ab_C} (hn : 42 ≤ n) (q5 : mS → Int32 → Int32 → Int32 → Int32 → Option Int32) (hq5 : ∀ (s : mS) (l : ab_L) (x1 : Int32) (x2 : Int32) (x3 : Int32) (x4 : Int32) (h0 : ab_get l 0 = some (.ref 22)) (h1 : ab_get l 1 = some (.int x1)) (h2 : ab_get l 2 = some (.int x2)) (h3 : ab_get l 3 = some (.int x3)) (h4 : ab_get l 4 = some (.int x4)) (r : Int32) (e : q5 s x1 x2 x3 x4 = some r), ab_Rn d 133 5 l [] (ab_hl n (mm_F s Z)) (.inl (some (.int r))) (ab_hl n (mm_F s Z))) (q39 : mS → Int32 → Int32 → Int32 → Int32 → Int32 → Option Int32) (hq39 : ∀ (s : mS) (l : ab_L) (x1 : Int32) (x2 : Int32) (x4 : Int32) (x5 : Int32) (x6 : Int32) (h0 : ab_get l 0 = some (.ref 22)) (h1 : ab_get l 1 = some (.int x1)) (h2 : ab_get l 2 = some (.int x2)) (h4 : ab_get l 4 = some (.int x4)) (h5 : ab_get l 5 = some (.int x5)) (h6 : ab_get l 6 = some (.int x6)) (r : Int32) (e : q39 s x1 x2 x4 x5 x6 = some r), ab_Rn d 133 39 l [] (ab_hl n (mm_F s Z)) (.inl (some (.int r))) (ab_hl n (mm_F s Z))) : ∀ (s : mS) (l : ab_L) (x1 : Int32) (x2 : Int32) (x4 : Int32) (x6 : Int32) (y0 : Int32) (h0 : ab_get l 0 = some (.ref 22)) (h1 : ab_get l 1 = some (.int x1)) (h2 : ab_get l 2 = some (.int x2)) (h4 : ab_get l 4 = some (.int x4)) (h6 : ab_get l 6 = some (.int x6)) (r : Int32) (e : f133_82 q5 q39 s x1 x2 x4 x6 y0 = some r), ab_Rn d 133 82 l [.int y0] (ab_hl n (mm_F s Z)) (.inl (some (.int r))) (ab_hl n (mm_F s Z)) := by
  intro s l x1 x2 x4 x6 y0 h0 h1 h2 h4 h6 r e
  unfold f133_82 at e
  refine r_istore (pc := 82) p133 k133_82 (by decide) (fun l g h5 => ?_)
  have h0 := g 0 _ (by decide) h0 (Or.inl rfl)
  have h1 := g 1 _ (by decide) h1 (Or.inl rfl)
  have h2 := g 2 _ (by decide) h2 (Or.inl rfl)
  have h4 := g 4 _ (by decide) h4 (Or.inl rfl)
  have h6 := g 6 _ (by decide) h6 (Or.inl rfl)
  refine r_iinc (pc := 84) p133 k133_84 h6 (by decide) (v := (x6 + (1 : Int32))) rfl (fun l g h6 => ?_)
  have h0 := g 0 _ (by decide) h0 (Or.inl rfl)
  have h1 := g 1 _ (by decide) h1 (Or.inl rfl)
  have h2 := g 2 _ (by decide) h2 (Or.inl rfl)
  have h4 := g 4 _ (by decide) h4 (Or.inl rfl)
  have h5 := g 5 _ (by decide) h5 (Or.inl rfl)
  refine r_goto (pc := 87) p133 k133_87 ?_
  exact hq39 s l x1 x2 x4 y0 (x6 + (1 : Int32)) h0 h1 h2 h4 h5 h6 r e
def f133_39 (q5 : mS → Int32 → Int32 → Int32 → Int32 → Option Int32) : Nat → mS → Int32 → Int32 → Int32 → Int32 → Int32 → Option Int32
  | 0, _, _, _, _, _, _ => none
  | u + 1, s, x1, x2, x4, x5, x6 => (if x2 ≤ x6 then f133_90 q5 s x1 x2 x4 x5 else (if x5 = 0 then f133_90 q5 s x1 x2 x4 x5 else if ib x4 17500 then if ib (((s.2 27) x4.toNatClampNeg) + x6) 65536 then if ib (x1 + x6) 65536 then (if ((s.2 4) (((s.2 27) x4.toNatClampNeg) + x6).toNatClampNeg) = ((s.2 4) (x1 + x6).toNatClampNeg) then f133_82 q5 (f133_39 q5 u) s x1 x2 x4 x6 (1 : Int32) else f133_82 q5 (f133_39 q5 u) s x1 x2 x4 x6 (0 : Int32)) else none else none else none))
theorem t133_39 {d n : Nat} {Z : Nat → ab_C} (hn : 42 ≤ n) (q5 : mS → Int32 → Int32 → Int32 → Int32 → Option Int32) (hq5 : ∀ (s : mS) (l : ab_L) (x1 : Int32) (x2 : Int32) (x3 : Int32) (x4 : Int32) (h0 : ab_get l 0 = some (.ref 22)) (h1 : ab_get l 1 = some (.int x1)) (h2 : ab_get l 2 = some (.int x2)) (h3 : ab_get l 3 = some (.int x3)) (h4 : ab_get l 4 = some (.int x4)) (r : Int32) (e : q5 s x1 x2 x3 x4 = some r), ab_Rn d 133 5 l [] (ab_hl n (mm_F s Z)) (.inl (some (.int r))) (ab_hl n (mm_F s Z))) : ∀ u : Nat, ∀ (s : mS) (l : ab_L) (x1 : Int32) (x2 : Int32) (x4 : Int32) (x5 : Int32) (x6 : Int32) (h0 : ab_get l 0 = some (.ref 22)) (h1 : ab_get l 1 = some (.int x1)) (h2 : ab_get l 2 = some (.int x2)) (h4 : ab_get l 4 = some (.int x4)) (h5 : ab_get l 5 = some (.int x5)) (h6 : ab_get l 6 = some (.int x6)) (r : Int32) (e : f133_39 q5 u s x1 x2 x4 x5 x6 = some r), ab_Rn d 133 39 l [] (ab_hl n (mm_F s Z)) (.inl (some (.int r))) (ab_hl n (mm_F s Z)) := by
  intro u
  induction u with
  | zero => intro s l x1 x2 x4 x5 x6 h0 h1 h2 h4 h5 h6 r e; rw [f133_39] at e; cases e
  | succ u ih =>
    intro s l x1 x2 x4 x5 x6 h0 h1 h2 h4 h5 h6 r e
    rw [f133_39] at e
    refine r_iload (pc := 39) p133 k133_39 h6 ?_
    refine r_iload_n (pc := 41) p133 k133_41 h2 ?_
    refine r_ic_ge (pc := 42) p133 k133_42 (fun c => ?_) (fun c => ?_)
    · have e := (if_pos c).symm.trans e
      exact t133_90 hn q5 hq5 s l x1 x2 x4 x5 h0 h1 h2 h4 h5 r e
    · have e := (if_neg c).symm.trans e
      refine r_iload (pc := 45) p133 k133_45 h5 ?_
      refine r_if_eq (pc := 47) p133 k133_47 (fun c => ?_) (fun c => ?_)
      · have e := (if_pos c).symm.trans e
        exact t133_90 hn q5 hq5 s l x1 x2 x4 x5 h0 h1 h2 h4 h5 r e
      · have e := (if_neg c).symm.trans e
        refine r_aload_n (pc := 50) p133 k133_50 h0 ?_
        refine m_get hn (pc := 51) p133 k133_51 (v := .ref 26) rfl ?_
        refine r_aload_n (pc := 54) p133 k133_54 h0 ?_
        refine m_get hn (pc := 55) p133 k133_55 (v := .ref 29) rfl ?_
        refine r_iload (pc := 58) p133 k133_58 h4 ?_
        obtain ⟨c, e⟩ := of_if e
        refine r_iald (pc := 60) p133 k133_60 (m_lt hn rfl) (f := (s.2 27)) rfl c ?_
        refine r_iload (pc := 61) p133 k133_61 h6 ?_
        refine r_iadd (pc := 63) p133 k133_63 ?_
        obtain ⟨c, e⟩ := of_if e
        refine r_bald (pc := 64) p133 k133_64 (m_lt hn rfl) (f := (s.2 4)) rfl c ?_
        refine r_aload_n (pc := 65) p133 k133_65 h0 ?_
        refine m_get hn (pc := 66) p133 k133_66 (v := .ref 26) rfl ?_
        refine r_iload_n (pc := 69) p133 k133_69 h1 ?_
        refine r_iload (pc := 70) p133 k133_70 h6 ?_
        refine r_iadd (pc := 72) p133 k133_72 ?_
        obtain ⟨c, e⟩ := of_if e
        refine r_bald (pc := 73) p133 k133_73 (m_lt hn rfl) (f := (s.2 4)) rfl c ?_
        refine r_ic_ne (pc := 74) p133 k133_74 (fun c => ?_) (fun c => ?_)
        · have e := (if_neg c).symm.trans e
          refine r_iconst (pc := 81) p133 k133_81 (v := (0 : Int32)) rfl ?_
          exact t133_82 hn q5 hq5 (f133_39 q5 u) ih s l x1 x2 x4 x6 (0 : Int32) h0 h1 h2 h4 h6 r e
        · have e := (if_pos c).symm.trans e
          refine r_iconst (pc := 77) p133 k133_77 (v := (1 : Int32)) rfl ?_
          refine r_goto (pc := 78) p133 k133_78 ?_
          exact t133_82 hn q5 hq5 (f133_39 q5 u) ih s l x1 x2 x4 x6 (1 : Int32) h0 h1 h2 h4 h6 r e
def f133_34 (q5 : mS → Int32 → Int32 → Int32 → Int32 → Option Int32) (s : mS) (x1 : Int32) (x2 : Int32) (x4 : Int32) (y0 : Int32) : Option Int32 := f133_39 q5 mm_U s x1 x2 x4 y0 (0 : Int32)
theorem t133_34 {d n : Nat} {Z : Nat → ab_C} (hn : 42 ≤ n) (q5 : mS → Int32 → Int32 → Int32 → Int32 → Option Int32) (hq5 : ∀ (s : mS) (l : ab_L) (x1 : Int32) (x2 : Int32) (x3 : Int32) (x4 : Int32) (h0 : ab_get l 0 = some (.ref 22)) (h1 : ab_get l 1 = some (.int x1)) (h2 : ab_get l 2 = some (.int x2)) (h3 : ab_get l 3 = some (.int x3)) (h4 : ab_get l 4 = some (.int x4)) (r : Int32) (e : q5 s x1 x2 x3 x4 = some r), ab_Rn d 133 5 l [] (ab_hl n (mm_F s Z)) (.inl (some (.int r))) (ab_hl n (mm_F s Z))) : ∀ (s : mS) (l : ab_L) (x1 : Int32) (x2 : Int32) (x4 : Int32) (y0 : Int32) (h0 : ab_get l 0 = some (.ref 22)) (h1 : ab_get l 1 = some (.int x1)) (h2 : ab_get l 2 = some (.int x2)) (h4 : ab_get l 4 = some (.int x4)) (r : Int32) (e : f133_34 q5 s x1 x2 x4 y0 = some r), ab_Rn d 133 34 l [.int y0] (ab_hl n (mm_F s Z)) (.inl (some (.int r))) (ab_hl n (mm_F s Z)) := by
  intro s l x1 x2 x4 y0 h0 h1 h2 h4 r e
  unfold f133_34 at e
  refine r_istore (pc := 34) p133 k133_34 (by decide) (fun l g h5 => ?_)
  have h0 := g 0 _ (by decide) h0 (Or.inl rfl)
  have h1 := g 1 _ (by decide) h1 (Or.inl rfl)
  have h2 := g 2 _ (by decide) h2 (Or.inl rfl)
  have h4 := g 4 _ (by decide) h4 (Or.inl rfl)
  refine r_iconst (pc := 36) p133 k133_36 (v := (0 : Int32)) rfl ?_
  refine r_istore (pc := 37) p133 k133_37 (by decide) (fun l g h6 => ?_)
  have h0 := g 0 _ (by decide) h0 (Or.inl rfl)
  have h1 := g 1 _ (by decide) h1 (Or.inl rfl)
  have h2 := g 2 _ (by decide) h2 (Or.inl rfl)
  have h4 := g 4 _ (by decide) h4 (Or.inl rfl)
  have h5 := g 5 _ (by decide) h5 (Or.inl rfl)
  exact t133_39 hn q5 hq5 mm_U s l x1 x2 x4 y0 (0 : Int32) h0 h1 h2 h4 h5 h6 r e
def f133_5 : Nat → mS → Int32 → Int32 → Int32 → Int32 → Option Int32
  | 0, _, _, _, _, _ => none
  | u + 1, s, x1, x2, x3, x4 => (if (s.1 26) ≤ x4 then some x3 else (if 0 ≤ x3 then some x3 else if ib x4 17500 then (if ((s.2 28) x4.toNatClampNeg) = x2 then f133_34 (f133_5 u) s x1 x2 x4 (1 : Int32) else f133_34 (f133_5 u) s x1 x2 x4 (0 : Int32)) else none))
theorem t133_5 {d n : Nat} {Z : Nat → ab_C} (hn : 42 ≤ n) : ∀ u : Nat, ∀ (s : mS) (l : ab_L) (x1 : Int32) (x2 : Int32) (x3 : Int32) (x4 : Int32) (h0 : ab_get l 0 = some (.ref 22)) (h1 : ab_get l 1 = some (.int x1)) (h2 : ab_get l 2 = some (.int x2)) (h3 : ab_get l 3 = some (.int x3)) (h4 : ab_get l 4 = some (.int x4)) (r : Int32) (e : f133_5 u s x1 x2 x3 x4 = some r), ab_Rn d 133 5 l [] (ab_hl n (mm_F s Z)) (.inl (some (.int r))) (ab_hl n (mm_F s Z)) := by
  intro u
  induction u with
  | zero => intro s l x1 x2 x3 x4 h0 h1 h2 h3 h4 r e; rw [f133_5] at e; cases e
  | succ u ih =>
    intro s l x1 x2 x3 x4 h0 h1 h2 h3 h4 r e
    rw [f133_5] at e
    refine r_iload (pc := 5) p133 k133_5 h4 ?_
    refine r_aload_n (pc := 7) p133 k133_7 h0 ?_
    refine m_get hn (pc := 8) p133 k133_8 (v := .int (s.1 26)) rfl ?_
    refine r_ic_ge (pc := 11) p133 k133_11 (fun c => ?_) (fun c => ?_)
    · have e := (if_pos c).symm.trans e
      refine r_iload_n (pc := 108) p133 k133_108 h3 ?_
      cases e
      exact r_retI (pc := 109) p133 k133_109 rfl
    · have e := (if_neg c).symm.trans e
      refine r_iload_n (pc := 14) p133 k133_14 h3 ?_
      refine r_if_ge (pc := 15) p133 k133_15 (fun c => ?_) (fun c => ?_)
      · have e := (if_pos c).symm.trans e
        refine r_iload_n (pc := 108) p133 k133_108 h3 ?_
        cases e
        exact r_retI (pc := 109) p133 k133_109 rfl
      · have e := (if_neg c).symm.trans e
        refine r_aload_n (pc := 18) p133 k133_18 h0 ?_
        refine m_get hn (pc := 19) p133 k133_19 (v := .ref 30) rfl ?_
        refine r_iload (pc := 22) p133 k133_22 h4 ?_
        obtain ⟨c, e⟩ := of_if e
        refine r_iald (pc := 24) p133 k133_24 (m_lt hn rfl) (f := (s.2 28)) rfl c ?_
        refine r_iload_n (pc := 25) p133 k133_25 h2 ?_
        refine r_ic_ne (pc := 26) p133 k133_26 (fun c => ?_) (fun c => ?_)
        · have e := (if_neg c).symm.trans e
          refine r_iconst (pc := 33) p133 k133_33 (v := (0 : Int32)) rfl ?_
          exact t133_34 hn (f133_5 u) ih s l x1 x2 x4 (0 : Int32) h0 h1 h2 h4 r e
        · have e := (if_pos c).symm.trans e
          refine r_iconst (pc := 29) p133 k133_29 (v := (1 : Int32)) rfl ?_
          refine r_goto (pc := 30) p133 k133_30 ?_
          exact t133_34 hn (f133_5 u) ih s l x1 x2 x4 (1 : Int32) h0 h1 h2 h4 r e
def f133 (s : mS) (x1 : Int32) (x2 : Int32) : Option Int32 := f133_5 mm_U s x1 x2 (-1 : Int32) (0 : Int32)
theorem t133 {d n : Nat} {Z : Nat → ab_C} (hn : 42 ≤ n) (s : mS) (x1 : Int32) (x2 : Int32) (r : Int32) (e : f133 s x1 x2 = some r) : ab_Rn d 133 0 (lv_args 0 [.ref 22, .int x1, .int x2]) [] (ab_hl n (mm_F s Z)) (.inl (some (.int r))) (ab_hl n (mm_F s Z)) := by
  unfold f133 at e
  obtain ⟨l, hl⟩ : ∃ l, l = (lv_args 0 [.ref 22, .int x1, .int x2]) := ⟨_, rfl⟩
  rw [← hl]
  have h0 : ab_get l 0 = some (.ref 22) := by rw [hl]; rfl
  have h1 : ab_get l 1 = some (.int x1) := by rw [hl]; rfl
  have h2 : ab_get l 2 = some (.int x2) := by rw [hl]; rfl
  refine r_iconst (pc := 0) p133 k133_0 (v := (-1 : Int32)) rfl ?_
  refine r_istore_n (pc := 1) p133 k133_1 (by decide) (fun l g h3 => ?_)
  have h0 := g 0 _ (by decide) h0 (Or.inl rfl)
  have h1 := g 1 _ (by decide) h1 (Or.inl rfl)
  have h2 := g 2 _ (by decide) h2 (Or.inl rfl)
  refine r_iconst (pc := 2) p133 k133_2 (v := (0 : Int32)) rfl ?_
  refine r_istore (pc := 3) p133 k133_3 (by decide) (fun l g h4 => ?_)
  have h0 := g 0 _ (by decide) h0 (Or.inl rfl)
  have h1 := g 1 _ (by decide) h1 (Or.inl rfl)
  have h2 := g 2 _ (by decide) h2 (Or.inl rfl)
  have h3 := g 3 _ (by decide) h3 (Or.inl rfl)
  exact t133_5 hn mm_U s l x1 x2 (-1 : Int32) (0 : Int32) h0 h1 h2 h3 h4 r e
