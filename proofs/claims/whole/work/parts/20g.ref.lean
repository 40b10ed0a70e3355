theorem p163 : ab_prog[163]? = some (ab_m163, ab_c163) := rfl
theorem k163_0 : ab_fetch ab_c163 0 = some (.aload_n 0, 1, 0, 0) := rfl
theorem k163_1 : ab_fetch ab_c163 1 = some (.iload 4, 2, 0, 0) := rfl
theorem k163_3 : ab_fetch ab_c163 3 = some (.aload_n 0, 1, 0, 0) := rfl
theorem k163_4 : ab_fetch ab_c163 4 = some (.getfield 449, 3, 6, 33) := rfl
theorem k163_7 : ab_fetch ab_c163 7 = some (.isub, 1, 0, 0) := rfl
theorem k163_8 : ab_fetch ab_c163 8 = some (.sipush (-4096), 3, 0, 0) := rfl
theorem k163_11 : ab_fetch ab_c163 11 = some (.sipush 4094, 3, 0, 0) := rfl
theorem k163_14 : ab_fetch ab_c163 14 = some (.invokevirtual 483, 3, 159, 3) := rfl
theorem k163_17 : ab_fetch ab_c163 17 = some (.istore 5, 2, 0, 0) := rfl
theorem k163_19 : ab_fetch ab_c163 19 = some (.aload_n 0, 1, 0, 0) := rfl
theorem k163_20 : ab_fetch ab_c163 20 = some (.aload_n 0, 1, 0, 0) := rfl
theorem k163_21 : ab_fetch ab_c163 21 = some (.getfield 480, 3, 6, 37) := rfl
theorem k163_24 : ab_fetch ab_c163 24 = some (.ifCond .ne 17, 3, 41, 0) := rfl
theorem k163_27 : ab_fetch ab_c163 27 = some (.aload_n 0, 1, 0, 0) := rfl
theorem k163_28 : ab_fetch ab_c163 28 = some (.getfield 408, 3, 6, 19) := rfl
theorem k163_31 : ab_fetch ab_c163 31 = some (.ifCond .eq 14, 3, 45, 0) := rfl
theorem k163_34 : ab_fetch ab_c163 34 = some (.iload 5, 2, 0, 0) := rfl
theorem k163_36 : ab_fetch ab_c163 36 = some (.iconst 2, 1, 0, 0) := rfl
theorem k163_37 : ab_fetch ab_c163 37 = some (.irem, 1, 0, 0) := rfl
theorem k163_38 : ab_fetch ab_c163 38 = some (.ifCond .eq 7, 3, 45, 0) := rfl
theorem k163_41 : ab_fetch ab_c163 41 = some (.iconst 1, 1, 0, 0) := rfl
theorem k163_42 : ab_fetch ab_c163 42 = some (.goto 4, 3, 46, 0) := rfl
theorem k163_45 : ab_fetch ab_c163 45 = some (.iconst 0, 1, 0, 0) := rfl
theorem k163_46 : ab_fetch ab_c163 46 = some (.putfield 480, 3, 6, 37) := rfl
theorem k163_49 : ab_fetch ab_c163 49 = some (.aload_n 0, 1, 0, 0) := rfl
theorem k163_50 : ab_fetch ab_c163 50 = some (.iload 5, 2, 0, 0) := rfl
theorem k163_52 : ab_fetch ab_c163 52 = some (.bipush 12, 2, 0, 0) := rfl
theorem k163_54 : ab_fetch ab_c163 54 = some (.ishr, 1, 0, 0) := rfl
theorem k163_55 : ab_fetch ab_c163 55 = some (.iconst 1, 1, 0, 0) := rfl
theorem k163_56 : ab_fetch ab_c163 56 = some (.iand, 1, 0, 0) := rfl
theorem k163_57 : ab_fetch ab_c163 57 = some (.bipush 31, 2, 0, 0) := rfl
theorem k163_59 : ab_fetch ab_c163 59 = some (.ishl, 1, 0, 0) := rfl
theorem k163_60 : ab_fetch ab_c163 60 = some (.iload 5, 2, 0, 0) := rfl
theorem k163_62 : ab_fetch ab_c163 62 = some (.iconst 5, 1, 0, 0) := rfl
theorem k163_63 : ab_fetch ab_c163 63 = some (.ishr, 1, 0, 0) := rfl
theorem k163_64 : ab_fetch ab_c163 64 = some (.bipush 63, 2, 0, 0) := rfl
theorem k163_66 : ab_fetch ab_c163 66 = some (.iand, 1, 0, 0) := rfl
theorem k163_67 : ab_fetch ab_c163 67 = some (.bipush 25, 2, 0, 0) := rfl
theorem k163_69 : ab_fetch ab_c163 69 = some (.ishl, 1, 0, 0) := rfl
theorem k163_70 : ab_fetch ab_c163 70 = some (.ior, 1, 0, 0) := rfl
theorem k163_71 : ab_fetch ab_c163 71 = some (.iload_n 3, 1, 0, 0) := rfl
theorem k163_72 : ab_fetch ab_c163 72 = some (.bipush 20, 2, 0, 0) := rfl
theorem k163_74 : ab_fetch ab_c163 74 = some (.ishl, 1, 0, 0) := rfl
theorem k163_75 : ab_fetch ab_c163 75 = some (.ior, 1, 0, 0) := rfl
theorem k163_76 : ab_fetch ab_c163 76 = some (.iload_n 2, 1, 0, 0) := rfl
theorem k163_77 : ab_fetch ab_c163 77 = some (.bipush 15, 2, 0, 0) := rfl
theorem k163_79 : ab_fetch ab_c163 79 = some (.ishl, 1, 0, 0) := rfl
theorem k163_80 : ab_fetch ab_c163 80 = some (.ior, 1, 0, 0) := rfl
theorem k163_81 : ab_fetch ab_c163 81 = some (.iload_n 1, 1, 0, 0) := rfl
theorem k163_82 : ab_fetch ab_c163 82 = some (.bipush 12, 2, 0, 0) := rfl
theorem k163_84 : ab_fetch ab_c163 84 = some (.ishl, 1, 0, 0) := rfl
theorem k163_85 : ab_fetch ab_c163 85 = some (.ior, 1, 0, 0) := rfl
theorem k163_86 : ab_fetch ab_c163 86 = some (.iload 5, 2, 0, 0) := rfl
theorem k163_88 : ab_fetch ab_c163 88 = some (.iconst 1, 1, 0, 0) := rfl
theorem k163_89 : ab_fetch ab_c163 89 = some (.ishr, 1, 0, 0) := rfl
theorem k163_90 : ab_fetch ab_c163 90 = some (.bipush 15, 2, 0, 0) := rfl
theorem k163_92 : ab_fetch ab_c163 92 = some (.iand, 1, 0, 0) := rfl
theorem k163_93 : ab_fetch ab_c163 93 = some (.bipush 8, 2, 0, 0) := rfl
theorem k163_95 : ab_fetch ab_c163 95 = some (.ishl, 1, 0, 0) := rfl
theorem k163_96 : ab_fetch ab_c163 96 = some (.ior, 1, 0, 0) := rfl
theorem k163_97 : ab_fetch ab_c163 97 = some (.iload 5, 2, 0, 0) := rfl
theorem k163_99 : ab_fetch ab_c163 99 = some (.bipush 11, 2, 0, 0) := rfl
theorem k163_101 : ab_fetch ab_c163 101 = some (.ishr, 1, 0, 0) := rfl
theorem k163_102 : ab_fetch ab_c163 102 = some (.iconst 1, 1, 0, 0) := rfl
theorem k163_103 : ab_fetch ab_c163 103 = some (.iand, 1, 0, 0) := rfl
theorem k163_104 : ab_fetch ab_c163 104 = some (.bipush 7, 2, 0, 0) := rfl
theorem k163_106 : ab_fetch ab_c163 106 = some (.ishl, 1, 0, 0) := rfl
theorem k163_107 : ab_fetch ab_c163 107 = some (.ior, 1, 0, 0) := rfl
theorem k163_108 : ab_fetch ab_c163 108 = some (.bipush 99, 2, 0, 0) := rfl
theorem k163_110 : ab_fetch ab_c163 110 = some (.ior, 1, 0, 0) := rfl
theorem k163_111 : ab_fetch ab_c163 111 = some (.iconst 4, 1, 0, 0) := rfl
theorem k163_112 : ab_fetch ab_c163 112 = some (.invokevirtual 486, 3, 144, 2) := rfl
theorem k163_115 : ab_fetch ab_c163 115 = some (.return_, 1, 0, 0) := rfl
/- CodeSmithModel branch(IIII)V -/
def f163_46 (s : mS) (x1 : Int32) (x2 : Int32) (x3 : Int32) (x5 : Int32) (y0 : Int32) : Option mS := if bz y0 then ((f144 (mg s 37 y0) ((((((((((x5 >>> ((12 : Int32) &&& 31)) &&& (1 : Int32)) <<< ((31 : Int32) &&& 31)) ||| (((x5 >>> ((5 : Int32) &&& 31)) &&& (63 : Int32)) <<< ((25 : Int32) &&& 31))) ||| (x3 <<< ((20 : Int32) &&& 31))) ||| (x2 <<< ((15 : Int32) &&& 31))) ||| (x1 <<< ((12 : Int32) &&& 31))) ||| (((x5 >>> ((1 : Int32) &&& 31)) &&& (15 : Int32)) <<< ((8 : Int32) &&& 31))) ||| (((x5 >>> ((11 : Int32) &&& 31)) &&& (1 : Int32)) <<< ((7 : Int32) &&& 31))) ||| (99 : Int32)) (4 : Int32)).bind fun r1 => some r1) else none
theorem t163_46 {d n : Nat} {Z : Nat → ab_C} (hn : 42 ≤ n) : ∀ (s : mS) (l : ab_L) (x1 : Int32) (x2 : Int32) (x3 : Int32) (x5 : Int32) (y0 : Int32) (h0 : ab_get l 0 = some (.ref 22)) (h1 : ab_get l 1 = some (.int x1)) (h2 : ab_get l 2 = some (.int x2)) (h3 : ab_get l 3 = some (.int x3)) (h5 : ab_get l 5 = some (.int x5)) (r : mS) (e : f163_46 s x1 x2 x3 x5 y0 = some r), ab_Rn (d + 1) 163 46 l [.int y0, .ref 22] (ab_hl n (mm_F s Z)) (.inl none) (ab_hl n (mm_F r Z)) := by
  intro s l x1 x2 x3 x5 y0 h0 h1 h2 h3 h5 r e
  unfold f163_46 at e
  obtain ⟨c, e⟩ := of_if e
  refine m_put hn (pc := 46) p163 k163_46 rfl rfl (bz_fit c) rfl ?_
  refine r_aload_n (pc := 49) p163 k163_49 h0 ?_
  refine r_iload (pc := 50) p163 k163_50 h5 ?_
  refine r_bipush (pc := 52) p163 k163_52 (v := (12 : Int32)) rfl ?_
  refine r_ishr (pc := 54) p163 k163_54 ?_
  refine r_iconst (pc := 55) p163 k163_55 (v := (1 : Int32)) rfl ?_
  refine r_iand (pc := 56) p163 k163_56 ?_
  refine r_bipush (pc := 57) p163 k163_57 (v := (31 : Int32)) rfl ?_
  refine r_ishl (pc := 59) p163 k163_59 ?_
  refine r_iload (pc := 60) p163 k163_60 h5 ?_
  refine r_iconst (pc := 62) p163 k163_62 (v := (5 : Int32)) rfl ?_
  refine r_ishr (pc := 63) p163 k163_63 ?_
  refine r_bipush (pc := 64) p163 k163_64 (v := (63 : Int32)) rfl ?_
  refine r_iand (pc := 66) p163 k163_66 ?_
  refine r_bipush (pc := 67) p163 k163_67 (v := (25 : Int32)) rfl ?_
  refine r_ishl (pc := 69) p163 k163_69 ?_
  refine r_ior (pc := 70) p163 k163_70 ?_
  refine r_iload_n (pc := 71) p163 k163_71 h3 ?_
  refine r_bipush (pc := 72) p163 k163_72 (v := (20 : Int32)) rfl ?_
  refine r_ishl (pc := 74) p163 k163_74 ?_
  refine r_ior (pc := 75) p163 k163_75 ?_
  refine r_iload_n (pc := 76) p163 k163_76 h2 ?_
  refine r_bipush (pc := 77) p163 k163_77 (v := (15 : Int32)) rfl ?_
  refine r_ishl (pc := 79) p163 k163_79 ?_
  refine r_ior (pc := 80) p163 k163_80 ?_
  refine r_iload_n (pc := 81) p163 k163_81 h1 ?_
  refine r_bipush (pc := 82) p163 k163_82 (v := (12 : Int32)) rfl ?_
  refine r_ishl (pc := 84) p163 k163_84 ?_
  refine r_ior (pc := 85) p163 k163_85 ?_
  refine r_iload (pc := 86) p163 k163_86 h5 ?_
  refine r_iconst (pc := 88) p163 k163_88 (v := (1 : Int32)) rfl ?_
  refine r_ishr (pc := 89) p163 k163_89 ?_
  refine r_bipush (pc := 90) p163 k163_90 (v := (15 : Int32)) rfl ?_
  refine r_iand (pc := 92) p163 k163_92 ?_
  refine r_bipush (pc := 93) p163 k163_93 (v := (8 : Int32)) rfl ?_
  refine r_ishl (pc := 95) p163 k163_95 ?_
  refine r_ior (pc := 96) p163 k163_96 ?_
  refine r_iload (pc := 97) p163 k163_97 h5 ?_
  refine r_bipush (pc := 99) p163 k163_99 (v := (11 : Int32)) rfl ?_
  refine r_ishr (pc := 101) p163 k163_101 ?_
  refine r_iconst (pc := 102) p163 k163_102 (v := (1 : Int32)) rfl ?_
  refine r_iand (pc := 103) p163 k163_103 ?_
  refine r_bipush (pc := 104) p163 k163_104 (v := (7 : Int32)) rfl ?_
  refine r_ishl (pc := 106) p163 k163_106 ?_
  refine r_ior (pc := 107) p163 k163_107 ?_
  refine r_bipush (pc := 108) p163 k163_108 (v := (99 : Int32)) rfl ?_
  refine r_ior (pc := 110) p163 k163_110 ?_
  refine r_iconst (pc := 111) p163 k163_111 (v := (4 : Int32)) rfl ?_
  obtain ⟨r1, er1, e⟩ := of_bind e
  refine m_cv hn (pc := 112) p163 k163_112 rfl p144 (r := []) rfl rfl rfl rfl rfl (t144 hn (mg s 37 y0) ((((((((((x5 >>> ((12 : Int32) &&& 31)) &&& (1 : Int32)) <<< ((31 : Int32) &&& 31)) ||| (((x5 >>> ((5 : Int32) &&& 31)) &&& (63 : Int32)) <<< ((25 : Int32) &&& 31))) ||| (x3 <<< ((20 : Int32) &&& 31))) ||| (x2 <<< ((15 : Int32) &&& 31))) ||| (x1 <<< ((12 : Int32) &&& 31))) ||| (((x5 >>> ((1 : Int32) &&& 31)) &&& (15 : Int32)) <<< ((8 : Int32) &&& 31))) ||| (((x5 >>> ((11 : Int32) &&& 31)) &&& (1 : Int32)) <<< ((7 : Int32) &&& 31))) ||| (99 : Int32)) (4 : Int32) r1 er1) (w := []) rfl ?_
  cases e
  exact r_retV (pc := 115) p163 k163_115 rfl
def f163_41 (s : mS) (x1 : Int32) (x2 : Int32) (x3 : Int32) (x5 : Int32) : Option mS := f163_46 s x1 x2 x3 x5 (1 : Int32)
theorem t163_41 {d n : Nat} {Z : Nat → ab_C} (hn : 42 ≤ n) : ∀ (s : mS) (l : ab_L) (x1 : Int32) (x2 : Int32) (x3 : Int32) (x5 : Int32) (h0 : ab_get l 0 = some (.ref 22)) (h1 : ab_get l 1 = some (.int x1)) (h2 : ab_get l 2 = some (.int x2)) (h3 : ab_get l 3 = some (.int x3)) (h5 : ab_get l 5 = some (.int x5)) (r : mS) (e : f163_41 s x1 x2 x3 x5 = some r), ab_Rn (d + 1) 163 41 l [.ref 22] (ab_hl n (mm_F s Z)) (.inl none) (ab_hl n (mm_F r Z)) := by
  intro s l x1 x2 x3 x5 h0 h1 h2 h3 h5 r e
  unfold f163_41 at e
  refine r_iconst (pc := 41) p163 k163_41 (v := (1 : Int32)) rfl ?_
  refine r_goto (pc := 42) p163 k163_42 ?_
  exact t163_46 hn s l x1 x2 x3 x5 (1 : Int32) h0 h1 h2 h3 h5 r e
def f163_45 (s : mS) (x1 : Int32) (x2 : Int32) (x3 : Int32) (x5 : Int32) : Option mS := f163_46 s x1 x2 x3 x5 (0 : Int32)
theorem t163_45 {d n : Nat} {Z : Nat → ab_C} (hn : 42 ≤ n) : ∀ (s : mS) (l : ab_L) (x1 : Int32) (x2 : Int32) (x3 : Int32) (x5 : Int32) (h0 : ab_get l 0 = some (.ref 22)) (h1 : ab_get l 1 = some (.int x1)) (h2 : ab_get l 2 = some (.int x2)) (h3 : ab_get l 3 = some (.int x3)) (h5 : ab_get l 5 = some (.int x5)) (r : mS) (e : f163_45 s x1 x2 x3 x5 = some r), ab_Rn (d + 1) 163 45 l [.ref 22] (ab_hl n (mm_F s Z)) (.inl none) (ab_hl n (mm_F r Z)) := by
  intro s l x1 x2 x3 x5 h0 h1 h2 h3 h5 r e
  unfold f163_45 at e
  refine r_iconst (pc := 45) p163 k163_45 (v := (0 : Int32)) rfl ?_
  exact t163_46 hn s l x1 x2 x3 x5 (0 : Int32) h0 h1 h2 h3 h5 r e
def f163 (s : mS) (x1 : Int32) (x2 : Int32) (x3 : Int32) (x4 : Int32) : Option mS := ((f159 s (x4 - (s.1 33)) (-4096 : Int32) (4094 : Int32)).bind fun r1 => (if (r1.2.1 37) = 0 then (if (r1.2.1 19) = 0 then f163_45 r1.2 x1 x2 x3 r1.1 else (if (r1.1 - r1.1 / (2 : Int32) * (2 : Int32)) = 0 then f163_45 r1.2 x1 x2 x3 r1.1 else f163_41 r1.2 x1 x2 x3 r1.1)) else f163_41 r1.2 x1 x2 x3 r1.1))
theorem t163 {d n : Nat} {Z : Nat → ab_C} (hn : 42 ≤ n) (s : mS) (x1 : Int32) (x2 : Int32) (x3 : Int32) (x4 : Int32) (r : mS) (e : f163 s x1 x2 x3 x4 = some r) : ab_Rn (d + 1) 163 0 (lv_args 0 [.ref 22, .int x1, .int x2, .int x3, .int x4]) [] (ab_hl n (mm_F s Z)) (.inl none) (ab_hl n (mm_F r Z)) := by
  unfold f163 at e
  obtain ⟨l, hl⟩ : ∃ l, l = (lv_args 0 [.ref 22, .int x1, .int x2, .int x3, .int x4]) := ⟨_, rfl⟩
  rw [← hl]
  have h0 : ab_get l 0 = some (.ref 22) := by rw [hl]; rfl
  have h1 : ab_get l 1 = some (.int x1) := by rw [hl]; rfl
  have h2 : ab_get l 2 = some (.int x2) := by rw [hl]; rfl
  have h3 : ab_get l 3 = some (.int x3) := by rw [hl]; rfl
  have h4 : ab_get l 4 = some (.int x4) := by rw [hl]; rfl
  refine r_aload_n (pc := 0) p163 k163_0 h0 ?_
  refine r_iload (pc := 1) p163 k163_1 h4 ?_
  refine r_aload_n (pc := 3) p163 k163_3 h0 ?_
  refine m_get hn (pc := 4) p163 k163_4 (v := .int (s.1 33)) rfl ?_
  refine r_isub (pc := 7) p163 k163_7 ?_
  refine r_sipush (pc := 8) p163 k163_8 (v := (-4096 : Int32)) rfl ?_
  refine r_sipush (pc := 11) p163 k163_11 (v := (4094 : Int32)) rfl ?_
  obtain ⟨r1, er1, e⟩ := of_bind e
  refine m_cv hn (pc := 14) p163 k163_14 rfl p159 (r := []) rfl rfl rfl rfl rfl (t159 hn s (x4 - (s.1 33)) (-4096 : Int32) (4094 : Int32) r1 er1) (w := [.int r1.1]) rfl ?_
  refine r_istore (pc := 17) p163 k163_17 (by decide) (fun l g h5 => ?_)
  have h0 := g 0 _ (by decide) h0 (Or.inl rfl)
  have h1 := g 1 _ (by decide) h1 (Or.inl rfl)
  have h2 := g 2 _ (by decide) h2 (Or.inl rfl)
  have h3 := g 3 _ (by decide) h3 (Or.inl rfl)
  refine r_aload_n (pc := 19) p163 k163_19 h0 ?_
  refine r_aload_n (pc := 20) p163 k163_20 h0 ?_
  refine m_get hn (pc := 21) p163 k163_21 (v := .int (r1.2.1 37)) rfl ?_
  refine r_if_ne (pc := 24) p163 k163_24 (fun c => ?_) (fun c => ?_)
  · have e := (if_neg c).symm.trans e
    exact t163_41 hn r1.2 l x1 x2 x3 r1.1 h0 h1 h2 h3 h5 r e
  · have e := (if_pos c).symm.trans e
    refine r_aload_n (pc := 27) p163 k163_27 h0 ?_
    refine m_get hn (pc := 28) p163 k163_28 (v := .int (r1.2.1 19)) rfl ?_
    refine r_if_eq (pc := 31) p163 k163_31 (fun c => ?_) (fun c => ?_)
    · have e := (if_pos c).symm.trans e
      exact t163_45 hn r1.2 l x1 x2 x3 r1.1 h0 h1 h2 h3 h5 r e
    · have e := (if_neg c).symm.trans e
      refine r_iload (pc := 34) p163 k163_34 h5 ?_
      refine r_iconst (pc := 36) p163 k163_36 (v := (2 : Int32)) rfl ?_
      refine r_irem (pc := 37) p163 k163_37 (by decide) ?_
      refine r_if_eq (pc := 38) p163 k163_38 (fun c => ?_) (fun c => ?_)
      · have e := (if_pos c).symm.trans e
        exact t163_45 hn r1.2 l x1 x2 x3 r1.1 h0 h1 h2 h3 h5 r e
      · have e := (if_neg c).symm.trans e
        exact t163_41 hn r1.2 l x1 x2 x3 r1.1 h0 h1 h2 h3 h5 r e

theorem p164 : ab_prog[164]? = some (ab_m164, ab_c164) := rfl
theorem k164_0 : ab_fetch ab_c164 0 = some (.aload_n 0, 1, 0, 0) := rfl
theorem k164_1 : ab_fetch ab_c164 1 = some (.iload_n 2, 1, 0, 0) := rfl
theorem k164_2 : ab_fetch ab_c164 2 = some (.aload_n 0, 1, 0, 0) := rfl
theorem k164_3 : ab_fetch ab_c164 3 = some (.getfield 449, 3, 6, 33) := rfl
theorem k164_6 : ab_fetch ab_c164 6 = some (.isub, 1, 0, 0) := rfl
theorem k164_7 : ab_fetch ab_c164 7 = some (.ldc_w 489, 3, 4293918720, 0) := rfl
theorem k164_10 : ab_fetch ab_c164 10 = some (.ldc_w 490, 3, 1048574, 0) := rfl
theorem k164_13 : ab_fetch ab_c164 13 = some (.invokevirtual 483, 3, 159, 3) := rfl
theorem k164_16 : ab_fetch ab_c164 16 = some (.istore_n 3, 1, 0, 0) := rfl
theorem k164_17 : ab_fetch ab_c164 17 = some (.aload_n 0, 1, 0, 0) := rfl
theorem k164_18 : ab_fetch ab_c164 18 = some (.aload_n 0, 1, 0, 0) := rfl
theorem k164_19 : ab_fetch ab_c164 19 = some (.getfield 480, 3, 6, 37) := rfl
theorem k164_22 : ab_fetch ab_c164 22 = some (.ifCond .ne 16, 3, 38, 0) := rfl
theorem k164_25 : ab_fetch ab_c164 25 = some (.aload_n 0, 1, 0, 0) := rfl
theorem k164_26 : ab_fetch ab_c164 26 = some (.getfield 408, 3, 6, 19) := rfl
theorem k164_29 : ab_fetch ab_c164 29 = some (.ifCond .eq 13, 3, 42, 0) := rfl
theorem k164_32 : ab_fetch ab_c164 32 = some (.iload_n 3, 1, 0, 0) := rfl
theorem k164_33 : ab_fetch ab_c164 33 = some (.iconst 2, 1, 0, 0) := rfl
theorem k164_34 : ab_fetch ab_c164 34 = some (.irem, 1, 0, 0) := rfl
theorem k164_35 : ab_fetch ab_c164 35 = some (.ifCond .eq 7, 3, 42, 0) := rfl
theorem k164_38 : ab_fetch ab_c164 38 = some (.iconst 1, 1, 0, 0) := rfl
theorem k164_39 : ab_fetch ab_c164 39 = some (.goto 4, 3, 43, 0) := rfl
theorem k164_42 : ab_fetch ab_c164 42 = some (.iconst 0, 1, 0, 0) := rfl
theorem k164_43 : ab_fetch ab_c164 43 = some (.putfield 480, 3, 6, 37) := rfl
theorem k164_46 : ab_fetch ab_c164 46 = some (.aload_n 0, 1, 0, 0) := rfl
theorem k164_47 : ab_fetch ab_c164 47 = some (.iload_n 3, 1, 0, 0) := rfl
theorem k164_48 : ab_fetch ab_c164 48 = some (.bipush 20, 2, 0, 0) := rfl
theorem k164_50 : ab_fetch ab_c164 50 = some (.ishr, 1, 0, 0) := rfl
theorem k164_51 : ab_fetch ab_c164 51 = some (.iconst 1, 1, 0, 0) := rfl
theorem k164_52 : ab_fetch ab_c164 52 = some (.iand, 1, 0, 0) := rfl
theorem k164_53 : ab_fetch ab_c164 53 = some (.bipush 31, 2, 0, 0) := rfl
theorem k164_55 : ab_fetch ab_c164 55 = some (.ishl, 1, 0, 0) := rfl
theorem k164_56 : ab_fetch ab_c164 56 = some (.iload_n 3, 1, 0, 0) := rfl
theorem k164_57 : ab_fetch ab_c164 57 = some (.iconst 1, 1, 0, 0) := rfl
theorem k164_58 : ab_fetch ab_c164 58 = some (.ishr, 1, 0, 0) := rfl
theorem k164_59 : ab_fetch ab_c164 59 = some (.sipush 1023, 3, 0, 0) := rfl
theorem k164_62 : ab_fetch ab_c164 62 = some (.iand, 1, 0, 0) := rfl
theorem k164_63 : ab_fetch ab_c164 63 = some (.bipush 21, 2, 0, 0) := rfl
theorem k164_65 : ab_fetch ab_c164 65 = some (.ishl, 1, 0, 0) := rfl
theorem k164_66 : ab_fetch ab_c164 66 = some (.ior, 1, 0, 0) := rfl
theorem k164_67 : ab_fetch ab_c164 67 = some (.iload_n 3, 1, 0, 0) := rfl
theorem k164_68 : ab_fetch ab_c164 68 = some (.bipush 11, 2, 0, 0) := rfl
theorem k164_70 : ab_fetch ab_c164 70 = some (.ishr, 1, 0, 0) := rfl
theorem k164_71 : ab_fetch ab_c164 71 = some (.iconst 1, 1, 0, 0) := rfl
theorem k164_72 : ab_fetch ab_c164 72 = some (.iand, 1, 0, 0) := rfl
theorem k164_73 : ab_fetch ab_c164 73 = some (.bipush 20, 2, 0, 0) := rfl
theorem k164_75 : ab_fetch ab_c164 75 = some (.ishl, 1, 0, 0) := rfl
theorem k164_76 : ab_fetch ab_c164 76 = some (.ior, 1, 0, 0) := rfl
theorem k164_77 : ab_fetch ab_c164 77 = some (.iload_n 3, 1, 0, 0) := rfl
theorem k164_78 : ab_fetch ab_c164 78 = some (.bipush 12, 2, 0, 0) := rfl
theorem k164_80 : ab_fetch ab_c164 80 = some (.ishr, 1, 0, 0) := rfl
theorem k164_81 : ab_fetch ab_c164 81 = some (.sipush 255, 3, 0, 0) := rfl
theorem k164_84 : ab_fetch ab_c164 84 = some (.iand, 1, 0, 0) := rfl
theorem k164_85 : ab_fetch ab_c164 85 = some (.bipush 12, 2, 0, 0) := rfl
theorem k164_87 : ab_fetch ab_c164 87 = some (.ishl, 1, 0, 0) := rfl
theorem k164_88 : ab_fetch ab_c164 88 = some (.ior, 1, 0, 0) := rfl
theorem k164_89 : ab_fetch ab_c164 89 = some (.iload_n 1, 1, 0, 0) := rfl
theorem k164_90 : ab_fetch ab_c164 90 = some (.bipush 7, 2, 0, 0) := rfl
theorem k164_92 : ab_fetch ab_c164 92 = some (.ishl, 1, 0, 0) := rfl
theorem k164_93 : ab_fetch ab_c164 93 = some (.ior, 1, 0, 0) := rfl
theorem k164_94 : ab_fetch ab_c164 94 = some (.bipush 111, 2, 0, 0) := rfl
theorem k164_96 : ab_fetch ab_c164 96 = some (.ior, 1, 0, 0) := rfl
theorem k164_97 : ab_fetch ab_c164 97 = some (.iconst 4, 1, 0, 0) := rfl
theorem k164_98 : ab_fetch ab_c164 98 = some (.invokevirtual 486, 3, 144, 2) := rfl
theorem k164_101 : ab_fetch ab_c164 101 = some (.return_, 1, 0, 0) := rfl
/- CodeSmithModel jump(II)V -/
def f164_43 (s : mS) (x1 : Int32) (x3 : Int32) (y0 : Int32) : Option mS := if bz y0 then ((f144 (mg s 37 y0) ((((((((x3 >>> ((20 : Int32) &&& 31)) &&& (1 : Int32)) <<< ((31 : Int32) &&& 31)) ||| (((x3 >>> ((1 : Int32) &&& 31)) &&& (1023 : Int32)) <<< ((21 : Int32) &&& 31))) ||| (((x3 >>> ((11 : Int32) &&& 31)) &&& (1 : Int32)) <<< ((20 : Int32) &&& 31))) ||| (((x3 >>> ((12 : Int32) &&& 31)) &&& (255 : Int32)) <<< ((12 : Int32) &&& 31))) ||| (x1 <<< ((7 : Int32) &&& 31))) ||| (111 : Int32)) (4 : Int32)).bind fun r1 => some r1) else none
theorem t164_43 {d n : Nat} {Z : Nat → ab_C} (hn : 42 ≤ n) : ∀ (s : mS) (l : ab_L) (x1 : Int32) (x3 : Int32) (y0 : Int32) (h0 : ab_get l 0 = some (.ref 22)) (h1 : ab_get l 1 = some (.int x1)) (h3 : ab_get l 3 = some (.int x3)) (r : mS) (e : f164_43 s x1 x3 y0 = some r), ab_Rn (d + 1) 164 43 l [.int y0, .ref 22] (ab_hl n (mm_F s Z)) (.inl none) (ab_hl n (mm_F r Z)) := by
  intro s l x1 x3 y0 h0 h1 h3 r e
  unfold f164_43 at e
  obtain ⟨c, e⟩ := of_if e
  refine m_put hn (pc := 43) p164 k164_43 rfl rfl (bz_fit c) rfl ?_
  refine r_aload_n (pc := 46) p164 k164_46 h0 ?_
  refine r_iload_n (pc := 47) p164 k164_47 h3 ?_
  refine r_bipush (pc := 48) p164 k164_48 (v := (20 : Int32)) rfl ?_
  refine r_ishr (pc := 50) p164 k164_50 ?_
  refine r_iconst (pc := 51) p164 k164_51 (v := (1 : Int32)) rfl ?_
  refine r_iand (pc := 52) p164 k164_52 ?_
  refine r_bipush (pc := 53) p164 k164_53 (v := (31 : Int32)) rfl ?_
  refine r_ishl (pc := 55) p164 k164_55 ?_
  refine r_iload_n (pc := 56) p164 k164_56 h3 ?_
  refine r_iconst (pc := 57) p164 k164_57 (v := (1 : Int32)) rfl ?_
  refine r_ishr (pc := 58) p164 k164_58 ?_
  refine r_sipush (pc := 59) p164 k164_59 (v := (1023 : Int32)) rfl ?_
  refine r_iand (pc := 62) p164 k164_62 ?_
  refine r_bipush (pc := 63) p164 k164_63 (v := (21 : Int32)) rfl ?_
  refine r_ishl (pc := 65) p164 k164_65 ?_
  refine r_ior (pc := 66) p164 k164_66 ?_
  refine r_iload_n (pc := 67) p164 k164_67 h3 ?_
  refine r_bipush (pc := 68) p164 k164_68 (v := (11 : Int32)) rfl ?_
  refine r_ishr (pc := 70) p164 k164_70 ?_
  refine r_iconst (pc := 71) p164 k164_71 (v := (1 : Int32)) rfl ?_
  refine r_iand (pc := 72) p164 k164_72 ?_
  refine r_bipush (pc := 73) p164 k164_73 (v := (20 : Int32)) rfl ?_
  refine r_ishl (pc := 75) p164 k164_75 ?_
  refine r_ior (pc := 76) p164 k164_76 ?_
  refine r_iload_n (pc := 77) p164 k164_77 h3 ?_
  refine r_bipush (pc := 78) p164 k164_78 (v := (12 : Int32)) rfl ?_
  refine r_ishr (pc := 80) p164 k164_80 ?_
  refine r_sipush (pc := 81) p164 k164_81 (v := (255 : Int32)) rfl ?_
  refine r_iand (pc := 84) p164 k164_84 ?_
  refine r_bipush (pc := 85) p164 k164_85 (v := (12 : Int32)) rfl ?_
  refine r_ishl (pc := 87) p164 k164_87 ?_
  refine r_ior (pc := 88) p164 k164_88 ?_
  refine r_iload_n (pc := 89) p164 k164_89 h1 ?_
  refine r_bipush (pc := 90) p164 k164_90 (v := (7 : Int32)) rfl ?_
  refine r_ishl (pc := 92) p164 k164_92 ?_
  refine r_ior (pc := 93) p164 k164_93 ?_
  refine r_bipush (pc := 94) p164 k164_94 (v := (111 : Int32)) rfl ?_
  refine r_ior (pc := 96) p164 k164_96 ?_
  refine r_iconst (pc := 97) p164 k164_97 (v := (4 : Int32)) rfl ?_
  obtain ⟨r1, er1, e⟩ := of_bind e
  refine m_cv hn (pc := 98) p164 k164_98 rfl p144 (r := []) rfl rfl rfl rfl rfl (t144 hn (mg s 37 y0) ((((((((x3 >>> ((20 : Int32) &&& 31)) &&& (1 : Int32)) <<< ((31 : Int32) &&& 31)) ||| (((x3 >>> ((1 : Int32) &&& 31)) &&& (1023 : Int32)) <<< ((21 : Int32) &&& 31))) ||| (((x3 >>> ((11 : Int32) &&& 31)) &&& (1 : Int32)) <<< ((20 : Int32) &&& 31))) ||| (((x3 >>> ((12 : Int32) &&& 31)) &&& (255 : Int32)) <<< ((12 : Int32) &&& 31))) ||| (x1 <<< ((7 : Int32) &&& 31))) ||| (111 : Int32)) (4 : Int32) r1 er1) (w := []) rfl ?_
  cases e
  exact r_retV (pc := 101) p164 k164_101 rfl
def f164_38 (s : mS) (x1 : Int32) (x3 : Int32) : Option mS := f164_43 s x1 x3 (1 : Int32)
theorem t164_38 {d n : Nat} {Z : Nat → ab_C} (hn : 42 ≤ n) : ∀ (s : mS) (l : ab_L) (x1 : Int32) (x3 : Int32) (h0 : ab_get l 0 = some (.ref 22)) (h1 : ab_get l 1 = some (.int x1)) (h3 : ab_get l 3 = some (.int x3)) (r : mS) (e : f164_38 s x1 x3 = some r), ab_Rn (d + 1) 164 38 l [.ref 22] (ab_hl n (mm_F s Z)) (.inl none) (ab_hl n (mm_F r Z)) := by
  intro s l x1 x3 h0 h1 h3 r e
  unfold f164_38 at e
  refine r_iconst (pc := 38) p164 k164_38 (v := (1 : Int32)) rfl ?_
  refine r_goto (pc := 39) p164 k164_39 ?_
  exact t164_43 hn s l x1 x3 (1 : Int32) h0 h1 h3 r e
def f164_42 (s : mS) (x1 : Int32) (x3 : Int32) : Option mS := f164_43 s x1 x3 (0 : Int32)
theorem t164_42 {d n : Nat} {Z : Nat → ab_C} (hn : 42 ≤ n) : ∀ (s : mS) (l : ab_L) (x1 : Int32) (x3 : Int32) (h0 : ab_get l 0 = some (.ref 22)) (h1 : ab_get l 1 = some (.int x1)) (h3 : ab_get l 3 = some (.int x3)) (r : mS) (e : f164_42 s x1 x3 = some r), ab_Rn (d + 1) 164 42 l [.ref 22] (ab_hl n (mm_F s Z)) (.inl none) (ab_hl n (mm_F r Z)) := by
  intro s l x1 x3 h0 h1 h3 r e
  unfold f164_42 at e
  refine r_iconst (pc := 42) p164 k164_42 (v := (0 : Int32)) rfl ?_
  exact t164_43 hn s l x1 x3 (0 : Int32) h0 h1 h3 r e
def f164 (s : mS) (x1 : Int32) (x2 : Int32) : Option mS := ((f159 s (x2 - (s.1 33)) (-1048576 : Int32) (1048574 : Int32)).bind fun r1 => (if (r1.2.1 37) = 0 then (if (r1.2.1 19) = 0 then f164_42 r1.2 x1 r1.1 else (if (r1.1 - r1.1 / (2 : Int32) * (2 : Int32)) = 0 then f164_42 r1.2 x1 r1.1 else f164_38 r1.2 x1 r1.1)) else f164_38 r1.2 x1 r1.1))
theorem t164 {d n : Nat} {Z : Nat → ab_C} (hn : 42 ≤ n) (s : mS) (x1 : Int32) (x2 : Int32) (r : mS) (e : f164 s x1 x2 = some r) : ab_Rn (d + 1) 164 0 (lv_args 0 [.ref 22, .int x1, .int x2]) [] (ab_hl n (mm_F s Z)) (.inl none) (ab_hl n (mm_F r Z)) := by
  unfold f164 at e
  obtain ⟨l, hl⟩ : ∃ l, l = (lv_args 0 [.ref 22, .int x1, .int x2]) := ⟨_, rfl⟩
  rw [← hl]
  have h0 : ab_get l 0 = some (.ref 22) := by rw [hl]; rfl
  have h1 : ab_get l 1 = some (.int x1) := by rw [hl]; rfl
  have h2 : ab_get l 2 = some (.int x2) := by rw [hl]; rfl
  refine r_aload_n (pc := 0) p164 k164_0 h0 ?_
  refine r_iload_n (pc := 1) p164 k164_1 h2 ?_
  refine r_aload_n (pc := 2) p164 k164_2 h0 ?_
  refine m_get hn (pc := 3) p164 k164_3 (v := .int (s.1 33)) rfl ?_
  refine r_isub (pc := 6) p164 k164_6 ?_
  refine r_ldcwI (pc := 7) p164 k164_7 (v := (-1048576 : Int32)) rfl ?_
  refine r_ldcwI (pc := 10) p164 k164_10 (v := (1048574 : Int32)) rfl ?_
  obtain ⟨r1, er1, e⟩ := of_bind e
  refine m_cv hn (pc := 13) p164 k164_13 rfl p159 (r := []) rfl rfl rfl rfl rfl (t159 hn s (x2 - (s.1 33)) (-1048576 : Int32) (1048574 : Int32) r1 er1) (w := [.int r1.1]) rfl ?_
  refine r_istore_n (pc := 16) p164 k164_16 (by decide) (fun l g h3 => ?_)
  have h0 := g 0 _ (by decide) h0 (Or.inl rfl)
  have h1 := g 1 _ (by decide) h1 (Or.inl rfl)
  refine r_aload_n (pc := 17) p164 k164_17 h0 ?_
  refine r_aload_n (pc := 18) p164 k164_18 h0 ?_
  refine m_get hn (pc := 19) p164 k164_19 (v := .int (r1.2.1 37)) rfl ?_
  refine r_if_ne (pc := 22) p164 k164_22 (fun c => ?_) (fun c => ?_)
  · have e := (if_neg c).symm.trans e
    exact t164_38 hn r1.2 l x1 r1.1 h0 h1 h3 r e
  · have e := (if_pos c).symm.trans e
    refine r_aload_n (pc := 25) p164 k164_25 h0 ?_
    refine m_get hn (pc := 26) p164 k164_26 (v := .int (r1.2.1 19)) rfl ?_
    refine r_if_eq (pc := 29) p164 k164_29 (fun c => ?_) (fun c => ?_)
    · have e := (if_pos c).symm.trans e
      exact t164_42 hn r1.2 l x1 r1.1 h0 h1 h3 r e
    · have e := (if_neg c).symm.trans e
      refine r_iload_n (pc := 32) p164 k164_32 h3 ?_
      refine r_iconst (pc := 33) p164 k164_33 (v := (2 : Int32)) rfl ?_
      refine r_irem (pc := 34) p164 k164_34 (by decide) ?_
      refine r_if_eq (pc := 35) p164 k164_35 (fun c => ?_) (fun c => ?_)
      · have e := (if_pos c).symm.trans e
        exact t164_42 hn r1.2 l x1 r1.1 h0 h1 h3 r e
      · have e := (if_neg c).symm.trans e
        exact t164_38 hn r1.2 l x1 r1.1 h0 h1 h3 r e

theorem p138 : ab_prog[138]? = some (ab_m138, ab_c138) := rfl
theorem k138_0 : ab_fetch ab_c138 0 = some (.iload_n 1, 1, 0, 0) := rfl
theorem k138_1 : ab_fetch ab_c138 1 = some (.bipush 51, 2, 0, 0) := rfl
theorem k138_3 : ab_fetch ab_c138 3 = some (.if_icmp .ge 12, 3, 15, 0) := rfl
theorem k138_6 : ab_fetch ab_c138 6 = some (.aload_n 0, 1, 0, 0) := rfl
theorem k138_7 : ab_fetch ab_c138 7 = some (.getfield 248, 3, 6, 2) := rfl
theorem k138_10 : ab_fetch ab_c138 10 = some (.iload_n 1, 1, 0, 0) := rfl
theorem k138_11 : ab_fetch ab_c138 11 = some (.iaload, 1, 0, 0) := rfl
theorem k138_12 : ab_fetch ab_c138 12 = some (.goto 4, 3, 16, 0) := rfl
theorem k138_15 : ab_fetch ab_c138 15 = some (.iconst 0, 1, 0, 0) := rfl
theorem k138_16 : ab_fetch ab_c138 16 = some (.istore_n 2, 1, 0, 0) := rfl
theorem k138_17 : ab_fetch ab_c138 17 = some (.iload_n 1, 1, 0, 0) := rfl
theorem k138_18 : ab_fetch ab_c138 18 = some (.bipush 18, 2, 0, 0) := rfl
theorem k138_20 : ab_fetch ab_c138 20 = some (.if_icmp .ge 60, 3, 80, 0) := rfl
theorem k138_23 : ab_fetch ab_c138 23 = some (.aload_n 0, 1, 0, 0) := rfl
theorem k138_24 : ab_fetch ab_c138 24 = some (.invokevirtual 512, 3, 139, 0) := rfl
theorem k138_27 : ab_fetch ab_c138 27 = some (.istore_n 3, 1, 0, 0) := rfl
theorem k138_28 : ab_fetch ab_c138 28 = some (.aload_n 0, 1, 0, 0) := rfl
theorem k138_29 : ab_fetch ab_c138 29 = some (.invokevirtual 512, 3, 139, 0) := rfl
theorem k138_32 : ab_fetch ab_c138 32 = some (.istore 4, 2, 0, 0) := rfl
theorem k138_34 : ab_fetch ab_c138 34 = some (.aload_n 0, 1, 0, 0) := rfl
theorem k138_35 : ab_fetch ab_c138 35 = some (.iload_n 1, 1, 0, 0) := rfl
theorem k138_36 : ab_fetch ab_c138 36 = some (.iconst 1, 1, 0, 0) := rfl
theorem k138_37 : ab_fetch ab_c138 37 = some (.if_icmp .eq 9, 3, 46, 0) := rfl
theorem k138_40 : ab_fetch ab_c138 40 = some (.iload_n 1, 1, 0, 0) := rfl
theorem k138_41 : ab_fetch ab_c138 41 = some (.bipush 7, 2, 0, 0) := rfl
theorem k138_43 : ab_fetch ab_c138 43 = some (.if_icmp .ne 8, 3, 51, 0) := rfl
theorem k138_46 : ab_fetch ab_c138 46 = some (.bipush 32, 2, 0, 0) := rfl
theorem k138_48 : ab_fetch ab_c138 48 = some (.goto 14, 3, 62, 0) := rfl
theorem k138_51 : ab_fetch ab_c138 51 = some (.iload_n 1, 1, 0, 0) := rfl
theorem k138_52 : ab_fetch ab_c138 52 = some (.bipush 9, 2, 0, 0) := rfl
theorem k138_54 : ab_fetch ab_c138 54 = some (.if_icmp .le 7, 3, 61, 0) := rfl
theorem k138_57 : ab_fetch ab_c138 57 = some (.iconst 1, 1, 0, 0) := rfl
theorem k138_58 : ab_fetch ab_c138 58 = some (.goto 4, 3, 62, 0) := rfl
theorem k138_61 : ab_fetch ab_c138 61 = some (.iconst 0, 1, 0, 0) := rfl
theorem k138_62 : ab_fetch ab_c138 62 = some (.aload_n 0, 1, 0, 0) := rfl
theorem k138_63 : ab_fetch ab_c138 63 = some (.invokevirtual 491, 3, 140, 0) := rfl
theorem k138_66 : ab_fetch ab_c138 66 = some (.iload 4, 2, 0, 0) := rfl
theorem k138_68 : ab_fetch ab_c138 68 = some (.iload_n 2, 1, 0, 0) := rfl
theorem k138_69 : ab_fetch ab_c138 69 = some (.iload_n 3, 1, 0, 0) := rfl
theorem k138_70 : ab_fetch ab_c138 70 = some (.invokestatic 515, 3, 143, 5) := rfl
theorem k138_73 : ab_fetch ab_c138 73 = some (.iconst 4, 1, 0, 0) := rfl
theorem k138_74 : ab_fetch ab_c138 74 = some (.invokevirtual 486, 3, 144, 2) := rfl
theorem k138_77 : ab_fetch ab_c138 77 = some (.goto 523, 3, 600, 0) := rfl
theorem k138_80 : ab_fetch ab_c138 80 = some (.iload_n 1, 1, 0, 0) := rfl
theorem k138_81 : ab_fetch ab_c138 81 = some (.bipush 27, 2, 0, 0) := rfl
theorem k138_83 : ab_fetch ab_c138 83 = some (.if_icmp .ge 85, 3, 168, 0) := rfl
theorem k138_86 : ab_fetch ab_c138 86 = some (.aload_n 0, 1, 0, 0) := rfl
theorem k138_87 : ab_fetch ab_c138 87 = some (.invokevirtual 512, 3, 139, 0) := rfl
theorem k138_90 : ab_fetch ab_c138 90 = some (.istore_n 3, 1, 0, 0) := rfl
theorem k138_91 : ab_fetch ab_c138 91 = some (.aload_n 0, 1, 0, 0) := rfl
theorem k138_92 : ab_fetch ab_c138 92 = some (.invokevirtual 512, 3, 139, 0) := rfl
theorem k138_95 : ab_fetch ab_c138 95 = some (.istore 4, 2, 0, 0) := rfl
theorem k138_97 : ab_fetch ab_c138 97 = some (.aload_n 0, 1, 0, 0) := rfl
theorem k138_98 : ab_fetch ab_c138 98 = some (.aload_n 0, 1, 0, 0) := rfl
theorem k138_99 : ab_fetch ab_c138 99 = some (.invokevirtual 502, 3, 145, 0) := rfl
theorem k138_102 : ab_fetch ab_c138 102 = some (.iload_n 1, 1, 0, 0) := rfl
theorem k138_103 : ab_fetch ab_c138 103 = some (.bipush 24, 2, 0, 0) := rfl
theorem k138_105 : ab_fetch ab_c138 105 = some (.if_icmp .ge 9, 3, 114, 0) := rfl
theorem k138_108 : ab_fetch ab_c138 108 = some (.sipush (-2048), 3, 0, 0) := rfl
theorem k138_111 : ab_fetch ab_c138 111 = some (.goto 4, 3, 115, 0) := rfl
theorem k138_114 : ab_fetch ab_c138 114 = some (.iconst 0, 1, 0, 0) := rfl
theorem k138_115 : ab_fetch ab_c138 115 = some (.iload_n 1, 1, 0, 0) := rfl
theorem k138_116 : ab_fetch ab_c138 116 = some (.bipush 24, 2, 0, 0) := rfl
theorem k138_118 : ab_fetch ab_c138 118 = some (.if_icmp .ge 9, 3, 127, 0) := rfl
theorem k138_121 : ab_fetch ab_c138 121 = some (.sipush 2047, 3, 0, 0) := rfl
theorem k138_124 : ab_fetch ab_c138 124 = some (.goto 5, 3, 129, 0) := rfl
theorem k138_127 : ab_fetch ab_c138 127 = some (.bipush 31, 2, 0, 0) := rfl
theorem k138_129 : ab_fetch ab_c138 129 = some (.invokevirtual 483, 3, 159, 3) := rfl
theorem k138_132 : ab_fetch ab_c138 132 = some (.istore 5, 2, 0, 0) := rfl
theorem k138_134 : ab_fetch ab_c138 134 = some (.aload_n 0, 1, 0, 0) := rfl
theorem k138_135 : ab_fetch ab_c138 135 = some (.iload_n 1, 1, 0, 0) := rfl
theorem k138_136 : ab_fetch ab_c138 136 = some (.bipush 26, 2, 0, 0) := rfl
theorem k138_138 : ab_fetch ab_c138 138 = some (.if_icmp .ne 12, 3, 150, 0) := rfl
theorem k138_141 : ab_fetch ab_c138 141 = some (.iload 5, 2, 0, 0) := rfl
theorem k138_143 : ab_fetch ab_c138 143 = some (.sipush 1024, 3, 0, 0) := rfl
theorem k138_146 : ab_fetch ab_c138 146 = some (.ior, 1, 0, 0) := rfl
theorem k138_147 : ab_fetch ab_c138 147 = some (.goto 5, 3, 152, 0) := rfl
theorem k138_150 : ab_fetch ab_c138 150 = some (.iload 5, 2, 0, 0) := rfl
theorem k138_152 : ab_fetch ab_c138 152 = some (.iload 4, 2, 0, 0) := rfl
theorem k138_154 : ab_fetch ab_c138 154 = some (.iload_n 2, 1, 0, 0) := rfl
theorem k138_155 : ab_fetch ab_c138 155 = some (.iload_n 3, 1, 0, 0) := rfl
theorem k138_156 : ab_fetch ab_c138 156 = some (.bipush 19, 2, 0, 0) := rfl
theorem k138_158 : ab_fetch ab_c138 158 = some (.invokestatic 508, 3, 160, 5) := rfl
theorem k138_161 : ab_fetch ab_c138 161 = some (.iconst 4, 1, 0, 0) := rfl
theorem k138_162 : ab_fetch ab_c138 162 = some (.invokevirtual 486, 3, 144, 2) := rfl
theorem k138_165 : ab_fetch ab_c138 165 = some (.goto 435, 3, 600, 0) := rfl
theorem k138_168 : ab_fetch ab_c138 168 = some (.iload_n 1, 1, 0, 0) := rfl
theorem k138_169 : ab_fetch ab_c138 169 = some (.bipush 35, 2, 0, 0) := rfl
theorem k138_171 : ab_fetch ab_c138 171 = some (.if_icmp .ge 80, 3, 251, 0) := rfl
theorem k138_174 : ab_fetch ab_c138 174 = some (.aload_n 0, 1, 0, 0) := rfl
theorem k138_175 : ab_fetch ab_c138 175 = some (.invokevirtual 512, 3, 139, 0) := rfl
theorem k138_178 : ab_fetch ab_c138 178 = some (.istore_n 3, 1, 0, 0) := rfl
theorem k138_179 : ab_fetch ab_c138 179 = some (.aload_n 0, 1, 0, 0) := rfl
theorem k138_180 : ab_fetch ab_c138 180 = some (.invokevirtual 518, 3, 161, 0) := rfl
theorem k138_183 : ab_fetch ab_c138 183 = some (.istore 4, 2, 0, 0) := rfl
theorem k138_185 : ab_fetch ab_c138 185 = some (.aload_n 0, 1, 0, 0) := rfl
theorem k138_186 : ab_fetch ab_c138 186 = some (.iload_n 1, 1, 0, 0) := rfl
theorem k138_187 : ab_fetch ab_c138 187 = some (.bipush 32, 2, 0, 0) := rfl
theorem k138_189 : ab_fetch ab_c138 189 = some (.if_icmp .ge 18, 3, 207, 0) := rfl
theorem k138_192 : ab_fetch ab_c138 192 = some (.iload 4, 2, 0, 0) := rfl
theorem k138_194 : ab_fetch ab_c138 194 = some (.aload_n 0, 1, 0, 0) := rfl
theorem k138_195 : ab_fetch ab_c138 195 = some (.getfield 505, 3, 6, 47) := rfl
theorem k138_198 : ab_fetch ab_c138 198 = some (.iload_n 2, 1, 0, 0) := rfl
theorem k138_199 : ab_fetch ab_c138 199 = some (.iload_n 3, 1, 0, 0) := rfl
theorem k138_200 : ab_fetch ab_c138 200 = some (.iconst 3, 1, 0, 0) := rfl
theorem k138_201 : ab_fetch ab_c138 201 = some (.invokestatic 508, 3, 160, 5) := rfl
theorem k138_204 : ab_fetch ab_c138 204 = some (.goto 40, 3, 244, 0) := rfl
theorem k138_207 : ab_fetch ab_c138 207 = some (.iload 4, 2, 0, 0) := rfl
theorem k138_209 : ab_fetch ab_c138 209 = some (.iconst 5, 1, 0, 0) := rfl
theorem k138_210 : ab_fetch ab_c138 210 = some (.ishr, 1, 0, 0) := rfl
theorem k138_211 : ab_fetch ab_c138 211 = some (.bipush 25, 2, 0, 0) := rfl
theorem k138_213 : ab_fetch ab_c138 213 = some (.ishl, 1, 0, 0) := rfl
theorem k138_214 : ab_fetch ab_c138 214 = some (.iload_n 3, 1, 0, 0) := rfl
theorem k138_215 : ab_fetch ab_c138 215 = some (.bipush 20, 2, 0, 0) := rfl
theorem k138_217 : ab_fetch ab_c138 217 = some (.ishl, 1, 0, 0) := rfl
theorem k138_218 : ab_fetch ab_c138 218 = some (.ior, 1, 0, 0) := rfl
theorem k138_219 : ab_fetch ab_c138 219 = some (.aload_n 0, 1, 0, 0) := rfl
theorem k138_220 : ab_fetch ab_c138 220 = some (.getfield 505, 3, 6, 47) := rfl
theorem k138_223 : ab_fetch ab_c138 223 = some (.bipush 15, 2, 0, 0) := rfl
theorem k138_225 : ab_fetch ab_c138 225 = some (.ishl, 1, 0, 0) := rfl
theorem k138_226 : ab_fetch ab_c138 226 = some (.ior, 1, 0, 0) := rfl
theorem k138_227 : ab_fetch ab_c138 227 = some (.iload_n 2, 1, 0, 0) := rfl
theorem k138_228 : ab_fetch ab_c138 228 = some (.bipush 12, 2, 0, 0) := rfl
theorem k138_230 : ab_fetch ab_c138 230 = some (.ishl, 1, 0, 0) := rfl
theorem k138_231 : ab_fetch ab_c138 231 = some (.ior, 1, 0, 0) := rfl
theorem k138_232 : ab_fetch ab_c138 232 = some (.iload 4, 2, 0, 0) := rfl
theorem k138_234 : ab_fetch ab_c138 234 = some (.bipush 31, 2, 0, 0) := rfl
theorem k138_236 : ab_fetch ab_c138 236 = some (.iand, 1, 0, 0) := rfl
theorem k138_237 : ab_fetch ab_c138 237 = some (.bipush 7, 2, 0, 0) := rfl
theorem k138_239 : ab_fetch ab_c138 239 = some (.ishl, 1, 0, 0) := rfl
theorem k138_240 : ab_fetch ab_c138 240 = some (.ior, 1, 0, 0) := rfl
theorem k138_241 : ab_fetch ab_c138 241 = some (.bipush 35, 2, 0, 0) := rfl
theorem k138_243 : ab_fetch ab_c138 243 = some (.ior, 1, 0, 0) := rfl
theorem k138_244 : ab_fetch ab_c138 244 = some (.iconst 4, 1, 0, 0) := rfl
theorem k138_245 : ab_fetch ab_c138 245 = some (.invokevirtual 486, 3, 144, 2) := rfl
theorem k138_248 : ab_fetch ab_c138 248 = some (.goto 352, 3, 600, 0) := rfl
theorem k138_251 : ab_fetch ab_c138 251 = some (.iload_n 1, 1, 0, 0) := rfl
theorem k138_252 : ab_fetch ab_c138 252 = some (.bipush 51, 2, 0, 0) := rfl
theorem k138_254 : ab_fetch ab_c138 254 = some (.if_icmp .ge 83, 3, 337, 0) := rfl
theorem k138_257 : ab_fetch ab_c138 257 = some (.aload_n 0, 1, 0, 0) := rfl
theorem k138_258 : ab_fetch ab_c138 258 = some (.invokevirtual 512, 3, 139, 0) := rfl
theorem k138_261 : ab_fetch ab_c138 261 = some (.istore_n 3, 1, 0, 0) := rfl
theorem k138_262 : ab_fetch ab_c138 262 = some (.iload_n 1, 1, 0, 0) := rfl
theorem k138_263 : ab_fetch ab_c138 263 = some (.bipush 45, 2, 0, 0) := rfl
theorem k138_265 : ab_fetch ab_c138 265 = some (.if_icmp .ge 10, 3, 275, 0) := rfl
theorem k138_268 : ab_fetch ab_c138 268 = some (.aload_n 0, 1, 0, 0) := rfl
theorem k138_269 : ab_fetch ab_c138 269 = some (.invokevirtual 512, 3, 139, 0) := rfl
theorem k138_272 : ab_fetch ab_c138 272 = some (.goto 4, 3, 276, 0) := rfl
theorem k138_275 : ab_fetch ab_c138 275 = some (.iconst 0, 1, 0, 0) := rfl
theorem k138_276 : ab_fetch ab_c138 276 = some (.istore 4, 2, 0, 0) := rfl
theorem k138_278 : ab_fetch ab_c138 278 = some (.iload_n 1, 1, 0, 0) := rfl
theorem k138_279 : ab_fetch ab_c138 279 = some (.bipush 40, 2, 0, 0) := rfl
theorem k138_281 : ab_fetch ab_c138 281 = some (.if_icmp .le 9, 3, 290, 0) := rfl
theorem k138_284 : ab_fetch ab_c138 284 = some (.iload_n 1, 1, 0, 0) := rfl
theorem k138_285 : ab_fetch ab_c138 285 = some (.bipush 45, 2, 0, 0) := rfl
theorem k138_287 : ab_fetch ab_c138 287 = some (.if_icmp .lt 9, 3, 296, 0) := rfl
theorem k138_290 : ab_fetch ab_c138 290 = some (.iload_n 1, 1, 0, 0) := rfl
theorem k138_291 : ab_fetch ab_c138 291 = some (.bipush 48, 2, 0, 0) := rfl
theorem k138_293 : ab_fetch ab_c138 293 = some (.if_icmp .le 7, 3, 300, 0) := rfl
theorem k138_296 : ab_fetch ab_c138 296 = some (.iconst 1, 1, 0, 0) := rfl
theorem k138_297 : ab_fetch ab_c138 297 = some (.goto 4, 3, 301, 0) := rfl
theorem k138_300 : ab_fetch ab_c138 300 = some (.iconst 0, 1, 0, 0) := rfl
theorem k138_301 : ab_fetch ab_c138 301 = some (.istore 5, 2, 0, 0) := rfl
theorem k138_303 : ab_fetch ab_c138 303 = some (.aload_n 0, 1, 0, 0) := rfl
theorem k138_304 : ab_fetch ab_c138 304 = some (.iload_n 2, 1, 0, 0) := rfl
theorem k138_305 : ab_fetch ab_c138 305 = some (.iload 5, 2, 0, 0) := rfl
theorem k138_307 : ab_fetch ab_c138 307 = some (.ifCond .eq 8, 3, 315, 0) := rfl
theorem k138_310 : ab_fetch ab_c138 310 = some (.iload 4, 2, 0, 0) := rfl
theorem k138_312 : ab_fetch ab_c138 312 = some (.goto 4, 3, 316, 0) := rfl
theorem k138_315 : ab_fetch ab_c138 315 = some (.iload_n 3, 1, 0, 0) := rfl
theorem k138_316 : ab_fetch ab_c138 316 = some (.iload 5, 2, 0, 0) := rfl
theorem k138_318 : ab_fetch ab_c138 318 = some (.ifCond .eq 7, 3, 325, 0) := rfl
theorem k138_321 : ab_fetch ab_c138 321 = some (.iload_n 3, 1, 0, 0) := rfl
theorem k138_322 : ab_fetch ab_c138 322 = some (.goto 5, 3, 327, 0) := rfl
theorem k138_325 : ab_fetch ab_c138 325 = some (.iload 4, 2, 0, 0) := rfl
theorem k138_327 : ab_fetch ab_c138 327 = some (.aload_n 0, 1, 0, 0) := rfl
theorem k138_328 : ab_fetch ab_c138 328 = some (.invokevirtual 502, 3, 145, 0) := rfl
theorem k138_331 : ab_fetch ab_c138 331 = some (.invokevirtual 521, 3, 163, 4) := rfl
theorem k138_334 : ab_fetch ab_c138 334 = some (.goto 266, 3, 600, 0) := rfl
theorem k138_337 : ab_fetch ab_c138 337 = some (.iload_n 1, 1, 0, 0) := rfl
theorem k138_338 : ab_fetch ab_c138 338 = some (.bipush 53, 2, 0, 0) := rfl
theorem k138_340 : ab_fetch ab_c138 340 = some (.if_icmp .ge 50, 3, 390, 0) := rfl
theorem k138_343 : ab_fetch ab_c138 343 = some (.aload_n 0, 1, 0, 0) := rfl
theorem k138_344 : ab_fetch ab_c138 344 = some (.invokevirtual 512, 3, 139, 0) := rfl
theorem k138_347 : ab_fetch ab_c138 347 = some (.istore_n 3, 1, 0, 0) := rfl
theorem k138_348 : ab_fetch ab_c138 348 = some (.aload_n 0, 1, 0, 0) := rfl
theorem k138_349 : ab_fetch ab_c138 349 = some (.aload_n 0, 1, 0, 0) := rfl
theorem k138_350 : ab_fetch ab_c138 350 = some (.aload_n 0, 1, 0, 0) := rfl
theorem k138_351 : ab_fetch ab_c138 351 = some (.invokevirtual 502, 3, 145, 0) := rfl
theorem k138_354 : ab_fetch ab_c138 354 = some (.iconst 0, 1, 0, 0) := rfl
theorem k138_355 : ab_fetch ab_c138 355 = some (.ldc_w 525, 3, 1048575, 0) := rfl
theorem k138_358 : ab_fetch ab_c138 358 = some (.invokevirtual 483, 3, 159, 3) := rfl
theorem k138_361 : ab_fetch ab_c138 361 = some (.bipush 12, 2, 0, 0) := rfl
theorem k138_363 : ab_fetch ab_c138 363 = some (.ishl, 1, 0, 0) := rfl
theorem k138_364 : ab_fetch ab_c138 364 = some (.iload_n 3, 1, 0, 0) := rfl
theorem k138_365 : ab_fetch ab_c138 365 = some (.bipush 7, 2, 0, 0) := rfl
theorem k138_367 : ab_fetch ab_c138 367 = some (.ishl, 1, 0, 0) := rfl
theorem k138_368 : ab_fetch ab_c138 368 = some (.ior, 1, 0, 0) := rfl
theorem k138_369 : ab_fetch ab_c138 369 = some (.iload_n 1, 1, 0, 0) := rfl
theorem k138_370 : ab_fetch ab_c138 370 = some (.bipush 51, 2, 0, 0) := rfl
theorem k138_372 : ab_fetch ab_c138 372 = some (.if_icmp .ne 8, 3, 380, 0) := rfl
theorem k138_375 : ab_fetch ab_c138 375 = some (.bipush 55, 2, 0, 0) := rfl
theorem k138_377 : ab_fetch ab_c138 377 = some (.goto 5, 3, 382, 0) := rfl
theorem k138_380 : ab_fetch ab_c138 380 = some (.bipush 23, 2, 0, 0) := rfl
theorem k138_382 : ab_fetch ab_c138 382 = some (.ior, 1, 0, 0) := rfl
theorem k138_383 : ab_fetch ab_c138 383 = some (.iconst 4, 1, 0, 0) := rfl
theorem k138_384 : ab_fetch ab_c138 384 = some (.invokevirtual 486, 3, 144, 2) := rfl
theorem k138_387 : ab_fetch ab_c138 387 = some (.goto 213, 3, 600, 0) := rfl
theorem k138_390 : ab_fetch ab_c138 390 = some (.iload_n 1, 1, 0, 0) := rfl
theorem k138_391 : ab_fetch ab_c138 391 = some (.bipush 53, 2, 0, 0) := rfl
theorem k138_393 : ab_fetch ab_c138 393 = some (.if_icmp .ne 59, 3, 452, 0) := rfl
theorem k138_396 : ab_fetch ab_c138 396 = some (.aload_n 0, 1, 0, 0) := rfl
theorem k138_397 : ab_fetch ab_c138 397 = some (.getfield 307, 3, 6, 11) := rfl
theorem k138_400 : ab_fetch ab_c138 400 = some (.ifCond .ne 38, 3, 438, 0) := rfl
theorem k138_403 : ab_fetch ab_c138 403 = some (.aload_n 0, 1, 0, 0) := rfl
theorem k138_404 : ab_fetch ab_c138 404 = some (.getfield 358, 3, 6, 20) := rfl
theorem k138_407 : ab_fetch ab_c138 407 = some (.iconst 1, 1, 0, 0) := rfl
theorem k138_408 : ab_fetch ab_c138 408 = some (.if_icmp .ne 30, 3, 438, 0) := rfl
theorem k138_411 : ab_fetch ab_c138 411 = some (.aload_n 0, 1, 0, 0) := rfl
theorem k138_412 : ab_fetch ab_c138 412 = some (.aload_n 0, 1, 0, 0) := rfl
theorem k138_413 : ab_fetch ab_c138 413 = some (.getfield 349, 3, 6, 21) := rfl
theorem k138_416 : ab_fetch ab_c138 416 = some (.aload_n 0, 1, 0, 0) := rfl
theorem k138_417 : ab_fetch ab_c138 417 = some (.getfield 322, 3, 6, 18) := rfl
theorem k138_420 : ab_fetch ab_c138 420 = some (.aload_n 0, 1, 0, 0) := rfl
theorem k138_421 : ab_fetch ab_c138 421 = some (.getfield 349, 3, 6, 21) := rfl
theorem k138_424 : ab_fetch ab_c138 424 = some (.isub, 1, 0, 0) := rfl
theorem k138_425 : ab_fetch ab_c138 425 = some (.invokevirtual 401, 3, 134, 2) := rfl
theorem k138_428 : ab_fetch ab_c138 428 = some (.ifCond .lt 10, 3, 438, 0) := rfl
theorem k138_431 : ab_fetch ab_c138 431 = some (.aload_n 0, 1, 0, 0) := rfl
theorem k138_432 : ab_fetch ab_c138 432 = some (.invokevirtual 512, 3, 139, 0) := rfl
theorem k138_435 : ab_fetch ab_c138 435 = some (.goto 4, 3, 439, 0) := rfl
theorem k138_438 : ab_fetch ab_c138 438 = some (.iconst 1, 1, 0, 0) := rfl
theorem k138_439 : ab_fetch ab_c138 439 = some (.istore_n 3, 1, 0, 0) := rfl
theorem k138_440 : ab_fetch ab_c138 440 = some (.aload_n 0, 1, 0, 0) := rfl
theorem k138_441 : ab_fetch ab_c138 441 = some (.iload_n 3, 1, 0, 0) := rfl
theorem k138_442 : ab_fetch ab_c138 442 = some (.aload_n 0, 1, 0, 0) := rfl
theorem k138_443 : ab_fetch ab_c138 443 = some (.invokevirtual 502, 3, 145, 0) := rfl
theorem k138_446 : ab_fetch ab_c138 446 = some (.invokevirtual 526, 3, 164, 2) := rfl
theorem k138_449 : ab_fetch ab_c138 449 = some (.goto 151, 3, 600, 0) := rfl
theorem k138_452 : ab_fetch ab_c138 452 = some (.iload_n 1, 1, 0, 0) := rfl
theorem k138_453 : ab_fetch ab_c138 453 = some (.bipush 54, 2, 0, 0) := rfl
theorem k138_455 : ab_fetch ab_c138 455 = some (.if_icmp .ne 86, 3, 541, 0) := rfl
theorem k138_458 : ab_fetch ab_c138 458 = some (.aload_n 0, 1, 0, 0) := rfl
theorem k138_459 : ab_fetch ab_c138 459 = some (.invokevirtual 491, 3, 140, 0) := rfl
theorem k138_462 : ab_fetch ab_c138 462 = some (.istore_n 3, 1, 0, 0) := rfl
theorem k138_463 : ab_fetch ab_c138 463 = some (.aload_n 0, 1, 0, 0) := rfl
theorem k138_464 : ab_fetch ab_c138 464 = some (.bipush 44, 2, 0, 0) := rfl
theorem k138_466 : ab_fetch ab_c138 466 = some (.invokevirtual 384, 3, 142, 1) := rfl
theorem k138_469 : ab_fetch ab_c138 469 = some (.ifCond .ne 7, 3, 476, 0) := rfl
theorem k138_472 : ab_fetch ab_c138 472 = some (.iconst 1, 1, 0, 0) := rfl
theorem k138_473 : ab_fetch ab_c138 473 = some (.goto 4, 3, 477, 0) := rfl
theorem k138_476 : ab_fetch ab_c138 476 = some (.iconst 0, 1, 0, 0) := rfl
theorem k138_477 : ab_fetch ab_c138 477 = some (.istore 4, 2, 0, 0) := rfl
theorem k138_479 : ab_fetch ab_c138 479 = some (.iload 4, 2, 0, 0) := rfl
theorem k138_481 : ab_fetch ab_c138 481 = some (.ifCond .ne 7, 3, 488, 0) := rfl
theorem k138_484 : ab_fetch ab_c138 484 = some (.aload_n 0, 1, 0, 0) := rfl
theorem k138_485 : ab_fetch ab_c138 485 = some (.invokevirtual 387, 3, 117, 0) := rfl
theorem k138_488 : ab_fetch ab_c138 488 = some (.iload 4, 2, 0, 0) := rfl
theorem k138_490 : ab_fetch ab_c138 490 = some (.ifCond .eq 7, 3, 497, 0) := rfl
theorem k138_493 : ab_fetch ab_c138 493 = some (.iconst 0, 1, 0, 0) := rfl
theorem k138_494 : ab_fetch ab_c138 494 = some (.goto 7, 3, 501, 0) := rfl
theorem k138_497 : ab_fetch ab_c138 497 = some (.aload_n 0, 1, 0, 0) := rfl
theorem k138_498 : ab_fetch ab_c138 498 = some (.invokevirtual 518, 3, 161, 0) := rfl
theorem k138_501 : ab_fetch ab_c138 501 = some (.istore 5, 2, 0, 0) := rfl
theorem k138_503 : ab_fetch ab_c138 503 = some (.aload_n 0, 1, 0, 0) := rfl
theorem k138_504 : ab_fetch ab_c138 504 = some (.iload 4, 2, 0, 0) := rfl
theorem k138_506 : ab_fetch ab_c138 506 = some (.ifCond .eq 15, 3, 521, 0) := rfl
theorem k138_509 : ab_fetch ab_c138 509 = some (.iconst 0, 1, 0, 0) := rfl
theorem k138_510 : ab_fetch ab_c138 510 = some (.iload_n 3, 1, 0, 0) := rfl
theorem k138_511 : ab_fetch ab_c138 511 = some (.iconst 0, 1, 0, 0) := rfl
theorem k138_512 : ab_fetch ab_c138 512 = some (.iconst 1, 1, 0, 0) := rfl
theorem k138_513 : ab_fetch ab_c138 513 = some (.bipush 103, 2, 0, 0) := rfl
theorem k138_515 : ab_fetch ab_c138 515 = some (.invokestatic 508, 3, 160, 5) := rfl
theorem k138_518 : ab_fetch ab_c138 518 = some (.goto 16, 3, 534, 0) := rfl
theorem k138_521 : ab_fetch ab_c138 521 = some (.iload 5, 2, 0, 0) := rfl
theorem k138_523 : ab_fetch ab_c138 523 = some (.aload_n 0, 1, 0, 0) := rfl
theorem k138_524 : ab_fetch ab_c138 524 = some (.getfield 505, 3, 6, 47) := rfl
theorem k138_527 : ab_fetch ab_c138 527 = some (.iconst 0, 1, 0, 0) := rfl
theorem k138_528 : ab_fetch ab_c138 528 = some (.iload_n 3, 1, 0, 0) := rfl
theorem k138_529 : ab_fetch ab_c138 529 = some (.bipush 103, 2, 0, 0) := rfl
theorem k138_531 : ab_fetch ab_c138 531 = some (.invokestatic 508, 3, 160, 5) := rfl
theorem k138_534 : ab_fetch ab_c138 534 = some (.iconst 4, 1, 0, 0) := rfl
theorem k138_535 : ab_fetch ab_c138 535 = some (.invokevirtual 486, 3, 144, 2) := rfl
theorem k138_538 : ab_fetch ab_c138 538 = some (.goto 62, 3, 600, 0) := rfl
theorem k138_541 : ab_fetch ab_c138 541 = some (.aload_n 0, 1, 0, 0) := rfl
theorem k138_542 : ab_fetch ab_c138 542 = some (.iload_n 1, 1, 0, 0) := rfl
theorem k138_543 : ab_fetch ab_c138 543 = some (.bipush 55, 2, 0, 0) := rfl
theorem k138_545 : ab_fetch ab_c138 545 = some (.if_icmp .ne 8, 3, 553, 0) := rfl
theorem k138_548 : ab_fetch ab_c138 548 = some (.bipush 15, 2, 0, 0) := rfl
theorem k138_550 : ab_fetch ab_c138 550 = some (.goto 46, 3, 596, 0) := rfl
theorem k138_553 : ab_fetch ab_c138 553 = some (.iload_n 1, 1, 0, 0) := rfl
theorem k138_554 : ab_fetch ab_c138 554 = some (.bipush 56, 2, 0, 0) := rfl
theorem k138_556 : ab_fetch ab_c138 556 = some (.if_icmp .ne 8, 3, 564, 0) := rfl
theorem k138_559 : ab_fetch ab_c138 559 = some (.bipush 115, 2, 0, 0) := rfl
theorem k138_561 : ab_fetch ab_c138 561 = some (.goto 35, 3, 596, 0) := rfl
theorem k138_564 : ab_fetch ab_c138 564 = some (.iload_n 1, 1, 0, 0) := rfl
theorem k138_565 : ab_fetch ab_c138 565 = some (.bipush 57, 2, 0, 0) := rfl
theorem k138_567 : ab_fetch ab_c138 567 = some (.if_icmp .ne 9, 3, 576, 0) := rfl
theorem k138_570 : ab_fetch ab_c138 570 = some (.ldc_w 529, 3, 1048691, 0) := rfl
theorem k138_573 : ab_fetch ab_c138 573 = some (.goto 23, 3, 596, 0) := rfl
theorem k138_576 : ab_fetch ab_c138 576 = some (.iload_n 1, 1, 0, 0) := rfl
theorem k138_577 : ab_fetch ab_c138 577 = some (.bipush 58, 2, 0, 0) := rfl
theorem k138_579 : ab_fetch ab_c138 579 = some (.if_icmp .ne 8, 3, 587, 0) := rfl
theorem k138_582 : ab_fetch ab_c138 582 = some (.bipush 19, 2, 0, 0) := rfl
theorem k138_584 : ab_fetch ab_c138 584 = some (.goto 12, 3, 596, 0) := rfl
theorem k138_587 : ab_fetch ab_c138 587 = some (.iconst 0, 1, 0, 0) := rfl
theorem k138_588 : ab_fetch ab_c138 588 = some (.iconst 1, 1, 0, 0) := rfl
theorem k138_589 : ab_fetch ab_c138 589 = some (.iconst 0, 1, 0, 0) := rfl
theorem k138_590 : ab_fetch ab_c138 590 = some (.iconst 0, 1, 0, 0) := rfl
theorem k138_591 : ab_fetch ab_c138 591 = some (.bipush 103, 2, 0, 0) := rfl
theorem k138_593 : ab_fetch ab_c138 593 = some (.invokestatic 508, 3, 160, 5) := rfl
theorem k138_596 : ab_fetch ab_c138 596 = some (.iconst 4, 1, 0, 0) := rfl
theorem k138_597 : ab_fetch ab_c138 597 = some (.invokevirtual 486, 3, 144, 2) := rfl
theorem k138_600 : ab_fetch ab_c138 600 = some (.return_, 1, 0, 0) := rfl
/- CodeSmithModel instruction(I)V -/
def f138_596 (s : mS) (y0 : Int32) : Option mS := ((f144 s y0 (4 : Int32)).bind fun r1 => some r1)
theorem t138_596 {d n : Nat} {Z : Nat → ab_C} (hn : 42 ≤ n) : ∀ (s : mS) (l : ab_L) (y0 : Int32)  (r : mS) (e : f138_596 s y0 = some r), ab_Rn (d + 9) 138 596 l [.int y0, .ref 22] (ab_hl n (mm_F s Z)) (.inl none) (ab_hl n (mm_F r Z)) := by
  intro s l y0 r e
  unfold f138_596 at e
  refine r_iconst (pc := 596) p138 k138_596 (v := (4 : Int32)) rfl ?_
  obtain ⟨r1, er1, e⟩ := of_bind e
  refine m_cv hn (pc := 597) p138 k138_597 rfl p144 (r := []) rfl rfl rfl rfl rfl (t144 hn s y0 (4 : Int32) r1 er1) (w := []) rfl ?_
  cases e
  exact r_retV (pc := 600) p138 k138_600 rfl
def f138_534 (s : mS) (y0 : Int32) : Option mS := ((f144 s y0 (4 : Int32)).bind fun r1 => some r1)
theorem t138_534 {d n : Nat} {Z : Nat → ab_C} (hn : 42 ≤ n) : ∀ (s : mS) (l : ab_L) (y0 : Int32)  (r : mS) (e : f138_534 s y0 = some r), ab_Rn (d + 9) 138 534 l [.int y0, .ref 22] (ab_hl n (mm_F s Z)) (.inl none) (ab_hl n (mm_F r Z)) := by
  intro s l y0 r e
  unfold f138_534 at e
  refine r_iconst (pc := 534) p138 k138_534 (v := (4 : Int32)) rfl ?_
  obtain ⟨r1, er1, e⟩ := of_bind e
  refine m_cv hn (pc := 535) p138 k138_535 rfl p144 (r := []) rfl rfl rfl rfl rfl (t144 hn s y0 (4 : Int32) r1 er1) (w := []) rfl ?_
  refine r_goto (pc := 538) p138 k138_538 ?_
  cases e
  exact r_retV (pc := 600) p138 k138_600 rfl
def f138_501 (s : mS) (x3 : Int32) (x4 : Int32) (y0 : Int32) : Option mS := (if x4 = 0 then f138_534 s (f160 y0 (s.1 47) (0 : Int32) x3 (103 : Int32)) else f138_534 s (f160 (0 : Int32) x3 (0 : Int32) (1 : Int32) (103 : Int32)))
theorem t138_501 {d n : Nat} {Z : Nat → ab_C} (hn : 42 ≤ n) : ∀ (s : mS) (l : ab_L) (x3 : Int32) (x4 : Int32) (y0 : Int32) (h0 : ab_get l 0 = some (.ref 22)) (h3 : ab_get l 3 = some (.int x3)) (h4 : ab_get l 4 = some (.int x4)) (r : mS) (e : f138_501 s x3 x4 y0 = some r), ab_Rn (d + 9) 138 501 l [.int y0] (ab_hl n (mm_F s Z)) (.inl none) (ab_hl n (mm_F r Z)) := by
  intro s l x3 x4 y0 h0 h3 h4 r e
  unfold f138_501 at e
  refine r_istore (pc := 501) p138 k138_501 (by decide) (fun l g h5 => ?_)
  have h0 := g 0 _ (by decide) h0 (Or.inl rfl)
  have h3 := g 3 _ (by decide) h3 (Or.inl rfl)
  have h4 := g 4 _ (by decide) h4 (Or.inl rfl)
  refine r_aload_n (pc := 503) p138 k138_503 h0 ?_
  refine r_iload (pc := 504) p138 k138_504 h4 ?_
  refine r_if_eq (pc := 506) p138 k138_506 (fun c => ?_) (fun c => ?_)
  · have e := (if_pos c).symm.trans e
    refine r_iload (pc := 521) p138 k138_521 h5 ?_
    refine r_aload_n (pc := 523) p138 k138_523 h0 ?_
    refine m_get hn (pc := 524) p138 k138_524 (v := .int (s.1 47)) rfl ?_
    refine r_iconst (pc := 527) p138 k138_527 (v := (0 : Int32)) rfl ?_
    refine r_iload_n (pc := 528) p138 k138_528 h3 ?_
    refine r_bipush (pc := 529) p138 k138_529 (v := (103 : Int32)) rfl ?_
    refine r_csv (pc := 531) p138 k138_531 rfl rfl p160 (r := [.ref 22]) rfl rfl rfl rfl (t160 y0 (s.1 47) (0 : Int32) x3 (103 : Int32) _ rfl) (w := [.int (f160 y0 (s.1 47) (0 : Int32) x3 (103 : Int32)), .ref 22]) rfl ?_
    exact t138_534 hn s l (f160 y0 (s.1 47) (0 : Int32) x3 (103 : Int32)) r e
  · have e := (if_neg c).symm.trans e
    refine r_iconst (pc := 509) p138 k138_509 (v := (0 : Int32)) rfl ?_
    refine r_iload_n (pc := 510) p138 k138_510 h3 ?_
    refine r_iconst (pc := 511) p138 k138_511 (v := (0 : Int32)) rfl ?_
    refine r_iconst (pc := 512) p138 k138_512 (v := (1 : Int32)) rfl ?_
    refine r_bipush (pc := 513) p138 k138_513 (v := (103 : Int32)) rfl ?_
    refine r_csv (pc := 515) p138 k138_515 rfl rfl p160 (r := [.ref 22]) rfl rfl rfl rfl (t160 (0 : Int32) x3 (0 : Int32) (1 : Int32) (103 : Int32) _ rfl) (w := [.int (f160 (0 : Int32) x3 (0 : Int32) (1 : Int32) (103 : Int32)), .ref 22]) rfl ?_
    refine r_goto (pc := 518) p138 k138_518 ?_
    exact t138_534 hn s l (f160 (0 : Int32) x3 (0 : Int32) (1 : Int32) (103 : Int32)) r e
def f138_488 (s : mS) (x3 : Int32) (x4 : Int32) : Option mS := (if x4 = 0 then ((f161 s).bind fun r1 => f138_501 r1.2 x3 x4 r1.1) else f138_501 s x3 x4 (0 : Int32))
theorem t138_488 {d n : Nat} {Z : Nat → ab_C} (hn : 42 ≤ n) : ∀ (s : mS) (l : ab_L) (x3 : Int32) (x4 : Int32) (h0 : ab_get l 0 = some (.ref 22)) (h3 : ab_get l 3 = some (.int x3)) (h4 : ab_get l 4 = some (.int x4)) (r : mS) (e : f138_488 s x3 x4 = some r), ab_Rn (d + 9) 138 488 l [] (ab_hl n (mm_F s Z)) (.inl none) (ab_hl n (mm_F r Z)) := by
  intro s l x3 x4 h0 h3 h4 r e
  unfold f138_488 at e
  refine r_iload (pc := 488) p138 k138_488 h4 ?_
  refine r_if_eq (pc := 490) p138 k138_490 (fun c => ?_) (fun c => ?_)
  · have e := (if_pos c).symm.trans e
    refine r_aload_n (pc := 497) p138 k138_497 h0 ?_
    obtain ⟨r1, er1, e⟩ := of_bind e
    refine m_cv hn (pc := 498) p138 k138_498 rfl p161 (r := []) rfl rfl rfl rfl rfl (t161 hn s r1 er1) (w := [.int r1.1]) rfl ?_
    exact t138_501 hn r1.2 l x3 x4 r1.1 h0 h3 h4 r e
  · have e := (if_neg c).symm.trans e
    refine r_iconst (pc := 493) p138 k138_493 (v := (0 : Int32)) rfl ?_
    refine r_goto (pc := 494) p138 k138_494 ?_
    exact t138_501 hn s l x3 x4 (0 : Int32) h0 h3 h4 r e
def f138_477 (s : mS) (x3 : Int32) (y0 : Int32) : Option mS := (if y0 = 0 then ((f117 s).bind fun r1 => f138_488 r1 x3 y0) else f138_488 s x3 y0)
theorem t138_477 {d n : Nat} {Z : Nat → ab_C} (hn : 42 ≤ n) : ∀ (s : mS) (l : ab_L) (x3 : Int32) (y0 : Int32) (h0 : ab_get l 0 = some (.ref 22)) (h3 : ab_get l 3 = some (.int x3)) (r : mS) (e : f138_477 s x3 y0 = some r), ab_Rn (d + 9) 138 477 l [.int y0] (ab_hl n (mm_F s Z)) (.inl none) (ab_hl n (mm_F r Z)) := by
  intro s l x3 y0 h0 h3 r e
  unfold f138_477 at e
  refine r_istore (pc := 477) p138 k138_477 (by decide) (fun l g h4 => ?_)
  have h0 := g 0 _ (by decide) h0 (Or.inl rfl)
  have h3 := g 3 _ (by decide) h3 (Or.inl rfl)
  refine r_iload (pc := 479) p138 k138_479 h4 ?_
  refine r_if_ne (pc := 481) p138 k138_481 (fun c => ?_) (fun c => ?_)
  · have e := (if_neg c).symm.trans e
    exact t138_488 hn s l x3 y0 h0 h3 h4 r e
  · have e := (if_pos c).symm.trans e
    refine r_aload_n (pc := 484) p138 k138_484 h0 ?_
    obtain ⟨r1, er1, e⟩ := of_bind e
    refine m_cv hn (pc := 485) p138 k138_485 rfl p117 (r := []) rfl rfl rfl rfl rfl (t117 hn s r1 er1) (w := []) rfl ?_
    exact t138_488 hn r1 l x3 y0 h0 h3 h4 r e
def f138_439 (s : mS) (y0 : Int32) : Option mS := ((f145 s).bind fun r1 => ((f164 r1.2 y0 r1.1).bind fun r2 => some r2))
theorem t138_439 {d n : Nat} {Z : Nat → ab_C} (hn : 42 ≤ n) : ∀ (s : mS) (l : ab_L) (y0 : Int32) (h0 : ab_get l 0 = some (.ref 22)) (r : mS) (e : f138_439 s y0 = some r), ab_Rn (d + 9) 138 439 l [.int y0] (ab_hl n (mm_F s Z)) (.inl none) (ab_hl n (mm_F r Z)) := by
  intro s l y0 h0 r e
  unfold f138_439 at e
  refine r_istore_n (pc := 439) p138 k138_439 (by decide) (fun l g h3 => ?_)
  have h0 := g 0 _ (by decide) h0 (Or.inl rfl)
  refine r_aload_n (pc := 440) p138 k138_440 h0 ?_
  refine r_iload_n (pc := 441) p138 k138_441 h3 ?_
  refine r_aload_n (pc := 442) p138 k138_442 h0 ?_
  obtain ⟨r1, er1, e⟩ := of_bind e
  refine m_cv hn (pc := 443) p138 k138_443 rfl p145 (r := [.int y0, .ref 22]) rfl rfl rfl rfl rfl (t145 hn s r1 er1) (w := [.int r1.1, .int y0, .ref 22]) rfl ?_
  obtain ⟨r2, er2, e⟩ := of_bind e
  refine m_cv hn (pc := 446) p138 k138_446 rfl p164 (r := []) rfl rfl rfl rfl rfl (t164 hn r1.2 y0 r1.1 r2 er2) (w := []) rfl ?_
  refine r_goto (pc := 449) p138 k138_449 ?_
  cases e
  exact r_retV (pc := 600) p138 k138_600 rfl
def f138_438 (s : mS) : Option mS := f138_439 s (1 : Int32)
theorem t138_438 {d n : Nat} {Z : Nat → ab_C} (hn : 42 ≤ n) : ∀ (s : mS) (l : ab_L)  (h0 : ab_get l 0 = some (.ref 22)) (r : mS) (e : f138_438 s  = some r), ab_Rn (d + 9) 138 438 l [] (ab_hl n (mm_F s Z)) (.inl none) (ab_hl n (mm_F r Z)) := by
  intro s l h0 r e
  unfold f138_438 at e
  refine r_iconst (pc := 438) p138 k138_438 (v := (1 : Int32)) rfl ?_
  exact t138_439 hn s l (1 : Int32) h0 r e
def f138_382 (s : mS) (y0 : Int32) (y1 : Int32) : Option mS := ((f144 s (y1 ||| y0) (4 : Int32)).bind fun r1 => some r1)
theorem t138_382 {d n : Nat} {Z : Nat → ab_C} (hn : 42 ≤ n) : ∀ (s : mS) (l : ab_L) (y0 : Int32) (y1 : Int32)  (r : mS) (e : f138_382 s y0 y1 = some r), ab_Rn (d + 9) 138 382 l [.int y0, .int y1, .ref 22] (ab_hl n (mm_F s Z)) (.inl none) (ab_hl n (mm_F r Z)) := by
  intro s l y0 y1 r e
  unfold f138_382 at e
  refine r_ior (pc := 382) p138 k138_382 ?_
  refine r_iconst (pc := 383) p138 k138_383 (v := (4 : Int32)) rfl ?_
  obtain ⟨r1, er1, e⟩ := of_bind e
  refine m_cv hn (pc := 384) p138 k138_384 rfl p144 (r := []) rfl rfl rfl rfl rfl (t144 hn s (y1 ||| y0) (4 : Int32) r1 er1) (w := []) rfl ?_
  refine r_goto (pc := 387) p138 k138_387 ?_
  cases e
  exact r_retV (pc := 600) p138 k138_600 rfl
def f138_327 (s : mS) (y0 : Int32) (y1 : Int32) (y2 : Int32) : Option mS := ((f145 s).bind fun r1 => ((f163 r1.2 y2 y1 y0 r1.1).bind fun r2 => some r2))
theorem t138_327 {d n : Nat} {Z : Nat → ab_C} (hn : 42 ≤ n) : ∀ (s : mS) (l : ab_L) (y0 : Int32) (y1 : Int32) (y2 : Int32) (h0 : ab_get l 0 = some (.ref 22)) (r : mS) (e : f138_327 s y0 y1 y2 = some r), ab_Rn (d + 9) 138 327 l [.int y0, .int y1, .int y2, .ref 22] (ab_hl n (mm_F s Z)) (.inl none) (ab_hl n (mm_F r Z)) := by
  intro s l y0 y1 y2 h0 r e
  unfold f138_327 at e
  refine r_aload_n (pc := 327) p138 k138_327 h0 ?_
  obtain ⟨r1, er1, e⟩ := of_bind e
  refine m_cv hn (pc := 328) p138 k138_328 rfl p145 (r := [.int y0, .int y1, .int y2, .ref 22]) rfl rfl rfl rfl rfl (t145 hn s r1 er1) (w := [.int r1.1, .int y0, .int y1, .int y2, .ref 22]) rfl ?_
  obtain ⟨r2, er2, e⟩ := of_bind e
  refine m_cv hn (pc := 331) p138 k138_331 rfl p163 (r := []) rfl rfl rfl rfl rfl (t163 hn r1.2 y2 y1 y0 r1.1 r2 er2) (w := []) rfl ?_
  refine r_goto (pc := 334) p138 k138_334 ?_
  cases e
  exact r_retV (pc := 600) p138 k138_600 rfl
def f138_316 (s : mS) (x3 : Int32) (x4 : Int32) (x5 : Int32) (y0 : Int32) (y1 : Int32) : Option mS := (if x5 = 0 then f138_327 s x4 y0 y1 else f138_327 s x3 y0 y1)
theorem t138_316 {d n : Nat} {Z : Nat → ab_C} (hn : 42 ≤ n) : ∀ (s : mS) (l : ab_L) (x3 : Int32) (x4 : Int32) (x5 : Int32) (y0 : Int32) (y1 : Int32) (h0 : ab_get l 0 = some (.ref 22)) (h3 : ab_get l 3 = some (.int x3)) (h4 : ab_get l 4 = some (.int x4)) (h5 : ab_get l 5 = some (.int x5)) (r : mS) (e : f138_316 s x3 x4 x5 y0 y1 = some r), ab_Rn (d + 9) 138 316 l [.int y0, .int y1, .ref 22] (ab_hl n (mm_F s Z)) (.inl none) (ab_hl n (mm_F r Z)) := by
  intro s l x3 x4 x5 y0 y1 h0 h3 h4 h5 r e
  unfold f138_316 at e
  refine r_iload (pc := 316) p138 k138_316 h5 ?_
  refine r_if_eq (pc := 318) p138 k138_318 (fun c => ?_) (fun c => ?_)
  · have e := (if_pos c).symm.trans e
    refine r_iload (pc := 325) p138 k138_325 h4 ?_
    exact t138_327 hn s l x4 y0 y1 h0 r e
  · have e := (if_neg c).symm.trans e
    refine r_iload_n (pc := 321) p138 k138_321 h3 ?_
    refine r_goto (pc := 322) p138 k138_322 ?_
    exact t138_327 hn s l x3 y0 y1 h0 r e
def f138_301 (s : mS) (x2 : Int32) (x3 : Int32) (x4 : Int32) (y0 : Int32) : Option mS := (if y0 = 0 then f138_316 s x3 x4 y0 x3 x2 else f138_316 s x3 x4 y0 x4 x2)
theorem t138_301 {d n : Nat} {Z : Nat → ab_C} (hn : 42 ≤ n) : ∀ (s : mS) (l : ab_L) (x2 : Int32) (x3 : Int32) (x4 : Int32) (y0 : Int32) (h0 : ab_get l 0 = some (.ref 22)) (h2 : ab_get l 2 = some (.int x2)) (h3 : ab_get l 3 = some (.int x3)) (h4 : ab_get l 4 = some (.int x4)) (r : mS) (e : f138_301 s x2 x3 x4 y0 = some r), ab_Rn (d + 9) 138 301 l [.int y0] (ab_hl n (mm_F s Z)) (.inl none) (ab_hl n (mm_F r Z)) := by
  intro s l x2 x3 x4 y0 h0 h2 h3 h4 r e
  unfold f138_301 at e
  refine r_istore (pc := 301) p138 k138_301 (by decide) (fun l g h5 => ?_)
  have h0 := g 0 _ (by decide) h0 (Or.inl rfl)
  have h2 := g 2 _ (by decide) h2 (Or.inl rfl)
  have h3 := g 3 _ (by decide) h3 (Or.inl rfl)
  have h4 := g 4 _ (by decide) h4 (Or.inl rfl)
  refine r_aload_n (pc := 303) p138 k138_303 h0 ?_
  refine r_iload_n (pc := 304) p138 k138_304 h2 ?_
  refine r_iload (pc := 305) p138 k138_305 h5 ?_
  refine r_if_eq (pc := 307) p138 k138_307 (fun c => ?_) (fun c => ?_)
  · have e := (if_pos c).symm.trans e
    refine r_iload_n (pc := 315) p138 k138_315 h3 ?_
    exact t138_316 hn s l x3 x4 y0 x3 x2 h0 h3 h4 h5 r e
  · have e := (if_neg c).symm.trans e
    refine r_iload (pc := 310) p138 k138_310 h4 ?_
    refine r_goto (pc := 312) p138 k138_312 ?_
    exact t138_316 hn s l x3 x4 y0 x4 x2 h0 h3 h4 h5 r e
def f138_296 (s : mS) (x2 : Int32) (x3 : Int32) (x4 : Int32) : Option mS := f138_301 s x2 x3 x4 (1 : Int32)
theorem t138_296 {d n : Nat} {Z : Nat → ab_C} (hn : 42 ≤ n) : ∀ (s : mS) (l : ab_L) (x2 : Int32) (x3 : Int32) (x4 : Int32) (h0 : ab_get l 0 = some (.ref 22)) (h2 : ab_get l 2 = some (.int x2)) (h3 : ab_get l 3 = some (.int x3)) (h4 : ab_get l 4 = some (.int x4)) (r : mS) (e : f138_296 s x2 x3 x4 = some r), ab_Rn (d + 9) 138 296 l [] (ab_hl n (mm_F s Z)) (.inl none) (ab_hl n (mm_F r Z)) := by
  intro s l x2 x3 x4 h0 h2 h3 h4 r e
  unfold f138_296 at e
  refine r_iconst (pc := 296) p138 k138_296 (v := (1 : Int32)) rfl ?_
  refine r_goto (pc := 297) p138 k138_297 ?_
  exact t138_301 hn s l x2 x3 x4 (1 : Int32) h0 h2 h3 h4 r e
def f138_290 (s : mS) (x1 : Int32) (x2 : Int32) (x3 : Int32) (x4 : Int32) : Option mS := (if x1 ≤ (48 : Int32) then f138_301 s x2 x3 x4 (0 : Int32) else f138_296 s x2 x3 x4)
theorem t138_290 {d n : Nat} {Z : Nat → ab_C} (hn : 42 ≤ n) : ∀ (s : mS) (l : ab_L) (x1 : Int32) (x2 : Int32) (x3 : Int32) (x4 : Int32) (h0 : ab_get l 0 = some (.ref 22)) (h1 : ab_get l 1 = some (.int x1)) (h2 : ab_get l 2 = some (.int x2)) (h3 : ab_get l 3 = some (.int x3)) (h4 : ab_get l 4 = some (.int x4)) (r : mS) (e : f138_290 s x1 x2 x3 x4 = some r), ab_Rn (d + 9) 138 290 l [] (ab_hl n (mm_F s Z)) (.inl none) (ab_hl n (mm_F r Z)) := by
  intro s l x1 x2 x3 x4 h0 h1 h2 h3 h4 r e
  unfold f138_290 at e
  refine r_iload_n (pc := 290) p138 k138_290 h1 ?_
  refine r_bipush (pc := 291) p138 k138_291 (v := (48 : Int32)) rfl ?_
  refine r_ic_le (pc := 293) p138 k138_293 (fun c => ?_) (fun c => ?_)
  · have e := (if_pos c).symm.trans e
    refine r_iconst (pc := 300) p138 k138_300 (v := (0 : Int32)) rfl ?_
    exact t138_301 hn s l x2 x3 x4 (0 : Int32) h0 h2 h3 h4 r e
  · have e := (if_neg c).symm.trans e
    exact t138_296 hn s l x2 x3 x4 h0 h2 h3 h4 r e
def f138_276 (s : mS) (x1 : Int32) (x2 : Int32) (x3 : Int32) (y0 : Int32) : Option mS := (if x1 ≤ (40 : Int32) then f138_290 s x1 x2 x3 y0 else (if x1 < (45 : Int32) then f138_296 s x2 x3 y0 else f138_290 s x1 x2 x3 y0))
theorem t138_276 {d n : Nat} {Z : Nat → ab_C} (hn : 42 ≤ n) : ∀ (s : mS) (l : ab_L) (x1 : Int32) (x2 : Int32) (x3 : Int32) (y0 : Int32) (h0 : ab_get l 0 = some (.ref 22)) (h1 : ab_get l 1 = some (.int x1)) (h2 : ab_get l 2 = some (.int x2)) (h3 : ab_get l 3 = some (.int x3)) (r : mS) (e : f138_276 s x1 x2 x3 y0 = some r), ab_Rn (d + 9) 138 276 l [.int y0] (ab_hl n (mm_F s Z)) (.inl none) (ab_hl n (mm_F r Z)) := by
  intro s l x1 x2 x3 y0 h0 h1 h2 h3 r e
  unfold f138_276 at e
  refine r_istore (pc := 276) p138 k138_276 (by decide) (fun l g h4 => ?_)
  have h0 := g 0 _ (by decide) h0 (Or.inl rfl)
  have h1 := g 1 _ (by decide) h1 (Or.inl rfl)
  have h2 := g 2 _ (by decide) h2 (Or.inl rfl)
  have h3 := g 3 _ (by decide) h3 (Or.inl rfl)
  refine r_iload_n (pc := 278) p138 k138_278 h1 ?_
  refine r_bipush (pc := 279) p138 k138_279 (v := (40 : Int32)) rfl ?_
  refine r_ic_le (pc := 281) p138 k138_281 (fun c => ?_) (fun c => ?_)
  · have e := (if_pos c).symm.trans e
    exact t138_290 hn s l x1 x2 x3 y0 h0 h1 h2 h3 h4 r e
  · have e := (if_neg c).symm.trans e
    refine r_iload_n (pc := 284) p138 k138_284 h1 ?_
    refine r_bipush (pc := 285) p138 k138_285 (v := (45 : Int32)) rfl ?_
    refine r_ic_lt (pc := 287) p138 k138_287 (fun c => ?_) (fun c => ?_)
    · have e := (if_pos c).symm.trans e
      exact t138_296 hn s l x2 x3 y0 h0 h2 h3 h4 r e
    · have e := (if_neg c).symm.trans e
      exact t138_290 hn s l x1 x2 x3 y0 h0 h1 h2 h3 h4 r e
def f138_244 (s : mS) (y0 : Int32) : Option mS := ((f144 s y0 (4 : Int32)).bind fun r1 => some r1)
theorem t138_244 {d n : Nat} {Z : Nat → ab_C} (hn : 42 ≤ n) : ∀ (s : mS) (l : ab_L) (y0 : Int32)  (r : mS) (e : f138_244 s y0 = some r), ab_Rn (d + 9) 138 244 l [.int y0, .ref 22] (ab_hl n (mm_F s Z)) (.inl none) (ab_hl n (mm_F r Z)) := by
  intro s l y0 r e
  unfold f138_244 at e
  refine r_iconst (pc := 244) p138 k138_244 (v := (4 : Int32)) rfl ?_
  obtain ⟨r1, er1, e⟩ := of_bind e
  refine m_cv hn (pc := 245) p138 k138_245 rfl p144 (r := []) rfl rfl rfl rfl rfl (t144 hn s y0 (4 : Int32) r1 er1) (w := []) rfl ?_
  refine r_goto (pc := 248) p138 k138_248 ?_
  cases e
  exact r_retV (pc := 600) p138 k138_600 rfl
def f138_152 (s : mS) (x2 : Int32) (x3 : Int32) (x4 : Int32) (y0 : Int32) : Option mS := ((f144 s (f160 y0 x4 x2 x3 (19 : Int32)) (4 : Int32)).bind fun r1 => some r1)
theorem t138_152 {d n : Nat} {Z : Nat → ab_C} (hn : 42 ≤ n) : ∀ (s : mS) (l : ab_L) (x2 : Int32) (x3 : Int32) (x4 : Int32) (y0 : Int32) (h2 : ab_get l 2 = some (.int x2)) (h3 : ab_get l 3 = some (.int x3)) (h4 : ab_get l 4 = some (.int x4)) (r : mS) (e : f138_152 s x2 x3 x4 y0 = some r), ab_Rn (d + 9) 138 152 l [.int y0, .ref 22] (ab_hl n (mm_F s Z)) (.inl none) (ab_hl n (mm_F r Z)) := by
  intro s l x2 x3 x4 y0 h2 h3 h4 r e
  unfold f138_152 at e
  refine r_iload (pc := 152) p138 k138_152 h4 ?_
  refine r_iload_n (pc := 154) p138 k138_154 h2 ?_
  refine r_iload_n (pc := 155) p138 k138_155 h3 ?_
  refine r_bipush (pc := 156) p138 k138_156 (v := (19 : Int32)) rfl ?_
  refine r_csv (pc := 158) p138 k138_158 rfl rfl p160 (r := [.ref 22]) rfl rfl rfl rfl (t160 y0 x4 x2 x3 (19 : Int32) _ rfl) (w := [.int (f160 y0 x4 x2 x3 (19 : Int32)), .ref 22]) rfl ?_
  refine r_iconst (pc := 161) p138 k138_161 (v := (4 : Int32)) rfl ?_
  obtain ⟨r1, er1, e⟩ := of_bind e
  refine m_cv hn (pc := 162) p138 k138_162 rfl p144 (r := []) rfl rfl rfl rfl rfl (t144 hn s (f160 y0 x4 x2 x3 (19 : Int32)) (4 : Int32) r1 er1) (w := []) rfl ?_
  refine r_goto (pc := 165) p138 k138_165 ?_
  cases e
  exact r_retV (pc := 600) p138 k138_600 rfl
def f138_129 (s : mS) (x1 : Int32) (x2 : Int32) (x3 : Int32) (x4 : Int32) (y0 : Int32) (y1 : Int32) (y2 : Int32) : Option mS := ((f159 s y2 y1 y0).bind fun r1 => (if x1 = (26 : Int32) then f138_152 r1.2 x2 x3 x4 (r1.1 ||| (1024 : Int32)) else f138_152 r1.2 x2 x3 x4 r1.1))
theorem t138_129 {d n : Nat} {Z : Nat → ab_C} (hn : 42 ≤ n) : ∀ (s : mS) (l : ab_L) (x1 : Int32) (x2 : Int32) (x3 : Int32) (x4 : Int32) (y0 : Int32) (y1 : Int32) (y2 : Int32) (h0 : ab_get l 0 = some (.ref 22)) (h1 : ab_get l 1 = some (.int x1)) (h2 : ab_get l 2 = some (.int x2)) (h3 : ab_get l 3 = some (.int x3)) (h4 : ab_get l 4 = some (.int x4)) (r : mS) (e : f138_129 s x1 x2 x3 x4 y0 y1 y2 = some r), ab_Rn (d + 9) 138 129 l [.int y0, .int y1, .int y2, .ref 22] (ab_hl n (mm_F s Z)) (.inl none) (ab_hl n (mm_F r Z)) := by
  intro s l x1 x2 x3 x4 y0 y1 y2 h0 h1 h2 h3 h4 r e
  unfold f138_129 at e
  obtain ⟨r1, er1, e⟩ := of_bind e
  refine m_cv hn (pc := 129) p138 k138_129 rfl p159 (r := []) rfl rfl rfl rfl rfl (t159 hn s y2 y1 y0 r1 er1) (w := [.int r1.1]) rfl ?_
  refine r_istore (pc := 132) p138 k138_132 (by decide) (fun l g h5 => ?_)
  have h0 := g 0 _ (by decide) h0 (Or.inl rfl)
  have h1 := g 1 _ (by decide) h1 (Or.inl rfl)
  have h2 := g 2 _ (by decide) h2 (Or.inl rfl)
  have h3 := g 3 _ (by decide) h3 (Or.inl rfl)
  have h4 := g 4 _ (by decide) h4 (Or.inl rfl)
  refine r_aload_n (pc := 134) p138 k138_134 h0 ?_
  refine r_iload_n (pc := 135) p138 k138_135 h1 ?_
  refine r_bipush (pc := 136) p138 k138_136 (v := (26 : Int32)) rfl ?_
  refine r_ic_ne (pc := 138) p138 k138_138 (fun c => ?_) (fun c => ?_)
  · have e := (if_neg c).symm.trans e
    refine r_iload (pc := 150) p138 k138_150 h5 ?_
    exact t138_152 hn r1.2 l x2 x3 x4 r1.1 h2 h3 h4 r e
  · have e := (if_pos c).symm.trans e
    refine r_iload (pc := 141) p138 k138_141 h5 ?_
    refine r_sipush (pc := 143) p138 k138_143 (v := (1024 : Int32)) rfl ?_
    refine r_ior (pc := 146) p138 k138_146 ?_
    refine r_goto (pc := 147) p138 k138_147 ?_
    exact t138_152 hn r1.2 l x2 x3 x4 (r1.1 ||| (1024 : Int32)) h2 h3 h4 r e
def f138_115 (s : mS) (x1 : Int32) (x2 : Int32) (x3 : Int32) (x4 : Int32) (y0 : Int32) (y1 : Int32) : Option mS := (if (24 : Int32) ≤ x1 then f138_129 s x1 x2 x3 x4 (31 : Int32) y0 y1 else f138_129 s x1 x2 x3 x4 (2047 : Int32) y0 y1)
theorem t138_115 {d n : Nat} {Z : Nat → ab_C} (hn : 42 ≤ n) : ∀ (s : mS) (l : ab_L) (x1 : Int32) (x2 : Int32) (x3 : Int32) (x4 : Int32) (y0 : Int32) (y1 : Int32) (h0 : ab_get l 0 = some (.ref 22)) (h1 : ab_get l 1 = some (.int x1)) (h2 : ab_get l 2 = some (.int x2)) (h3 : ab_get l 3 = some (.int x3)) (h4 : ab_get l 4 = some (.int x4)) (r : mS) (e : f138_115 s x1 x2 x3 x4 y0 y1 = some r), ab_Rn (d + 9) 138 115 l [.int y0, .int y1, .ref 22] (ab_hl n (mm_F s Z)) (.inl none) (ab_hl n (mm_F r Z)) := by
  intro s l x1 x2 x3 x4 y0 y1 h0 h1 h2 h3 h4 r e
  unfold f138_115 at e
  refine r_iload_n (pc := 115) p138 k138_115 h1 ?_
  refine r_bipush (pc := 116) p138 k138_116 (v := (24 : Int32)) rfl ?_
  refine r_ic_ge (pc := 118) p138 k138_118 (fun c => ?_) (fun c => ?_)
  · have e := (if_pos c).symm.trans e
    refine r_bipush (pc := 127) p138 k138_127 (v := (31 : Int32)) rfl ?_
    exact t138_129 hn s l x1 x2 x3 x4 (31 : Int32) y0 y1 h0 h1 h2 h3 h4 r e
  · have e := (if_neg c).symm.trans e
    refine r_sipush (pc := 121) p138 k138_121 (v := (2047 : Int32)) rfl ?_
    refine r_goto (pc := 124) p138 k138_124 ?_
    exact t138_129 hn s l x1 x2 x3 x4 (2047 : Int32) y0 y1 h0 h1 h2 h3 h4 r e
def f138_62 (s : mS) (x2 : Int32) (x3 : Int32) (x4 : Int32) (y0 : Int32) : Option mS := ((f140 s).bind fun r1 => ((f144 r1.2 (f143 y0 r1.1 x4 x2 x3) (4 : Int32)).bind fun r2 => some r2))
theorem t138_62 {d n : Nat} {Z : Nat → ab_C} (hn : 42 ≤ n) : ∀ (s : mS) (l : ab_L) (x2 : Int32) (x3 : Int32) (x4 : Int32) (y0 : Int32) (h0 : ab_get l 0 = some (.ref 22)) (h2 : ab_get l 2 = some (.int x2)) (h3 : ab_get l 3 = some (.int x3)) (h4 : ab_get l 4 = some (.int x4)) (r : mS) (e : f138_62 s x2 x3 x4 y0 = some r), ab_Rn (d + 9) 138 62 l [.int y0, .ref 22] (ab_hl n (mm_F s Z)) (.inl none) (ab_hl n (mm_F r Z)) := by
  intro s l x2 x3 x4 y0 h0 h2 h3 h4 r e
  unfold f138_62 at e
  refine r_aload_n (pc := 62) p138 k138_62 h0 ?_
  obtain ⟨r1, er1, e⟩ := of_bind e
  refine m_cv hn (pc := 63) p138 k138_63 rfl p140 (r := [.int y0, .ref 22]) rfl rfl rfl rfl rfl (t140 hn s r1 er1) (w := [.int r1.1, .int y0, .ref 22]) rfl ?_
  refine r_iload (pc := 66) p138 k138_66 h4 ?_
  refine r_iload_n (pc := 68) p138 k138_68 h2 ?_
  refine r_iload_n (pc := 69) p138 k138_69 h3 ?_
  refine r_csv (pc := 70) p138 k138_70 rfl rfl p143 (r := [.ref 22]) rfl rfl rfl rfl (t143 y0 r1.1 x4 x2 x3 _ rfl) (w := [.int (f143 y0 r1.1 x4 x2 x3), .ref 22]) rfl ?_
  refine r_iconst (pc := 73) p138 k138_73 (v := (4 : Int32)) rfl ?_
  obtain ⟨r2, er2, e⟩ := of_bind e
  refine m_cv hn (pc := 74) p138 k138_74 rfl p144 (r := []) rfl rfl rfl rfl rfl (t144 hn r1.2 (f143 y0 r1.1 x4 x2 x3) (4 : Int32) r2 er2) (w := []) rfl ?_
  refine r_goto (pc := 77) p138 k138_77 ?_
  cases e
  exact r_retV (pc := 600) p138 k138_600 rfl
def f138_46 (s : mS) (x2 : Int32) (x3 : Int32) (x4 : Int32) : Option mS := f138_62 s x2 x3 x4 (32 : Int32)
theorem t138_46 {d n : Nat} {Z : Nat → ab_C} (hn : 42 ≤ n) : ∀ (s : mS) (l : ab_L) (x2 : Int32) (x3 : Int32) (x4 : Int32) (h0 : ab_get l 0 = some (.ref 22)) (h2 : ab_get l 2 = some (.int x2)) (h3 : ab_get l 3 = some (.int x3)) (h4 : ab_get l 4 = some (.int x4)) (r : mS) (e : f138_46 s x2 x3 x4 = some r), ab_Rn (d + 9) 138 46 l [.ref 22] (ab_hl n (mm_F s Z)) (.inl none) (ab_hl n (mm_F r Z)) := by
  intro s l x2 x3 x4 h0 h2 h3 h4 r e
  unfold f138_46 at e
  refine r_bipush (pc := 46) p138 k138_46 (v := (32 : Int32)) rfl ?_
  refine r_goto (pc := 48) p138 k138_48 ?_
  exact t138_62 hn s l x2 x3 x4 (32 : Int32) h0 h2 h3 h4 r e
def f138_16 (s : mS) (x1 : Int32) (y0 : Int32) : Option mS := (if (18 : Int32) ≤ x1 then (if (27 : Int32) ≤ x1 then (if (35 : Int32) ≤ x1 then (if (51 : Int32) ≤ x1 then (if (53 : Int32) ≤ x1 then (if x1 = (53 : Int32) then (if (s.1 11) = 0 then (if (s.1 20) = (1 : Int32) then ((f134 s (s.1 21) ((s.1 18) - (s.1 21))).bind fun r1 => (if r1 < 0 then f138_438 s else ((f139 s).bind fun r2 => f138_439 r2.2 r2.1))) else f138_438 s) else f138_438 s) else (if x1 = (54 : Int32) then ((f140 s).bind fun r1 => (if (f142 r1.2 (44 : Int32)) = 0 then f138_477 r1.2 r1.1 (1 : Int32) else f138_477 r1.2 r1.1 (0 : Int32))) else (if x1 = (55 : Int32) then f138_596 s (15 : Int32) else (if x1 = (56 : Int32) then f138_596 s (115 : Int32) else (if x1 = (57 : Int32) then f138_596 s (1048691 : Int32) else (if x1 = (58 : Int32) then f138_596 s (19 : Int32) else f138_596 s (f160 (0 : Int32) (1 : Int32) (0 : Int32) (0 : Int32) (103 : Int32)))))))) else ((f139 s).bind fun r1 => ((f145 r1.2).bind fun r2 => ((f159 r2.2 r2.1 (0 : Int32) (1048575 : Int32)).bind fun r3 => (if x1 = (51 : Int32) then f138_382 r3.2 (55 : Int32) ((r3.1 <<< ((12 : Int32) &&& 31)) ||| (r1.1 <<< ((7 : Int32) &&& 31))) else f138_382 r3.2 (23 : Int32) ((r3.1 <<< ((12 : Int32) &&& 31)) ||| (r1.1 <<< ((7 : Int32) &&& 31)))))))) else ((f139 s).bind fun r1 => (if (45 : Int32) ≤ x1 then f138_276 r1.2 x1 y0 r1.1 (0 : Int32) else ((f139 r1.2).bind fun r2 => f138_276 r2.2 x1 y0 r1.1 r2.1)))) else ((f139 s).bind fun r1 => ((f161 r1.2).bind fun r2 => (if (32 : Int32) ≤ x1 then f138_244 r2.2 (((((((r2.1 >>> ((5 : Int32) &&& 31)) <<< ((25 : Int32) &&& 31)) ||| (r1.1 <<< ((20 : Int32) &&& 31))) ||| ((r2.2.1 47) <<< ((15 : Int32) &&& 31))) ||| (y0 <<< ((12 : Int32) &&& 31))) ||| ((r2.1 &&& (31 : Int32)) <<< ((7 : Int32) &&& 31))) ||| (35 : Int32)) else f138_244 r2.2 (f160 r2.1 (r2.2.1 47) y0 r1.1 (3 : Int32)))))) else ((f139 s).bind fun r1 => ((f139 r1.2).bind fun r2 => ((f145 r2.2).bind fun r3 => (if (24 : Int32) ≤ x1 then f138_115 r3.2 x1 y0 r1.1 r2.1 (0 : Int32) r3.1 else f138_115 r3.2 x1 y0 r1.1 r2.1 (-2048 : Int32) r3.1))))) else ((f139 s).bind fun r1 => ((f139 r1.2).bind fun r2 => (if x1 = (1 : Int32) then f138_46 r2.2 y0 r1.1 r2.1 else (if x1 = (7 : Int32) then f138_46 r2.2 y0 r1.1 r2.1 else (if x1 ≤ (9 : Int32) then f138_62 r2.2 y0 r1.1 r2.1 (0 : Int32) else f138_62 r2.2 y0 r1.1 r2.1 (1 : Int32)))))))
theorem t138_16 {d n : Nat} {Z : Nat → ab_C} (hn : 42 ≤ n) : ∀ (s : mS) (l : ab_L) (x1 : Int32) (y0 : Int32) (h0 : ab_get l 0 = some (.ref 22)) (h1 : ab_get l 1 = some (.int x1)) (r : mS) (e : f138_16 s x1 y0 = some r), ab_Rn (d + 9) 138 16 l [.int y0] (ab_hl n (mm_F s Z)) (.inl none) (ab_hl n (mm_F r Z)) := by
  intro s l x1 y0 h0 h1 r e
  unfold f138_16 at e
  refine r_istore_n (pc := 16) p138 k138_16 (by decide) (fun l g h2 => ?_)
  have h0 := g 0 _ (by decide) h0 (Or.inl rfl)
  have h1 := g 1 _ (by decide) h1 (Or.inl rfl)
  refine r_iload_n (pc := 17) p138 k138_17 h1 ?_
  refine r_bipush (pc := 18) p138 k138_18 (v := (18 : Int32)) rfl ?_
  refine r_ic_ge (pc := 20) p138 k138_20 (fun c => ?_) (fun c => ?_)
  · have e := (if_pos c).symm.trans e
    refine r_iload_n (pc := 80) p138 k138_80 h1 ?_
    refine r_bipush (pc := 81) p138 k138_81 (v := (27 : Int32)) rfl ?_
    refine r_ic_ge (pc := 83) p138 k138_83 (fun c => ?_) (fun c => ?_)
    · have e := (if_pos c).symm.trans e
      refine r_iload_n (pc := 168) p138 k138_168 h1 ?_
      refine r_bipush (pc := 169) p138 k138_169 (v := (35 : Int32)) rfl ?_
      refine r_ic_ge (pc := 171) p138 k138_171 (fun c => ?_) (fun c => ?_)
      · have e := (if_pos c).symm.trans e
        refine r_iload_n (pc := 251) p138 k138_251 h1 ?_
        refine r_bipush (pc := 252) p138 k138_252 (v := (51 : Int32)) rfl ?_
        refine r_ic_ge (pc := 254) p138 k138_254 (fun c => ?_) (fun c => ?_)
        · have e := (if_pos c).symm.trans e
          refine r_iload_n (pc := 337) p138 k138_337 h1 ?_
          refine r_bipush (pc := 338) p138 k138_338 (v := (53 : Int32)) rfl ?_
          refine r_ic_ge (pc := 340) p138 k138_340 (fun c => ?_) (fun c => ?_)
          · have e := (if_pos c).symm.trans e
            refine r_iload_n (pc := 390) p138 k138_390 h1 ?_
            refine r_bipush (pc := 391) p138 k138_391 (v := (53 : Int32)) rfl ?_
            refine r_ic_ne (pc := 393) p138 k138_393 (fun c => ?_) (fun c => ?_)
            · have e := (if_neg c).symm.trans e
              refine r_iload_n (pc := 452) p138 k138_452 h1 ?_
              refine r_bipush (pc := 453) p138 k138_453 (v := (54 : Int32)) rfl ?_
              refine r_ic_ne (pc := 455) p138 k138_455 (fun c => ?_) (fun c => ?_)
              · have e := (if_neg c).symm.trans e
                refine r_aload_n (pc := 541) p138 k138_541 h0 ?_
                refine r_iload_n (pc := 542) p138 k138_542 h1 ?_
                refine r_bipush (pc := 543) p138 k138_543 (v := (55 : Int32)) rfl ?_
                refine r_ic_ne (pc := 545) p138 k138_545 (fun c => ?_) (fun c => ?_)
                · have e := (if_neg c).symm.trans e
                  refine r_iload_n (pc := 553) p138 k138_553 h1 ?_
                  refine r_bipush (pc := 554) p138 k138_554 (v := (56 : Int32)) rfl ?_
                  refine r_ic_ne (pc := 556) p138 k138_556 (fun c => ?_) (fun c => ?_)
                  · have e := (if_neg c).symm.trans e
                    refine r_iload_n (pc := 564) p138 k138_564 h1 ?_
                    refine r_bipush (pc := 565) p138 k138_565 (v := (57 : Int32)) rfl ?_
                    refine r_ic_ne (pc := 567) p138 k138_567 (fun c => ?_) (fun c => ?_)
                    · have e := (if_neg c).symm.trans e
                      refine r_iload_n (pc := 576) p138 k138_576 h1 ?_
                      refine r_bipush (pc := 577) p138 k138_577 (v := (58 : Int32)) rfl ?_
                      refine r_ic_ne (pc := 579) p138 k138_579 (fun c => ?_) (fun c => ?_)
                      · have e := (if_neg c).symm.trans e
                        refine r_iconst (pc := 587) p138 k138_587 (v := (0 : Int32)) rfl ?_
                        refine r_iconst (pc := 588) p138 k138_588 (v := (1 : Int32)) rfl ?_
                        refine r_iconst (pc := 589) p138 k138_589 (v := (0 : Int32)) rfl ?_
                        refine r_iconst (pc := 590) p138 k138_590 (v := (0 : Int32)) rfl ?_
                        refine r_bipush (pc := 591) p138 k138_591 (v := (103 : Int32)) rfl ?_
                        refine r_csv (pc := 593) p138 k138_593 rfl rfl p160 (r := [.ref 22]) rfl rfl rfl rfl (t160 (0 : Int32) (1 : Int32) (0 : Int32) (0 : Int32) (103 : Int32) _ rfl) (w := [.int (f160 (0 : Int32) (1 : Int32) (0 : Int32) (0 : Int32) (103 : Int32)), .ref 22]) rfl ?_
                        exact t138_596 hn s l (f160 (0 : Int32) (1 : Int32) (0 : Int32) (0 : Int32) (103 : Int32)) r e
                      · have e := (if_pos c).symm.trans e
                        refine r_bipush (pc := 582) p138 k138_582 (v := (19 : Int32)) rfl ?_
                        refine r_goto (pc := 584) p138 k138_584 ?_
                        exact t138_596 hn s l (19 : Int32) r e
                    · have e := (if_pos c).symm.trans e
                      refine r_ldcwI (pc := 570) p138 k138_570 (v := (1048691 : Int32)) rfl ?_
                      refine r_goto (pc := 573) p138 k138_573 ?_
                      exact t138_596 hn s l (1048691 : Int32) r e
                  · have e := (if_pos c).symm.trans e
                    refine r_bipush (pc := 559) p138 k138_559 (v := (115 : Int32)) rfl ?_
                    refine r_goto (pc := 561) p138 k138_561 ?_
                    exact t138_596 hn s l (115 : Int32) r e
                · have e := (if_pos c).symm.trans e
                  refine r_bipush (pc := 548) p138 k138_548 (v := (15 : Int32)) rfl ?_
                  refine r_goto (pc := 550) p138 k138_550 ?_
                  exact t138_596 hn s l (15 : Int32) r e
              · have e := (if_pos c).symm.trans e
                refine r_aload_n (pc := 458) p138 k138_458 h0 ?_
                obtain ⟨r1, er1, e⟩ := of_bind e
                refine m_cv hn (pc := 459) p138 k138_459 rfl p140 (r := []) rfl rfl rfl rfl rfl (t140 hn s r1 er1) (w := [.int r1.1]) rfl ?_
                refine r_istore_n (pc := 462) p138 k138_462 (by decide) (fun l g h3 => ?_)
                have h0 := g 0 _ (by decide) h0 (Or.inl rfl)
                refine r_aload_n (pc := 463) p138 k138_463 h0 ?_
                refine r_bipush (pc := 464) p138 k138_464 (v := (44 : Int32)) rfl ?_
                refine m_cv hn (pc := 466) p138 k138_466 rfl p142 (r := []) rfl rfl rfl rfl rfl (t142 hn r1.2 (44 : Int32) _ rfl) (w := [.int (f142 r1.2 (44 : Int32))]) rfl ?_
                refine r_if_ne (pc := 469) p138 k138_469 (fun c => ?_) (fun c => ?_)
                · have e := (if_neg c).symm.trans e
                  refine r_iconst (pc := 476) p138 k138_476 (v := (0 : Int32)) rfl ?_
                  exact t138_477 hn r1.2 l r1.1 (0 : Int32) h0 h3 r e
                · have e := (if_pos c).symm.trans e
                  refine r_iconst (pc := 472) p138 k138_472 (v := (1 : Int32)) rfl ?_
                  refine r_goto (pc := 473) p138 k138_473 ?_
                  exact t138_477 hn r1.2 l r1.1 (1 : Int32) h0 h3 r e
            · have e := (if_pos c).symm.trans e
              refine r_aload_n (pc := 396) p138 k138_396 h0 ?_
              refine m_get hn (pc := 397) p138 k138_397 (v := .int (s.1 11)) rfl ?_
              refine r_if_ne (pc := 400) p138 k138_400 (fun c => ?_) (fun c => ?_)
              · have e := (if_neg c).symm.trans e
                exact t138_438 hn s l h0 r e
              · have e := (if_pos c).symm.trans e
                refine r_aload_n (pc := 403) p138 k138_403 h0 ?_
                refine m_get hn (pc := 404) p138 k138_404 (v := .int (s.1 20)) rfl ?_
                refine r_iconst (pc := 407) p138 k138_407 (v := (1 : Int32)) rfl ?_
                refine r_ic_ne (pc := 408) p138 k138_408 (fun c => ?_) (fun c => ?_)
                · have e := (if_neg c).symm.trans e
                  exact t138_438 hn s l h0 r e
                · have e := (if_pos c).symm.trans e
                  refine r_aload_n (pc := 411) p138 k138_411 h0 ?_
                  refine r_aload_n (pc := 412) p138 k138_412 h0 ?_
                  refine m_get hn (pc := 413) p138 k138_413 (v := .int (s.1 21)) rfl ?_
                  refine r_aload_n (pc := 416) p138 k138_416 h0 ?_
                  refine m_get hn (pc := 417) p138 k138_417 (v := .int (s.1 18)) rfl ?_
                  refine r_aload_n (pc := 420) p138 k138_420 h0 ?_
                  refine m_get hn (pc := 421) p138 k138_421 (v := .int (s.1 21)) rfl ?_
                  refine r_isub (pc := 424) p138 k138_424 ?_
                  obtain ⟨r1, er1, e⟩ := of_bind e
                  refine m_cv hn (pc := 425) p138 k138_425 rfl p134 (r := []) rfl rfl rfl rfl rfl (t134 hn s (s.1 21) ((s.1 18) - (s.1 21)) r1 er1) (w := [.int r1]) rfl ?_
                  refine r_if_lt (pc := 428) p138 k138_428 (fun c => ?_) (fun c => ?_)
                  · have e := (if_pos c).symm.trans e
                    exact t138_438 hn s l h0 r e
                  · have e := (if_neg c).symm.trans e
                    refine r_aload_n (pc := 431) p138 k138_431 h0 ?_
                    obtain ⟨r2, er2, e⟩ := of_bind e
                    refine m_cv hn (pc := 432) p138 k138_432 rfl p139 (r := []) rfl rfl rfl rfl rfl (t139 hn s r2 er2) (w := [.int r2.1]) rfl ?_
                    refine r_goto (pc := 435) p138 k138_435 ?_
                    exact t138_439 hn r2.2 l r2.1 h0 r e
          · have e := (if_neg c).symm.trans e
            refine r_aload_n (pc := 343) p138 k138_343 h0 ?_
            obtain ⟨r1, er1, e⟩ := of_bind e
            refine m_cv hn (pc := 344) p138 k138_344 rfl p139 (r := []) rfl rfl rfl rfl rfl (t139 hn s r1 er1) (w := [.int r1.1]) rfl ?_
            refine r_istore_n (pc := 347) p138 k138_347 (by decide) (fun l g h3 => ?_)
            have h0 := g 0 _ (by decide) h0 (Or.inl rfl)
            have h1 := g 1 _ (by decide) h1 (Or.inl rfl)
            refine r_aload_n (pc := 348) p138 k138_348 h0 ?_
            refine r_aload_n (pc := 349) p138 k138_349 h0 ?_
            refine r_aload_n (pc := 350) p138 k138_350 h0 ?_
            obtain ⟨r2, er2, e⟩ := of_bind e
            refine m_cv hn (pc := 351) p138 k138_351 rfl p145 (r := [.ref 22, .ref 22]) rfl rfl rfl rfl rfl (t145 hn r1.2 r2 er2) (w := [.int r2.1, .ref 22, .ref 22]) rfl ?_
            refine r_iconst (pc := 354) p138 k138_354 (v := (0 : Int32)) rfl ?_
            refine r_ldcwI (pc := 355) p138 k138_355 (v := (1048575 : Int32)) rfl ?_
            obtain ⟨r3, er3, e⟩ := of_bind e
            refine m_cv hn (pc := 358) p138 k138_358 rfl p159 (r := [.ref 22]) rfl rfl rfl rfl rfl (t159 hn r2.2 r2.1 (0 : Int32) (1048575 : Int32) r3 er3) (w := [.int r3.1, .ref 22]) rfl ?_
            refine r_bipush (pc := 361) p138 k138_361 (v := (12 : Int32)) rfl ?_
            refine r_ishl (pc := 363) p138 k138_363 ?_
            refine r_iload_n (pc := 364) p138 k138_364 h3 ?_
            refine r_bipush (pc := 365) p138 k138_365 (v := (7 : Int32)) rfl ?_
            refine r_ishl (pc := 367) p138 k138_367 ?_
            refine r_ior (pc := 368) p138 k138_368 ?_
            refine r_iload_n (pc := 369) p138 k138_369 h1 ?_
            refine r_bipush (pc := 370) p138 k138_370 (v := (51 : Int32)) rfl ?_
            refine r_ic_ne (pc := 372) p138 k138_372 (fun c => ?_) (fun c => ?_)
            · have e := (if_neg c).symm.trans e
              refine r_bipush (pc := 380) p138 k138_380 (v := (23 : Int32)) rfl ?_
              exact t138_382 hn r3.2 l (23 : Int32) ((r3.1 <<< ((12 : Int32) &&& 31)) ||| (r1.1 <<< ((7 : Int32) &&& 31))) r e
            · have e := (if_pos c).symm.trans e
              refine r_bipush (pc := 375) p138 k138_375 (v := (55 : Int32)) rfl ?_
              refine r_goto (pc := 377) p138 k138_377 ?_
              exact t138_382 hn r3.2 l (55 : Int32) ((r3.1 <<< ((12 : Int32) &&& 31)) ||| (r1.1 <<< ((7 : Int32) &&& 31))) r e
        · have e := (if_neg c).symm.trans e
          refine r_aload_n (pc := 257) p138 k138_257 h0 ?_
          obtain ⟨r1, er1, e⟩ := of_bind e
          refine m_cv hn (pc := 258) p138 k138_258 rfl p139 (r := []) rfl rfl rfl rfl rfl (t139 hn s r1 er1) (w := [.int r1.1]) rfl ?_
          refine r_istore_n (pc := 261) p138 k138_261 (by decide) (fun l g h3 => ?_)
          have h0 := g 0 _ (by decide) h0 (Or.inl rfl)
          have h1 := g 1 _ (by decide) h1 (Or.inl rfl)
          have h2 := g 2 _ (by decide) h2 (Or.inl rfl)
          refine r_iload_n (pc := 262) p138 k138_262 h1 ?_
          refine r_bipush (pc := 263) p138 k138_263 (v := (45 : Int32)) rfl ?_
          refine r_ic_ge (pc := 265) p138 k138_265 (fun c => ?_) (fun c => ?_)
          · have e := (if_pos c).symm.trans e
            refine r_iconst (pc := 275) p138 k138_275 (v := (0 : Int32)) rfl ?_
            exact t138_276 hn r1.2 l x1 y0 r1.1 (0 : Int32) h0 h1 h2 h3 r e
          · have e := (if_neg c).symm.trans e
            refine r_aload_n (pc := 268) p138 k138_268 h0 ?_
            obtain ⟨r2, er2, e⟩ := of_bind e
            refine m_cv hn (pc := 269) p138 k138_269 rfl p139 (r := []) rfl rfl rfl rfl rfl (t139 hn r1.2 r2 er2) (w := [.int r2.1]) rfl ?_
            refine r_goto (pc := 272) p138 k138_272 ?_
            exact t138_276 hn r2.2 l x1 y0 r1.1 r2.1 h0 h1 h2 h3 r e
      · have e := (if_neg c).symm.trans e
        refine r_aload_n (pc := 174) p138 k138_174 h0 ?_
        obtain ⟨r1, er1, e⟩ := of_bind e
        refine m_cv hn (pc := 175) p138 k138_175 rfl p139 (r := []) rfl rfl rfl rfl rfl (t139 hn s r1 er1) (w := [.int r1.1]) rfl ?_
        refine r_istore_n (pc := 178) p138 k138_178 (by decide) (fun l g h3 => ?_)
        have h0 := g 0 _ (by decide) h0 (Or.inl rfl)
        have h1 := g 1 _ (by decide) h1 (Or.inl rfl)
        have h2 := g 2 _ (by decide) h2 (Or.inl rfl)
        refine r_aload_n (pc := 179) p138 k138_179 h0 ?_
        obtain ⟨r2, er2, e⟩ := of_bind e
        refine m_cv hn (pc := 180) p138 k138_180 rfl p161 (r := []) rfl rfl rfl rfl rfl (t161 hn r1.2 r2 er2) (w := [.int r2.1]) rfl ?_
        refine r_istore (pc := 183) p138 k138_183 (by decide) (fun l g h4 => ?_)
        have h0 := g 0 _ (by decide) h0 (Or.inl rfl)
        have h1 := g 1 _ (by decide) h1 (Or.inl rfl)
        have h2 := g 2 _ (by decide) h2 (Or.inl rfl)
        have h3 := g 3 _ (by decide) h3 (Or.inl rfl)
        refine r_aload_n (pc := 185) p138 k138_185 h0 ?_
        refine r_iload_n (pc := 186) p138 k138_186 h1 ?_
        refine r_bipush (pc := 187) p138 k138_187 (v := (32 : Int32)) rfl ?_
        refine r_ic_ge (pc := 189) p138 k138_189 (fun c => ?_) (fun c => ?_)
        · have e := (if_pos c).symm.trans e
          refine r_iload (pc := 207) p138 k138_207 h4 ?_
          refine r_iconst (pc := 209) p138 k138_209 (v := (5 : Int32)) rfl ?_
          refine r_ishr (pc := 210) p138 k138_210 ?_
          refine r_bipush (pc := 211) p138 k138_211 (v := (25 : Int32)) rfl ?_
          refine r_ishl (pc := 213) p138 k138_213 ?_
          refine r_iload_n (pc := 214) p138 k138_214 h3 ?_
          refine r_bipush (pc := 215) p138 k138_215 (v := (20 : Int32)) rfl ?_
          refine r_ishl (pc := 217) p138 k138_217 ?_
          refine r_ior (pc := 218) p138 k138_218 ?_
          refine r_aload_n (pc := 219) p138 k138_219 h0 ?_
          refine m_get hn (pc := 220) p138 k138_220 (v := .int (r2.2.1 47)) rfl ?_
          refine r_bipush (pc := 223) p138 k138_223 (v := (15 : Int32)) rfl ?_
          refine r_ishl (pc := 225) p138 k138_225 ?_
          refine r_ior (pc := 226) p138 k138_226 ?_
          refine r_iload_n (pc := 227) p138 k138_227 h2 ?_
          refine r_bipush (pc := 228) p138 k138_228 (v := (12 : Int32)) rfl ?_
          refine r_ishl (pc := 230) p138 k138_230 ?_
          refine r_ior (pc := 231) p138 k138_231 ?_
          refine r_iload (pc := 232) p138 k138_232 h4 ?_
          refine r_bipush (pc := 234) p138 k138_234 (v := (31 : Int32)) rfl ?_
          refine r_iand (pc := 236) p138 k138_236 ?_
          refine r_bipush (pc := 237) p138 k138_237 (v := (7 : Int32)) rfl ?_
          refine r_ishl (pc := 239) p138 k138_239 ?_
          refine r_ior (pc := 240) p138 k138_240 ?_
          refine r_bipush (pc := 241) p138 k138_241 (v := (35 : Int32)) rfl ?_
          refine r_ior (pc := 243) p138 k138_243 ?_
          exact t138_244 hn r2.2 l (((((((r2.1 >>> ((5 : Int32) &&& 31)) <<< ((25 : Int32) &&& 31)) ||| (r1.1 <<< ((20 : Int32) &&& 31))) ||| ((r2.2.1 47) <<< ((15 : Int32) &&& 31))) ||| (y0 <<< ((12 : Int32) &&& 31))) ||| ((r2.1 &&& (31 : Int32)) <<< ((7 : Int32) &&& 31))) ||| (35 : Int32)) r e
        · have e := (if_neg c).symm.trans e
          refine r_iload (pc := 192) p138 k138_192 h4 ?_
          refine r_aload_n (pc := 194) p138 k138_194 h0 ?_
          refine m_get hn (pc := 195) p138 k138_195 (v := .int (r2.2.1 47)) rfl ?_
          refine r_iload_n (pc := 198) p138 k138_198 h2 ?_
          refine r_iload_n (pc := 199) p138 k138_199 h3 ?_
          refine r_iconst (pc := 200) p138 k138_200 (v := (3 : Int32)) rfl ?_
          refine r_csv (pc := 201) p138 k138_201 rfl rfl p160 (r := [.ref 22]) rfl rfl rfl rfl (t160 r2.1 (r2.2.1 47) y0 r1.1 (3 : Int32) _ rfl) (w := [.int (f160 r2.1 (r2.2.1 47) y0 r1.1 (3 : Int32)), .ref 22]) rfl ?_
          refine r_goto (pc := 204) p138 k138_204 ?_
          exact t138_244 hn r2.2 l (f160 r2.1 (r2.2.1 47) y0 r1.1 (3 : Int32)) r e
    · have e := (if_neg c).symm.trans e
      refine r_aload_n (pc := 86) p138 k138_86 h0 ?_
      obtain ⟨r1, er1, e⟩ := of_bind e
      refine m_cv hn (pc := 87) p138 k138_87 rfl p139 (r := []) rfl rfl rfl rfl rfl (t139 hn s r1 er1) (w := [.int r1.1]) rfl ?_
      refine r_istore_n (pc := 90) p138 k138_90 (by decide) (fun l g h3 => ?_)
      have h0 := g 0 _ (by decide) h0 (Or.inl rfl)
      have h1 := g 1 _ (by decide) h1 (Or.inl rfl)
      have h2 := g 2 _ (by decide) h2 (Or.inl rfl)
      refine r_aload_n (pc := 91) p138 k138_91 h0 ?_
      obtain ⟨r2, er2, e⟩ := of_bind e
      refine m_cv hn (pc := 92) p138 k138_92 rfl p139 (r := []) rfl rfl rfl rfl rfl (t139 hn r1.2 r2 er2) (w := [.int r2.1]) rfl ?_
      refine r_istore (pc := 95) p138 k138_95 (by decide) (fun l g h4 => ?_)
      have h0 := g 0 _ (by decide) h0 (Or.inl rfl)
      have h1 := g 1 _ (by decide) h1 (Or.inl rfl)
      have h2 := g 2 _ (by decide) h2 (Or.inl rfl)
      have h3 := g 3 _ (by decide) h3 (Or.inl rfl)
      refine r_aload_n (pc := 97) p138 k138_97 h0 ?_
      refine r_aload_n (pc := 98) p138 k138_98 h0 ?_
      obtain ⟨r3, er3, e⟩ := of_bind e
      refine m_cv hn (pc := 99) p138 k138_99 rfl p145 (r := [.ref 22]) rfl rfl rfl rfl rfl (t145 hn r2.2 r3 er3) (w := [.int r3.1, .ref 22]) rfl ?_
      refine r_iload_n (pc := 102) p138 k138_102 h1 ?_
      refine r_bipush (pc := 103) p138 k138_103 (v := (24 : Int32)) rfl ?_
      refine r_ic_ge (pc := 105) p138 k138_105 (fun c => ?_) (fun c => ?_)
      · have e := (if_pos c).symm.trans e
        refine r_iconst (pc := 114) p138 k138_114 (v := (0 : Int32)) rfl ?_
        exact t138_115 hn r3.2 l x1 y0 r1.1 r2.1 (0 : Int32) r3.1 h0 h1 h2 h3 h4 r e
      · have e := (if_neg c).symm.trans e
        refine r_sipush (pc := 108) p138 k138_108 (v := (-2048 : Int32)) rfl ?_
        refine r_goto (pc := 111) p138 k138_111 ?_
        exact t138_115 hn r3.2 l x1 y0 r1.1 r2.1 (-2048 : Int32) r3.1 h0 h1 h2 h3 h4 r e
  · have e := (if_neg c).symm.trans e
    refine r_aload_n (pc := 23) p138 k138_23 h0 ?_
    obtain ⟨r1, er1, e⟩ := of_bind e
    refine m_cv hn (pc := 24) p138 k138_24 rfl p139 (r := []) rfl rfl rfl rfl rfl (t139 hn s r1 er1) (w := [.int r1.1]) rfl ?_
    refine r_istore_n (pc := 27) p138 k138_27 (by decide) (fun l g h3 => ?_)
    have h0 := g 0 _ (by decide) h0 (Or.inl rfl)
    have h1 := g 1 _ (by decide) h1 (Or.inl rfl)
    have h2 := g 2 _ (by decide) h2 (Or.inl rfl)
    refine r_aload_n (pc := 28) p138 k138_28 h0 ?_
    obtain ⟨r2, er2, e⟩ := of_bind e
    refine m_cv hn (pc := 29) p138 k138_29 rfl p139 (r := []) rfl rfl rfl rfl rfl (t139 hn r1.2 r2 er2) (w := [.int r2.1]) rfl ?_
    refine r_istore (pc := 32) p138 k138_32 (by decide) (fun l g h4 => ?_)
    have h0 := g 0 _ (by decide) h0 (Or.inl rfl)
    have h1 := g 1 _ (by decide) h1 (Or.inl rfl)
    have h2 := g 2 _ (by decide) h2 (Or.inl rfl)
    have h3 := g 3 _ (by decide) h3 (Or.inl rfl)
    refine r_aload_n (pc := 34) p138 k138_34 h0 ?_
    refine r_iload_n (pc := 35) p138 k138_35 h1 ?_
    refine r_iconst (pc := 36) p138 k138_36 (v := (1 : Int32)) rfl ?_
    refine r_ic_eq (pc := 37) p138 k138_37 (fun c => ?_) (fun c => ?_)
    · have e := (if_pos c).symm.trans e
      exact t138_46 hn r2.2 l y0 r1.1 r2.1 h0 h2 h3 h4 r e
    · have e := (if_neg c).symm.trans e
      refine r_iload_n (pc := 40) p138 k138_40 h1 ?_
      refine r_bipush (pc := 41) p138 k138_41 (v := (7 : Int32)) rfl ?_
      refine r_ic_ne (pc := 43) p138 k138_43 (fun c => ?_) (fun c => ?_)
      · have e := (if_neg c).symm.trans e
        refine r_iload_n (pc := 51) p138 k138_51 h1 ?_
        refine r_bipush (pc := 52) p138 k138_52 (v := (9 : Int32)) rfl ?_
        refine r_ic_le (pc := 54) p138 k138_54 (fun c => ?_) (fun c => ?_)
        · have e := (if_pos c).symm.trans e
          refine r_iconst (pc := 61) p138 k138_61 (v := (0 : Int32)) rfl ?_
          exact t138_62 hn r2.2 l y0 r1.1 r2.1 (0 : Int32) h0 h2 h3 h4 r e
        · have e := (if_neg c).symm.trans e
          refine r_iconst (pc := 57) p138 k138_57 (v := (1 : Int32)) rfl ?_
          refine r_goto (pc := 58) p138 k138_58 ?_
          exact t138_62 hn r2.2 l y0 r1.1 r2.1 (1 : Int32) h0 h2 h3 h4 r e
      · have e := (if_pos c).symm.trans e
        exact t138_46 hn r2.2 l y0 r1.1 r2.1 h0 h2 h3 h4 r e
def f138 (s : mS) (x1 : Int32) : Option mS := (if (51 : Int32) ≤ x1 then f138_16 s x1 (0 : Int32) else if ib x1 51 then f138_16 s x1 (mm_prt x1.toNatClampNeg) else none)
theorem t138 {d n : Nat} {Z : Nat → ab_C} (hn : 42 ≤ n) (s : mS) (x1 : Int32) (r : mS) (e : f138 s x1 = some r) : ab_Rn (d + 9) 138 0 (lv_args 0 [.ref 22, .int x1]) [] (ab_hl n (mm_F s Z)) (.inl none) (ab_hl n (mm_F r Z)) := by
  unfold f138 at e
  obtain ⟨l, hl⟩ : ∃ l, l = (lv_args 0 [.ref 22, .int x1]) := ⟨_, rfl⟩
  rw [← hl]
  have h0 : ab_get l 0 = some (.ref 22) := by rw [hl]; rfl
  have h1 : ab_get l 1 = some (.int x1) := by rw [hl]; rfl
  refine r_iload_n (pc := 0) p138 k138_0 h1 ?_
  refine r_bipush (pc := 1) p138 k138_1 (v := (51 : Int32)) rfl ?_
  refine r_ic_ge (pc := 3) p138 k138_3 (fun c => ?_) (fun c => ?_)
  · have e := (if_pos c).symm.trans e
    refine r_iconst (pc := 15) p138 k138_15 (v := (0 : Int32)) rfl ?_
    exact t138_16 hn s l x1 (0 : Int32) h0 h1 r e
  · have e := (if_neg c).symm.trans e
    refine r_aload_n (pc := 6) p138 k138_6 h0 ?_
    refine m_get hn (pc := 7) p138 k138_7 (v := .ref 25) rfl ?_
    refine r_iload_n (pc := 10) p138 k138_10 h1 ?_
    obtain ⟨c, e⟩ := of_if e
    refine r_iald (pc := 11) p138 k138_11 (m_lt hn rfl) (f := mm_prt) rfl c ?_
    refine r_goto (pc := 12) p138 k138_12 ?_
    exact t138_16 hn s l x1 (mm_prt x1.toNatClampNeg) h0 h1 r e
