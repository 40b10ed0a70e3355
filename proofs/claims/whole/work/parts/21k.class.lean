theorem p106 : ab_prog[106]? = some (ab_m106, ab_c106) := rfl
theorem k106_0 : ab_fetch ab_c106 0 = some (.aload_n 0, 1, 0, 0) := rfl
theorem k106_1 : ab_fetch ab_c106 1 = some (.iconst 0, 1, 0, 0) := rfl
theorem k106_2 : ab_fetch ab_c106 2 = some (.ldc 45, 2, 1179403647, 0) := rfl
theorem k106_4 : ab_fetch ab_c106 4 = some (.iconst 4, 1, 0, 0) := rfl
theorem k106_5 : ab_fetch ab_c106 5 = some (.invokevirtual 46, 3, 84, 3) := rfl
theorem k106_8 : ab_fetch ab_c106 8 = some (.aload_n 0, 1, 0, 0) := rfl
theorem k106_9 : ab_fetch ab_c106 9 = some (.iconst 4, 1, 0, 0) := rfl
theorem k106_10 : ab_fetch ab_c106 10 = some (.ldc 50, 2, 65793, 0) := rfl
theorem k106_12 : ab_fetch ab_c106 12 = some (.iconst 4, 1, 0, 0) := rfl
theorem k106_13 : ab_fetch ab_c106 13 = some (.invokevirtual 46, 3, 84, 3) := rfl
theorem k106_16 : ab_fetch ab_c106 16 = some (.aload_n 0, 1, 0, 0) := rfl
theorem k106_17 : ab_fetch ab_c106 17 = some (.bipush 16, 2, 0, 0) := rfl
theorem k106_19 : ab_fetch ab_c106 19 = some (.iconst 2, 1, 0, 0) := rfl
theorem k106_20 : ab_fetch ab_c106 20 = some (.iconst 2, 1, 0, 0) := rfl
theorem k106_21 : ab_fetch ab_c106 21 = some (.invokevirtual 46, 3, 84, 3) := rfl
theorem k106_24 : ab_fetch ab_c106 24 = some (.aload_n 0, 1, 0, 0) := rfl
theorem k106_25 : ab_fetch ab_c106 25 = some (.bipush 18, 2, 0, 0) := rfl
theorem k106_27 : ab_fetch ab_c106 27 = some (.sipush 243, 3, 0, 0) := rfl
theorem k106_30 : ab_fetch ab_c106 30 = some (.iconst 2, 1, 0, 0) := rfl
theorem k106_31 : ab_fetch ab_c106 31 = some (.invokevirtual 46, 3, 84, 3) := rfl
theorem k106_34 : ab_fetch ab_c106 34 = some (.aload_n 0, 1, 0, 0) := rfl
theorem k106_35 : ab_fetch ab_c106 35 = some (.bipush 20, 2, 0, 0) := rfl
theorem k106_37 : ab_fetch ab_c106 37 = some (.iconst 1, 1, 0, 0) := rfl
theorem k106_38 : ab_fetch ab_c106 38 = some (.iconst 4, 1, 0, 0) := rfl
theorem k106_39 : ab_fetch ab_c106 39 = some (.invokevirtual 46, 3, 84, 3) := rfl
theorem k106_42 : ab_fetch ab_c106 42 = some (.aload_n 0, 1, 0, 0) := rfl
theorem k106_43 : ab_fetch ab_c106 43 = some (.bipush 24, 2, 0, 0) := rfl
theorem k106_45 : ab_fetch ab_c106 45 = some (.iload_n 1, 1, 0, 0) := rfl
theorem k106_46 : ab_fetch ab_c106 46 = some (.iconst 4, 1, 0, 0) := rfl
theorem k106_47 : ab_fetch ab_c106 47 = some (.invokevirtual 46, 3, 84, 3) := rfl
theorem k106_50 : ab_fetch ab_c106 50 = some (.aload_n 0, 1, 0, 0) := rfl
theorem k106_51 : ab_fetch ab_c106 51 = some (.bipush 28, 2, 0, 0) := rfl
theorem k106_53 : ab_fetch ab_c106 53 = some (.bipush 52, 2, 0, 0) := rfl
theorem k106_55 : ab_fetch ab_c106 55 = some (.iconst 4, 1, 0, 0) := rfl
theorem k106_56 : ab_fetch ab_c106 56 = some (.invokevirtual 46, 3, 84, 3) := rfl
theorem k106_59 : ab_fetch ab_c106 59 = some (.aload_n 0, 1, 0, 0) := rfl
theorem k106_60 : ab_fetch ab_c106 60 = some (.bipush 40, 2, 0, 0) := rfl
theorem k106_62 : ab_fetch ab_c106 62 = some (.bipush 52, 2, 0, 0) := rfl
theorem k106_64 : ab_fetch ab_c106 64 = some (.iconst 2, 1, 0, 0) := rfl
theorem k106_65 : ab_fetch ab_c106 65 = some (.invokevirtual 46, 3, 84, 3) := rfl
theorem k106_68 : ab_fetch ab_c106 68 = some (.aload_n 0, 1, 0, 0) := rfl
theorem k106_69 : ab_fetch ab_c106 69 = some (.bipush 42, 2, 0, 0) := rfl
theorem k106_71 : ab_fetch ab_c106 71 = some (.bipush 32, 2, 0, 0) := rfl
theorem k106_73 : ab_fetch ab_c106 73 = some (.iconst 2, 1, 0, 0) := rfl
theorem k106_74 : ab_fetch ab_c106 74 = some (.invokevirtual 46, 3, 84, 3) := rfl
theorem k106_77 : ab_fetch ab_c106 77 = some (.aload_n 0, 1, 0, 0) := rfl
theorem k106_78 : ab_fetch ab_c106 78 = some (.bipush 44, 2, 0, 0) := rfl
theorem k106_80 : ab_fetch ab_c106 80 = some (.aload_n 0, 1, 0, 0) := rfl
theorem k106_81 : ab_fetch ab_c106 81 = some (.getfield 19, 3, 2, 2) := rfl
theorem k106_84 : ab_fetch ab_c106 84 = some (.ifCond .le 7, 3, 91, 0) := rfl
theorem k106_87 : ab_fetch ab_c106 87 = some (.iconst 2, 1, 0, 0) := rfl
theorem k106_88 : ab_fetch ab_c106 88 = some (.goto 4, 3, 92, 0) := rfl
theorem k106_91 : ab_fetch ab_c106 91 = some (.iconst 1, 1, 0, 0) := rfl
theorem k106_92 : ab_fetch ab_c106 92 = some (.iconst 2, 1, 0, 0) := rfl
theorem k106_93 : ab_fetch ab_c106 93 = some (.invokevirtual 46, 3, 84, 3) := rfl
theorem k106_96 : ab_fetch ab_c106 96 = some (.aload_n 0, 1, 0, 0) := rfl
theorem k106_97 : ab_fetch ab_c106 97 = some (.bipush 52, 2, 0, 0) := rfl
theorem k106_99 : ab_fetch ab_c106 99 = some (.aload_n 0, 1, 0, 0) := rfl
theorem k106_100 : ab_fetch ab_c106 100 = some (.iconst 0, 1, 0, 0) := rfl
theorem k106_101 : ab_fetch ab_c106 101 = some (.invokevirtual 22, 3, 83, 1) := rfl
theorem k106_104 : ab_fetch ab_c106 104 = some (.iconst 0, 1, 0, 0) := rfl
theorem k106_105 : ab_fetch ab_c106 105 = some (.aload_n 0, 1, 0, 0) := rfl
theorem k106_106 : ab_fetch ab_c106 106 = some (.getfield 15, 3, 2, 1) := rfl
theorem k106_109 : ab_fetch ab_c106 109 = some (.iconst 5, 1, 0, 0) := rfl
theorem k106_110 : ab_fetch ab_c106 110 = some (.invokevirtual 51, 3, 107, 5) := rfl
theorem k106_113 : ab_fetch ab_c106 113 = some (.aload_n 0, 1, 0, 0) := rfl
theorem k106_114 : ab_fetch ab_c106 114 = some (.getfield 19, 3, 2, 2) := rfl
theorem k106_117 : ab_fetch ab_c106 117 = some (.ifCond .le 21, 3, 138, 0) := rfl
theorem k106_120 : ab_fetch ab_c106 120 = some (.aload_n 0, 1, 0, 0) := rfl
theorem k106_121 : ab_fetch ab_c106 121 = some (.bipush 84, 2, 0, 0) := rfl
theorem k106_123 : ab_fetch ab_c106 123 = some (.aload_n 0, 1, 0, 0) := rfl
theorem k106_124 : ab_fetch ab_c106 124 = some (.iconst 1, 1, 0, 0) := rfl
theorem k106_125 : ab_fetch ab_c106 125 = some (.invokevirtual 22, 3, 83, 1) := rfl
theorem k106_128 : ab_fetch ab_c106 128 = some (.iload_n 2, 1, 0, 0) := rfl
theorem k106_129 : ab_fetch ab_c106 129 = some (.aload_n 0, 1, 0, 0) := rfl
theorem k106_130 : ab_fetch ab_c106 130 = some (.getfield 19, 3, 2, 2) := rfl
theorem k106_133 : ab_fetch ab_c106 133 = some (.bipush 6, 2, 0, 0) := rfl
theorem k106_135 : ab_fetch ab_c106 135 = some (.invokevirtual 51, 3, 107, 5) := rfl
theorem k106_138 : ab_fetch ab_c106 138 = some (.return_, 1, 0, 0) := rfl
/- CodeSmith$Image putHead(II)V -/
def f106_92 (x0 : Nat) (s : cS) (x2 : Int32) (y0 : Int32) (y1 : Int32) : Option cS := ((f84 x0 s y1 y0 (2 : Int32)).bind fun r1 => ((f107 x0 r1 (52 : Int32) (f83 x0 r1 (0 : Int32)) (0 : Int32) (r1.1 x0 1) (5 : Int32)).bind fun r2 => (if (r2.1 x0 2) ≤ 0 then some r2 else ((f107 x0 r2 (84 : Int32) (f83 x0 r2 (1 : Int32)) x2 (r2.1 x0 2) (6 : Int32)).bind fun r3 => some r3))))
theorem t106_92 {d : Nat} {Z : Nat → ab_C} (x0 : Nat) (hq : cQ x0) : ∀ (s : cS) (l : ab_L) (x2 : Int32) (y0 : Int32) (y1 : Int32) (h0 : ab_get l 0 = some (.ref x0)) (h2 : ab_get l 2 = some (.int x2)) (r : cS) (e : f106_92 x0 s x2 y0 y1 = some r), ab_Rn (d + 2) 106 92 l [.int y0, .int y1, .ref x0] (ch s Z) (.inl none) (ch r Z) := by
  intro s l x2 y0 y1 h0 h2 r e
  unfold f106_92 at e
  refine r_iconst (pc := 92) p106 k106_92 (v := (2 : Int32)) rfl ?_
  obtain ⟨r1, er1, e⟩ := of_bind e
  refine c_cvI hq (pc := 93) p106 k106_93 rfl p84 (r := []) rfl rfl rfl rfl rfl (t84 x0 hq s y1 y0 (2 : Int32) r1 er1) (w := []) rfl ?_
  refine r_aload_n (pc := 96) p106 k106_96 h0 ?_
  refine r_bipush (pc := 97) p106 k106_97 (v := (52 : Int32)) rfl ?_
  refine r_aload_n (pc := 99) p106 k106_99 h0 ?_
  refine r_iconst (pc := 100) p106 k106_100 (v := (0 : Int32)) rfl ?_
  refine c_cvI hq (pc := 101) p106 k106_101 rfl p83 (r := [.int (52 : Int32), .ref x0]) rfl rfl rfl rfl rfl (t83 x0 hq r1 (0 : Int32) _ rfl) (w := [.int (f83 x0 r1 (0 : Int32)), .int (52 : Int32), .ref x0]) rfl ?_
  refine r_iconst (pc := 104) p106 k106_104 (v := (0 : Int32)) rfl ?_
  refine r_aload_n (pc := 105) p106 k106_105 h0 ?_
  refine c_getI hq (pc := 106) p106 k106_106 (v := .int (r1.1 x0 1)) rfl ?_
  refine r_iconst (pc := 109) p106 k106_109 (v := (5 : Int32)) rfl ?_
  obtain ⟨r2, er2, e⟩ := of_bind e
  refine c_cvI hq (pc := 110) p106 k106_110 rfl p107 (r := []) rfl rfl rfl rfl rfl (t107 x0 hq r1 (52 : Int32) (f83 x0 r1 (0 : Int32)) (0 : Int32) (r1.1 x0 1) (5 : Int32) r2 er2) (w := []) rfl ?_
  refine r_aload_n (pc := 113) p106 k106_113 h0 ?_
  refine c_getI hq (pc := 114) p106 k106_114 (v := .int (r2.1 x0 2)) rfl ?_
  refine r_if_le (pc := 117) p106 k106_117 (fun c => ?_) (fun c => ?_)
  · have e := (if_pos c).symm.trans e
    obtain rfl := Option.some.inj e
    exact r_retV (pc := 138) p106 k106_138 rfl
  · have e := (if_neg c).symm.trans e
    refine r_aload_n (pc := 120) p106 k106_120 h0 ?_
    refine r_bipush (pc := 121) p106 k106_121 (v := (84 : Int32)) rfl ?_
    refine r_aload_n (pc := 123) p106 k106_123 h0 ?_
    refine r_iconst (pc := 124) p106 k106_124 (v := (1 : Int32)) rfl ?_
    refine c_cvI hq (pc := 125) p106 k106_125 rfl p83 (r := [.int (84 : Int32), .ref x0]) rfl rfl rfl rfl rfl (t83 x0 hq r2 (1 : Int32) _ rfl) (w := [.int (f83 x0 r2 (1 : Int32)), .int (84 : Int32), .ref x0]) rfl ?_
    refine r_iload_n (pc := 128) p106 k106_128 h2 ?_
    refine r_aload_n (pc := 129) p106 k106_129 h0 ?_
    refine c_getI hq (pc := 130) p106 k106_130 (v := .int (r2.1 x0 2)) rfl ?_
    refine r_bipush (pc := 133) p106 k106_133 (v := (6 : Int32)) rfl ?_
    obtain ⟨r3, er3, e⟩ := of_bind e
    refine c_cvI hq (pc := 135) p106 k106_135 rfl p107 (r := []) rfl rfl rfl rfl rfl (t107 x0 hq r2 (84 : Int32) (f83 x0 r2 (1 : Int32)) x2 (r2.1 x0 2) (6 : Int32) r3 er3) (w := []) rfl ?_
    obtain rfl := Option.some.inj e
    exact r_retV (pc := 138) p106 k106_138 rfl
def f106 (x0 : Nat) (s : cS) (x1 : Int32) (x2 : Int32) : Option cS := ((f84 x0 s (0 : Int32) (1179403647 : Int32) (4 : Int32)).bind fun r1 => ((f84 x0 r1 (4 : Int32) (65793 : Int32) (4 : Int32)).bind fun r2 => ((f84 x0 r2 (16 : Int32) (2 : Int32) (2 : Int32)).bind fun r3 => ((f84 x0 r3 (18 : Int32) (243 : Int32) (2 : Int32)).bind fun r4 => ((f84 x0 r4 (20 : Int32) (1 : Int32) (4 : Int32)).bind fun r5 => ((f84 x0 r5 (24 : Int32) x1 (4 : Int32)).bind fun r6 => ((f84 x0 r6 (28 : Int32) (52 : Int32) (4 : Int32)).bind fun r7 => ((f84 x0 r7 (40 : Int32) (52 : Int32) (2 : Int32)).bind fun r8 => ((f84 x0 r8 (42 : Int32) (32 : Int32) (2 : Int32)).bind fun r9 => (if (r9.1 x0 2) ≤ 0 then f106_92 x0 r9 x2 (1 : Int32) (44 : Int32) else f106_92 x0 r9 x2 (2 : Int32) (44 : Int32)))))))))))
theorem t106 {d : Nat} {Z : Nat → ab_C} (x0 : Nat) (hq : cQ x0) (s : cS) (x1 : Int32) (x2 : Int32) (r : cS) (e : f106 x0 s x1 x2 = some r) : ab_Rn (d + 2) 106 0 (lv_args 0 [.ref x0, .int x1, .int x2]) [] (ch s Z) (.inl none) (ch r Z) := by
  unfold f106 at e
  obtain ⟨l, hl⟩ : ∃ l, l = (lv_args 0 [.ref x0, .int x1, .int x2]) := ⟨_, rfl⟩
  rw [← hl]
  have h0 : ab_get l 0 = some (.ref x0) := by rw [hl]; rfl
  have h1 : ab_get l 1 = some (.int x1) := by rw [hl]; rfl
  have h2 : ab_get l 2 = some (.int x2) := by rw [hl]; rfl
  refine r_aload_n (pc := 0) p106 k106_0 h0 ?_
  refine r_iconst (pc := 1) p106 k106_1 (v := (0 : Int32)) rfl ?_
  refine r_ldcI (pc := 2) p106 k106_2 (v := (1179403647 : Int32)) rfl ?_
  refine r_iconst (pc := 4) p106 k106_4 (v := (4 : Int32)) rfl ?_
  obtain ⟨r1, er1, e⟩ := of_bind e
  refine c_cvI hq (pc := 5) p106 k106_5 rfl p84 (r := []) rfl rfl rfl rfl rfl (t84 x0 hq s (0 : Int32) (1179403647 : Int32) (4 : Int32) r1 er1) (w := []) rfl ?_
  refine r_aload_n (pc := 8) p106 k106_8 h0 ?_
  refine r_iconst (pc := 9) p106 k106_9 (v := (4 : Int32)) rfl ?_
  refine r_ldcI (pc := 10) p106 k106_10 (v := (65793 : Int32)) rfl ?_
  refine r_iconst (pc := 12) p106 k106_12 (v := (4 : Int32)) rfl ?_
  obtain ⟨r2, er2, e⟩ := of_bind e
  refine c_cvI hq (pc := 13) p106 k106_13 rfl p84 (r := []) rfl rfl rfl rfl rfl (t84 x0 hq r1 (4 : Int32) (65793 : Int32) (4 : Int32) r2 er2) (w := []) rfl ?_
  refine r_aload_n (pc := 16) p106 k106_16 h0 ?_
  refine r_bipush (pc := 17) p106 k106_17 (v := (16 : Int32)) rfl ?_
  refine r_iconst (pc := 19) p106 k106_19 (v := (2 : Int32)) rfl ?_
  refine r_iconst (pc := 20) p106 k106_20 (v := (2 : Int32)) rfl ?_
  obtain ⟨r3, er3, e⟩ := of_bind e
  refine c_cvI hq (pc := 21) p106 k106_21 rfl p84 (r := []) rfl rfl rfl rfl rfl (t84 x0 hq r2 (16 : Int32) (2 : Int32) (2 : Int32) r3 er3) (w := []) rfl ?_
  refine r_aload_n (pc := 24) p106 k106_24 h0 ?_
  refine r_bipush (pc := 25) p106 k106_25 (v := (18 : Int32)) rfl ?_
  refine r_sipush (pc := 27) p106 k106_27 (v := (243 : Int32)) rfl ?_
  refine r_iconst (pc := 30) p106 k106_30 (v := (2 : Int32)) rfl ?_
  obtain ⟨r4, er4, e⟩ := of_bind e
  refine c_cvI hq (pc := 31) p106 k106_31 rfl p84 (r := []) rfl rfl rfl rfl rfl (t84 x0 hq r3 (18 : Int32) (243 : Int32) (2 : Int32) r4 er4) (w := []) rfl ?_
  refine r_aload_n (pc := 34) p106 k106_34 h0 ?_
  refine r_bipush (pc := 35) p106 k106_35 (v := (20 : Int32)) rfl ?_
  refine r_iconst (pc := 37) p106 k106_37 (v := (1 : Int32)) rfl ?_
  refine r_iconst (pc := 38) p106 k106_38 (v := (4 : Int32)) rfl ?_
  obtain ⟨r5, er5, e⟩ := of_bind e
  refine c_cvI hq (pc := 39) p106 k106_39 rfl p84 (r := []) rfl rfl rfl rfl rfl (t84 x0 hq r4 (20 : Int32) (1 : Int32) (4 : Int32) r5 er5) (w := []) rfl ?_
  refine r_aload_n (pc := 42) p106 k106_42 h0 ?_
  refine r_bipush (pc := 43) p106 k106_43 (v := (24 : Int32)) rfl ?_
  refine r_iload_n (pc := 45) p106 k106_45 h1 ?_
  refine r_iconst (pc := 46) p106 k106_46 (v := (4 : Int32)) rfl ?_
  obtain ⟨r6, er6, e⟩ := of_bind e
  refine c_cvI hq (pc := 47) p106 k106_47 rfl p84 (r := []) rfl rfl rfl rfl rfl (t84 x0 hq r5 (24 : Int32) x1 (4 : Int32) r6 er6) (w := []) rfl ?_
  refine r_aload_n (pc := 50) p106 k106_50 h0 ?_
  refine r_bipush (pc := 51) p106 k106_51 (v := (28 : Int32)) rfl ?_
  refine r_bipush (pc := 53) p106 k106_53 (v := (52 : Int32)) rfl ?_
  refine r_iconst (pc := 55) p106 k106_55 (v := (4 : Int32)) rfl ?_
  obtain ⟨r7, er7, e⟩ := of_bind e
  refine c_cvI hq (pc := 56) p106 k106_56 rfl p84 (r := []) rfl rfl rfl rfl rfl (t84 x0 hq r6 (28 : Int32) (52 : Int32) (4 : Int32) r7 er7) (w := []) rfl ?_
  refine r_aload_n (pc := 59) p106 k106_59 h0 ?_
  refine r_bipush (pc := 60) p106 k106_60 (v := (40 : Int32)) rfl ?_
  refine r_bipush (pc := 62) p106 k106_62 (v := (52 : Int32)) rfl ?_
  refine r_iconst (pc := 64) p106 k106_64 (v := (2 : Int32)) rfl ?_
  obtain ⟨r8, er8, e⟩ := of_bind e
  refine c_cvI hq (pc := 65) p106 k106_65 rfl p84 (r := []) rfl rfl rfl rfl rfl (t84 x0 hq r7 (40 : Int32) (52 : Int32) (2 : Int32) r8 er8) (w := []) rfl ?_
  refine r_aload_n (pc := 68) p106 k106_68 h0 ?_
  refine r_bipush (pc := 69) p106 k106_69 (v := (42 : Int32)) rfl ?_
  refine r_bipush (pc := 71) p106 k106_71 (v := (32 : Int32)) rfl ?_
  refine r_iconst (pc := 73) p106 k106_73 (v := (2 : Int32)) rfl ?_
  obtain ⟨r9, er9, e⟩ := of_bind e
  refine c_cvI hq (pc := 74) p106 k106_74 rfl p84 (r := []) rfl rfl rfl rfl rfl (t84 x0 hq r8 (42 : Int32) (32 : Int32) (2 : Int32) r9 er9) (w := []) rfl ?_
  refine r_aload_n (pc := 77) p106 k106_77 h0 ?_
  refine r_bipush (pc := 78) p106 k106_78 (v := (44 : Int32)) rfl ?_
  refine r_aload_n (pc := 80) p106 k106_80 h0 ?_
  refine c_getI hq (pc := 81) p106 k106_81 (v := .int (r9.1 x0 2)) rfl ?_
  refine r_if_le (pc := 84) p106 k106_84 (fun c => ?_) (fun c => ?_)
  · have e := (if_pos c).symm.trans e
    refine r_iconst (pc := 91) p106 k106_91 (v := (1 : Int32)) rfl ?_
    exact t106_92 x0 hq r9 l x2 (1 : Int32) (44 : Int32) h0 h2 r e
  · have e := (if_neg c).symm.trans e
    refine r_iconst (pc := 87) p106 k106_87 (v := (2 : Int32)) rfl ?_
    refine r_goto (pc := 88) p106 k106_88 ?_
    exact t106_92 x0 hq r9 l x2 (2 : Int32) (44 : Int32) h0 h2 r e

theorem p105 : ab_prog[105]? = some (ab_m105, ab_c105) := rfl
theorem k105_0 : ab_fetch ab_c105 0 = some (.aload_n 0, 1, 0, 0) := rfl
theorem k105_1 : ab_fetch ab_c105 1 = some (.getfield 18, 3, 0, 1) := rfl
theorem k105_4 : ab_fetch ab_c105 4 = some (.aload_n 0, 1, 0, 0) := rfl
theorem k105_5 : ab_fetch ab_c105 5 = some (.getfield 25, 3, 0, 3) := rfl
theorem k105_8 : ab_fetch ab_c105 8 = some (.aload_n 0, 1, 0, 0) := rfl
theorem k105_9 : ab_fetch ab_c105 9 = some (.getfield 39, 3, 0, 9) := rfl
theorem k105_12 : ab_fetch ab_c105 12 = some (.aload_n 0, 1, 0, 0) := rfl
theorem k105_13 : ab_fetch ab_c105 13 = some (.getfield 29, 3, 0, 4) := rfl
theorem k105_16 : ab_fetch ab_c105 16 = some (.getfield 47, 3, 1, 2) := rfl
theorem k105_19 : ab_fetch ab_c105 19 = some (.invokevirtual 65, 3, 73, 2) := rfl
theorem k105_22 : ab_fetch ab_c105 22 = some (.aload_n 0, 1, 0, 0) := rfl
theorem k105_23 : ab_fetch ab_c105 23 = some (.getfield 29, 3, 0, 4) := rfl
theorem k105_26 : ab_fetch ab_c105 26 = some (.getfield 47, 3, 1, 2) := rfl
theorem k105_29 : ab_fetch ab_c105 29 = some (.invokevirtual 69, 3, 106, 2) := rfl
theorem k105_32 : ab_fetch ab_c105 32 = some (.aload_n 0, 1, 0, 0) := rfl
theorem k105_33 : ab_fetch ab_c105 33 = some (.getfield 18, 3, 0, 1) := rfl
theorem k105_36 : ab_fetch ab_c105 36 = some (.aload_n 0, 1, 0, 0) := rfl
theorem k105_37 : ab_fetch ab_c105 37 = some (.getfield 25, 3, 0, 3) := rfl
theorem k105_40 : ab_fetch ab_c105 40 = some (.getfield 72, 3, 3, 0) := rfl
theorem k105_43 : ab_fetch ab_c105 43 = some (.putfield 75, 3, 2, 3) := rfl
theorem k105_46 : ab_fetch ab_c105 46 = some (.aload_n 0, 1, 0, 0) := rfl
theorem k105_47 : ab_fetch ab_c105 47 = some (.getfield 12, 3, 0, 0) := rfl
theorem k105_50 : ab_fetch ab_c105 50 = some (.astore_n 1, 1, 0, 0) := rfl
theorem k105_51 : ab_fetch ab_c105 51 = some (.aload_n 0, 1, 0, 0) := rfl
theorem k105_52 : ab_fetch ab_c105 52 = some (.aload_n 0, 1, 0, 0) := rfl
theorem k105_53 : ab_fetch ab_c105 53 = some (.getfield 18, 3, 0, 1) := rfl
theorem k105_56 : ab_fetch ab_c105 56 = some (.putfield 12, 3, 0, 0) := rfl
theorem k105_59 : ab_fetch ab_c105 59 = some (.aload_n 0, 1, 0, 0) := rfl
theorem k105_60 : ab_fetch ab_c105 60 = some (.aload_n 1, 1, 0, 0) := rfl
theorem k105_61 : ab_fetch ab_c105 61 = some (.putfield 18, 3, 0, 1) := rfl
theorem k105_64 : ab_fetch ab_c105 64 = some (.aload_n 0, 1, 0, 0) := rfl
theorem k105_65 : ab_fetch ab_c105 65 = some (.getfield 12, 3, 0, 0) := rfl
theorem k105_68 : ab_fetch ab_c105 68 = some (.getfield 78, 3, 2, 0) := rfl
theorem k105_71 : ab_fetch ab_c105 71 = some (.ireturn, 1, 0, 0) := rfl
/- CodeSmith$Assembler finish()I -/
def f105 (s : cS) : Option (Int32 × cS) := ((f73 s (s.1 16 9) (s.1 17 2)).bind fun r1 => if cQ (s.2.1 16 1) then ((f106 (s.2.1 16 1) s r1 (s.1 17 2)).bind fun r2 => if cQ (r2.2.1 16 1) then if cQ (r2.2.1 16 1) then some (((cr (cr (cg r2 (r2.2.1 16 1) 3 (r2.1 2 0)) 16 0 (r2.2.1 16 1)) 16 1 (r2.2.1 16 0)).1 (r2.2.1 16 1) 0), (cr (cr (cg r2 (r2.2.1 16 1) 3 (r2.1 2 0)) 16 0 (r2.2.1 16 1)) 16 1 (r2.2.1 16 0))) else none else none) else none)
theorem t105 {d : Nat} {Z : Nat → ab_C} (s : cS) (r : Int32 × cS) (e : f105 s = some r) : ab_Rn (d + 3) 105 0 (lv_args 0 [.ref 16]) [] (ch s Z) (.inl (some (.int r.1))) (ch r.2 Z) := by
  unfold f105 at e
  obtain ⟨l, hl⟩ : ∃ l, l = (lv_args 0 [.ref 16]) := ⟨_, rfl⟩
  rw [← hl]
  have h0 : ab_get l 0 = some (.ref 16) := by rw [hl]; rfl
  refine r_aload_n (pc := 0) p105 k105_0 h0 ?_
  refine c_get (i := 16) rfl (pc := 1) p105 k105_1 rfl rfl (v := .ref (s.2.1 16 1)) rfl ?_
  refine r_aload_n (pc := 4) p105 k105_4 h0 ?_
  refine c_get (i := 16) rfl (pc := 5) p105 k105_5 rfl rfl (v := .ref 2) rfl ?_
  refine r_aload_n (pc := 8) p105 k105_8 h0 ?_
  refine c_get (i := 16) rfl (pc := 9) p105 k105_9 rfl rfl (v := .int (s.1 16 9)) rfl ?_
  refine r_aload_n (pc := 12) p105 k105_12 h0 ?_
  refine c_get (i := 16) rfl (pc := 13) p105 k105_13 rfl rfl (v := .ref 17) rfl ?_
  refine c_get (i := 17) rfl (pc := 16) p105 k105_16 rfl rfl (v := .int (s.1 17 2)) rfl ?_
  obtain ⟨r1, er1, e⟩ := of_bind e
  refine c_cv (i := 2) rfl (pc := 19) p105 k105_19 rfl p73 (r := [.ref (s.2.1 16 1)]) rfl rfl rfl rfl rfl rfl (t73 s (s.1 16 9) (s.1 17 2) r1 er1) (w := [.int r1, .ref (s.2.1 16 1)]) rfl ?_
  refine r_aload_n (pc := 22) p105 k105_22 h0 ?_
  refine c_get (i := 16) rfl (pc := 23) p105 k105_23 rfl rfl (v := .ref 17) rfl ?_
  refine c_get (i := 17) rfl (pc := 26) p105 k105_26 rfl rfl (v := .int (s.1 17 2)) rfl ?_
  obtain ⟨c, e⟩ := of_if e
  obtain ⟨r2, er2, e⟩ := of_bind e
  refine c_cvI c (pc := 29) p105 k105_29 rfl p106 (r := []) rfl rfl rfl rfl rfl (t106 (s.2.1 16 1) c s r1 (s.1 17 2) r2 er2) (w := []) rfl ?_
  refine r_aload_n (pc := 32) p105 k105_32 h0 ?_
  refine c_get (i := 16) rfl (pc := 33) p105 k105_33 rfl rfl (v := .ref (r2.2.1 16 1)) rfl ?_
  refine r_aload_n (pc := 36) p105 k105_36 h0 ?_
  refine c_get (i := 16) rfl (pc := 37) p105 k105_37 rfl rfl (v := .ref 2) rfl ?_
  refine c_get (i := 2) rfl (pc := 40) p105 k105_40 rfl rfl (v := .int (r2.1 2 0)) rfl ?_
  obtain ⟨c, e⟩ := of_if e
  refine c_putI c (pc := 43) p105 k105_43 rfl ?_
  refine r_aload_n (pc := 46) p105 k105_46 h0 ?_
  refine c_get (i := 16) rfl (pc := 47) p105 k105_47 rfl rfl (v := .ref (r2.2.1 16 0)) rfl ?_
  refine r_astore_n (pc := 50) p105 k105_50 (by decide) (fun l g h1 => ?_)
  have h0 := g 0 _ (by decide) h0 (Or.inl rfl)
  refine r_aload_n (pc := 51) p105 k105_51 h0 ?_
  refine r_aload_n (pc := 52) p105 k105_52 h0 ?_
  refine c_get (i := 16) rfl (pc := 53) p105 k105_53 rfl rfl (v := .ref (r2.2.1 16 1)) rfl ?_
  refine c_putR (i := 16) rfl (pc := 56) p105 k105_56 rfl rfl rfl (cc_r16 _ Z 0 _) (cs16_0 _ _) rfl rfl ?_
  refine r_aload_n (pc := 59) p105 k105_59 h0 ?_
  refine r_aload_n (pc := 60) p105 k105_60 h1 ?_
  refine c_putR (i := 16) rfl (pc := 61) p105 k105_61 rfl rfl rfl (cc_r16 _ Z 1 _) (cs16_1 _ _) rfl rfl ?_
  refine r_aload_n (pc := 64) p105 k105_64 h0 ?_
  refine c_get (i := 16) rfl (pc := 65) p105 k105_65 rfl rfl (v := .ref (r2.2.1 16 1)) rfl ?_
  obtain ⟨c, e⟩ := of_if e
  refine c_getI c (pc := 68) p105 k105_68 (v := .int ((cr (cr (cg r2 (r2.2.1 16 1) 3 (r2.1 2 0)) 16 0 (r2.2.1 16 1)) 16 1 (r2.2.1 16 0)).1 (r2.2.1 16 1) 0)) rfl ?_
  obtain rfl := Option.some.inj e
  exact r_retI (pc := 71) p105 k105_71 rfl

theorem p15 : ab_prog[15]? = some (ab_m15, ab_c15) := rfl
theorem k15_0 : ab_fetch ab_c15 0 = some (.aload_n 0, 1, 0, 0) := rfl
theorem k15_1 : ab_fetch ab_c15 1 = some (.getfield 37, 3, 5, 1) := rfl
theorem k15_4 : ab_fetch ab_c15 4 = some (.istore_n 1, 1, 0, 0) := rfl
theorem k15_5 : ab_fetch ab_c15 5 = some (.aload_n 0, 1, 0, 0) := rfl
theorem k15_6 : ab_fetch ab_c15 6 = some (.iconst 0, 1, 0, 0) := rfl
theorem k15_7 : ab_fetch ab_c15 7 = some (.putfield 37, 3, 5, 1) := rfl
theorem k15_10 : ab_fetch ab_c15 10 = some (.aload_n 0, 1, 0, 0) := rfl
theorem k15_11 : ab_fetch ab_c15 11 = some (.getfield 19, 3, 5, 2) := rfl
theorem k15_14 : ab_fetch ab_c15 14 = some (.aload_n 0, 1, 0, 0) := rfl
theorem k15_15 : ab_fetch ab_c15 15 = some (.getfield 7, 3, 5, 0) := rfl
theorem k15_18 : ab_fetch ab_c15 18 = some (.iload_n 1, 1, 0, 0) := rfl
theorem k15_19 : ab_fetch ab_c15 19 = some (.invokevirtual 58, 3, 16, 2) := rfl
theorem k15_22 : ab_fetch ab_c15 22 = some (.aload_n 0, 1, 0, 0) := rfl
theorem k15_23 : ab_fetch ab_c15 23 = some (.getfield 33, 3, 5, 3) := rfl
theorem k15_26 : ab_fetch ab_c15 26 = some (.aload_n 0, 1, 0, 0) := rfl
theorem k15_27 : ab_fetch ab_c15 27 = some (.getfield 7, 3, 5, 0) := rfl
theorem k15_30 : ab_fetch ab_c15 30 = some (.invokevirtual 62, 3, 18, 1) := rfl
theorem k15_33 : ab_fetch ab_c15 33 = some (.iconst 0, 1, 0, 0) := rfl
theorem k15_34 : ab_fetch ab_c15 34 = some (.istore_n 2, 1, 0, 0) := rfl
theorem k15_35 : ab_fetch ab_c15 35 = some (.iload_n 2, 1, 0, 0) := rfl
theorem k15_36 : ab_fetch ab_c15 36 = some (.ldc 41, 2, 65536, 0) := rfl
theorem k15_38 : ab_fetch ab_c15 38 = some (.if_icmp .ge 26, 3, 64, 0) := rfl
theorem k15_41 : ab_fetch ab_c15 41 = some (.aload_n 0, 1, 0, 0) := rfl
theorem k15_42 : ab_fetch ab_c15 42 = some (.getfield 19, 3, 5, 2) := rfl
theorem k15_45 : ab_fetch ab_c15 45 = some (.invokevirtual 66, 3, 22, 0) := rfl
theorem k15_48 : ab_fetch ab_c15 48 = some (.ifCond .eq 16, 3, 64, 0) := rfl
theorem k15_51 : ab_fetch ab_c15 51 = some (.aload_n 0, 1, 0, 0) := rfl
theorem k15_52 : ab_fetch ab_c15 52 = some (.getfield 33, 3, 5, 3) := rfl
theorem k15_55 : ab_fetch ab_c15 55 = some (.invokevirtual 70, 3, 42, 0) := rfl
theorem k15_58 : ab_fetch ab_c15 58 = some (.iinc 2 1, 3, 0, 0) := rfl
theorem k15_61 : ab_fetch ab_c15 61 = some (.goto (-26), 3, 35, 0) := rfl
theorem k15_64 : ab_fetch ab_c15 64 = some (.aload_n 0, 1, 0, 0) := rfl
theorem k15_65 : ab_fetch ab_c15 65 = some (.getfield 19, 3, 5, 2) := rfl
theorem k15_68 : ab_fetch ab_c15 68 = some (.invokevirtual 73, 3, 17, 0) := rfl
theorem k15_71 : ab_fetch ab_c15 71 = some (.aload_n 0, 1, 0, 0) := rfl
theorem k15_72 : ab_fetch ab_c15 72 = some (.getfield 33, 3, 5, 3) := rfl
theorem k15_75 : ab_fetch ab_c15 75 = some (.invokevirtual 76, 3, 102, 0) := rfl
theorem k15_78 : ab_fetch ab_c15 78 = some (.iconst 0, 1, 0, 0) := rfl
theorem k15_79 : ab_fetch ab_c15 79 = some (.istore_n 2, 1, 0, 0) := rfl
theorem k15_80 : ab_fetch ab_c15 80 = some (.iload_n 2, 1, 0, 0) := rfl
theorem k15_81 : ab_fetch ab_c15 81 = some (.ldc 41, 2, 65536, 0) := rfl
theorem k15_83 : ab_fetch ab_c15 83 = some (.if_icmp .ge 26, 3, 109, 0) := rfl
theorem k15_86 : ab_fetch ab_c15 86 = some (.aload_n 0, 1, 0, 0) := rfl
theorem k15_87 : ab_fetch ab_c15 87 = some (.getfield 19, 3, 5, 2) := rfl
theorem k15_90 : ab_fetch ab_c15 90 = some (.invokevirtual 66, 3, 22, 0) := rfl
theorem k15_93 : ab_fetch ab_c15 93 = some (.ifCond .eq 16, 3, 109, 0) := rfl
theorem k15_96 : ab_fetch ab_c15 96 = some (.aload_n 0, 1, 0, 0) := rfl
theorem k15_97 : ab_fetch ab_c15 97 = some (.getfield 33, 3, 5, 3) := rfl
theorem k15_100 : ab_fetch ab_c15 100 = some (.invokevirtual 70, 3, 42, 0) := rfl
theorem k15_103 : ab_fetch ab_c15 103 = some (.iinc 2 1, 3, 0, 0) := rfl
theorem k15_106 : ab_fetch ab_c15 106 = some (.goto (-26), 3, 80, 0) := rfl
theorem k15_109 : ab_fetch ab_c15 109 = some (.aload_n 0, 1, 0, 0) := rfl
theorem k15_110 : ab_fetch ab_c15 110 = some (.getfield 33, 3, 5, 3) := rfl
theorem k15_113 : ab_fetch ab_c15 113 = some (.invokevirtual 79, 3, 105, 0) := rfl
theorem k15_116 : ab_fetch ab_c15 116 = some (.ireturn, 1, 0, 0) := rfl
/- CodeSmith assemble()I -/
def f15_109 (s : cS) : Option ((Int32 × cS) ⊕ cS) := ((f105 s).bind fun r1 => some (.inl (r1.1, r1.2)))
theorem t15_109 {d : Nat} {Z : Nat → ab_C} : ∀ (s : cS) (l : ab_L)  (h0 : ab_get l 0 = some (.ref 0)) (r : (Int32 × cS) ⊕ cS) (e : f15_109 s  = some r), ab_Rn (d + 458) 15 109 l [] (ch s Z) (oI r) (ch (zI r) Z) := by
  intro s l h0 r e
  unfold f15_109 at e
  refine r_aload_n (pc := 109) p15 k15_109 h0 ?_
  refine c_get (i := 0) rfl (pc := 110) p15 k15_110 rfl rfl (v := .ref 16) rfl ?_
  obtain ⟨r1, er1, e⟩ := of_bind e
  refine c_cv (i := 16) rfl (pc := 113) p15 k15_113 rfl p105 (r := []) rfl rfl rfl rfl rfl rfl (t105 s r1 er1) (w := [.int r1.1]) rfl ?_
  obtain rfl := Option.some.inj e
  exact r_retI (pc := 116) p15 k15_116 rfl
def f15_80 : Nat → cS → Int32 → Option ((Int32 × cS) ⊕ cS)
  | 0, _, _ => none
  | u + 1, s, x2 => (if (65536 : Int32) ≤ x2 then f15_109 s else ((f22 s).bind fun r1 => (if r1.1 = 0 then f15_109 r1.2 else (tb (f42 r1.2) fun r2 => f15_80 u r2 (x2 + (1 : Int32))))))
theorem t15_80 {d : Nat} {Z : Nat → ab_C} : ∀ u : Nat, ∀ (s : cS) (l : ab_L) (x2 : Int32) (h0 : ab_get l 0 = some (.ref 0)) (h2 : ab_get l 2 = some (.int x2)) (r : (Int32 × cS) ⊕ cS) (e : f15_80 u s x2 = some r), ab_Rn (d + 458) 15 80 l [] (ch s Z) (oI r) (ch (zI r) Z) := by
  intro u
  induction u with
  | zero => intro s l x2 h0 h2 r e; rw [f15_80] at e; cases e
  | succ u ih =>
    intro s l x2 h0 h2 r e
    rw [f15_80] at e
    refine r_iload_n (pc := 80) p15 k15_80 h2 ?_
    refine r_ldcI (pc := 81) p15 k15_81 (v := (65536 : Int32)) rfl ?_
    refine r_ic_ge (pc := 83) p15 k15_83 (fun c => ?_) (fun c => ?_)
    · have e := (if_pos c).symm.trans e
      exact t15_109 s l h0 r e
    · have e := (if_neg c).symm.trans e
      refine r_aload_n (pc := 86) p15 k15_86 h0 ?_
      refine c_get (i := 0) rfl (pc := 87) p15 k15_87 rfl rfl (v := .ref 11) rfl ?_
      obtain ⟨r1, er1, e⟩ := of_bind e
      refine c_cv (i := 11) rfl (pc := 90) p15 k15_90 rfl p22 (r := []) rfl rfl rfl rfl rfl rfl (t22 s r1 er1) (w := [.int r1.1]) rfl ?_
      refine r_if_eq (pc := 93) p15 k15_93 (fun c => ?_) (fun c => ?_)
      · have e := (if_pos c).symm.trans e
        exact t15_109 r1.2 l h0 r e
      · have e := (if_neg c).symm.trans e
        refine r_aload_n (pc := 96) p15 k15_96 h0 ?_
        refine c_get (i := 0) rfl (pc := 97) p15 k15_97 rfl rfl (v := .ref 16) rfl ?_
        rcases of_tb e with ⟨r2, er2, e⟩ | ⟨t, et, rfl⟩
        rotate_left
        · exact c_cvx (i := 16) rfl (pc := 100) p15 k15_100 rfl p42 (r := []) rfl rfl rfl rfl rfl rfl (t42 r1.2 _ et)
        refine c_cv (i := 16) rfl (pc := 100) p15 k15_100 rfl p42 (r := []) rfl rfl rfl rfl rfl rfl (t42 r1.2 _ er2) (w := []) rfl ?_
        refine r_iinc (pc := 103) p15 k15_103 h2 (by decide) (v := (x2 + (1 : Int32))) rfl (fun l g h2 => ?_)
        have h0 := g 0 _ (by decide) h0 (Or.inl rfl)
        refine r_goto (pc := 106) p15 k15_106 ?_
        exact ih r2 l (x2 + (1 : Int32)) h0 h2 r e
def f15_64 (s : cS) : Option ((Int32 × cS) ⊕ cS) := ((f102 (f17 s)).bind fun r1 => f15_80 mm_U r1 (0 : Int32))
theorem t15_64 {d : Nat} {Z : Nat → ab_C} : ∀ (s : cS) (l : ab_L)  (h0 : ab_get l 0 = some (.ref 0)) (r : (Int32 × cS) ⊕ cS) (e : f15_64 s  = some r), ab_Rn (d + 458) 15 64 l [] (ch s Z) (oI r) (ch (zI r) Z) := by
  intro s l h0 r e
  unfold f15_64 at e
  refine r_aload_n (pc := 64) p15 k15_64 h0 ?_
  refine c_get (i := 0) rfl (pc := 65) p15 k15_65 rfl rfl (v := .ref 11) rfl ?_
  refine c_cv (i := 11) rfl (pc := 68) p15 k15_68 rfl p17 (r := []) rfl rfl rfl rfl rfl rfl (t17 s _ rfl) (w := []) rfl ?_
  refine r_aload_n (pc := 71) p15 k15_71 h0 ?_
  refine c_get (i := 0) rfl (pc := 72) p15 k15_72 rfl rfl (v := .ref 16) rfl ?_
  obtain ⟨r1, er1, e⟩ := of_bind e
  refine c_cv (i := 16) rfl (pc := 75) p15 k15_75 rfl p102 (r := []) rfl rfl rfl rfl rfl rfl (t102 (f17 s) r1 er1) (w := []) rfl ?_
  refine r_iconst (pc := 78) p15 k15_78 (v := (0 : Int32)) rfl ?_
  refine r_istore_n (pc := 79) p15 k15_79 (by decide) (fun l g h2 => ?_)
  have h0 := g 0 _ (by decide) h0 (Or.inl rfl)
  exact t15_80 mm_U r1 l (0 : Int32) h0 h2 r e
def f15_35 : Nat → cS → Int32 → Option ((Int32 × cS) ⊕ cS)
  | 0, _, _ => none
  | u + 1, s, x2 => (if (65536 : Int32) ≤ x2 then f15_64 s else ((f22 s).bind fun r1 => (if r1.1 = 0 then f15_64 r1.2 else (tb (f42 r1.2) fun r2 => f15_35 u r2 (x2 + (1 : Int32))))))
theorem t15_35 {d : Nat} {Z : Nat → ab_C} : ∀ u : Nat, ∀ (s : cS) (l : ab_L) (x2 : Int32) (h0 : ab_get l 0 = some (.ref 0)) (h2 : ab_get l 2 = some (.int x2)) (r : (Int32 × cS) ⊕ cS) (e : f15_35 u s x2 = some r), ab_Rn (d + 458) 15 35 l [] (ch s Z) (oI r) (ch (zI r) Z) := by
  intro u
  induction u with
  | zero => intro s l x2 h0 h2 r e; rw [f15_35] at e; cases e
  | succ u ih =>
    intro s l x2 h0 h2 r e
    rw [f15_35] at e
    refine r_iload_n (pc := 35) p15 k15_35 h2 ?_
    refine r_ldcI (pc := 36) p15 k15_36 (v := (65536 : Int32)) rfl ?_
    refine r_ic_ge (pc := 38) p15 k15_38 (fun c => ?_) (fun c => ?_)
    · have e := (if_pos c).symm.trans e
      exact t15_64 s l h0 r e
    · have e := (if_neg c).symm.trans e
      refine r_aload_n (pc := 41) p15 k15_41 h0 ?_
      refine c_get (i := 0) rfl (pc := 42) p15 k15_42 rfl rfl (v := .ref 11) rfl ?_
      obtain ⟨r1, er1, e⟩ := of_bind e
      refine c_cv (i := 11) rfl (pc := 45) p15 k15_45 rfl p22 (r := []) rfl rfl rfl rfl rfl rfl (t22 s r1 er1) (w := [.int r1.1]) rfl ?_
      refine r_if_eq (pc := 48) p15 k15_48 (fun c => ?_) (fun c => ?_)
      · have e := (if_pos c).symm.trans e
        exact t15_64 r1.2 l h0 r e
      · have e := (if_neg c).symm.trans e
        refine r_aload_n (pc := 51) p15 k15_51 h0 ?_
        refine c_get (i := 0) rfl (pc := 52) p15 k15_52 rfl rfl (v := .ref 16) rfl ?_
        rcases of_tb e with ⟨r2, er2, e⟩ | ⟨t, et, rfl⟩
        rotate_left
        · exact c_cvx (i := 16) rfl (pc := 55) p15 k15_55 rfl p42 (r := []) rfl rfl rfl rfl rfl rfl (t42 r1.2 _ et)
        refine c_cv (i := 16) rfl (pc := 55) p15 k15_55 rfl p42 (r := []) rfl rfl rfl rfl rfl rfl (t42 r1.2 _ er2) (w := []) rfl ?_
        refine r_iinc (pc := 58) p15 k15_58 h2 (by decide) (v := (x2 + (1 : Int32))) rfl (fun l g h2 => ?_)
        have h0 := g 0 _ (by decide) h0 (Or.inl rfl)
        refine r_goto (pc := 61) p15 k15_61 ?_
        exact ih r2 l (x2 + (1 : Int32)) h0 h2 r e
def f15 (s : cS) : Option ((Int32 × cS) ⊕ cS) := ((f16 (cg s 0 1 (0 : Int32)) (s.2.1 0 0) (s.1 0 1)).bind fun r1 => ((f18 r1 (r1.2.1 0 0)).bind fun r2 => f15_35 mm_U r2 (0 : Int32)))
theorem t15 {d : Nat} {Z : Nat → ab_C} (s : cS) (r : (Int32 × cS) ⊕ cS) (e : f15 s = some r) : ab_Rn (d + 458) 15 0 (lv_args 0 [.ref 0]) [] (ch s Z) (oI r) (ch (zI r) Z) := by
  unfold f15 at e
  obtain ⟨l, hl⟩ : ∃ l, l = (lv_args 0 [.ref 0]) := ⟨_, rfl⟩
  rw [← hl]
  have h0 : ab_get l 0 = some (.ref 0) := by rw [hl]; rfl
  refine r_aload_n (pc := 0) p15 k15_0 h0 ?_
  refine c_get (i := 0) rfl (pc := 1) p15 k15_1 rfl rfl (v := .int (s.1 0 1)) rfl ?_
  refine r_istore_n (pc := 4) p15 k15_4 (by decide) (fun l g h1 => ?_)
  have h0 := g 0 _ (by decide) h0 (Or.inl rfl)
  refine r_aload_n (pc := 5) p15 k15_5 h0 ?_
  refine r_iconst (pc := 6) p15 k15_6 (v := (0 : Int32)) rfl ?_
  refine c_put (i := 0) rfl (pc := 7) p15 k15_7 rfl rfl rfl (cc_g0 _ Z 1 _) (cs0_1 _ _) rfl rfl ?_
  refine r_aload_n (pc := 10) p15 k15_10 h0 ?_
  refine c_get (i := 0) rfl (pc := 11) p15 k15_11 rfl rfl (v := .ref 11) rfl ?_
  refine r_aload_n (pc := 14) p15 k15_14 h0 ?_
  refine c_get (i := 0) rfl (pc := 15) p15 k15_15 rfl rfl (v := .ref (s.2.1 0 0)) rfl ?_
  refine r_iload_n (pc := 18) p15 k15_18 h1 ?_
  obtain ⟨r1, er1, e⟩ := of_bind e
  refine c_cv (i := 11) rfl (pc := 19) p15 k15_19 rfl p16 (r := []) rfl rfl rfl rfl rfl rfl (t16 (cg s 0 1 (0 : Int32)) (s.2.1 0 0) (s.1 0 1) r1 er1) (w := []) rfl ?_
  refine r_aload_n (pc := 22) p15 k15_22 h0 ?_
  refine c_get (i := 0) rfl (pc := 23) p15 k15_23 rfl rfl (v := .ref 16) rfl ?_
  refine r_aload_n (pc := 26) p15 k15_26 h0 ?_
  refine c_get (i := 0) rfl (pc := 27) p15 k15_27 rfl rfl (v := .ref (r1.2.1 0 0)) rfl ?_
  obtain ⟨r2, er2, e⟩ := of_bind e
  refine c_cv (i := 16) rfl (pc := 30) p15 k15_30 rfl p18 (r := []) rfl rfl rfl rfl rfl rfl (t18 r1 (r1.2.1 0 0) r2 er2) (w := []) rfl ?_
  refine r_iconst (pc := 33) p15 k15_33 (v := (0 : Int32)) rfl ?_
  refine r_istore_n (pc := 34) p15 k15_34 (by decide) (fun l g h2 => ?_)
  have h0 := g 0 _ (by decide) h0 (Or.inl rfl)
  exact t15_35 mm_U r2 l (0 : Int32) h0 h2 r e
