theorem p100 : ab_prog[100]? = some (ab_m100, ab_c100) := rfl
theorem k100_0 : ab_fetch ab_c100 0 = some (.aload_n 1, 1, 0, 0) := rfl
theorem k100_1 : ab_fetch ab_c100 1 = some (.getfield 109, 3, 100, 4) := rfl
theorem k100_4 : ab_fetch ab_c100 4 = some (.tableswitch 124 0 15 #[80, 80, 82, 82, 87, 92, 80, 124, 124, 124, 124, 124, 124, 124, 107, 110], 80, 0, 0) := rfl
theorem k100_84 : ab_fetch ab_c100 84 = some (.iconst 0, 1, 0, 0) := rfl
theorem k100_85 : ab_fetch ab_c100 85 = some (.ireturn, 1, 0, 0) := rfl
theorem k100_86 : ab_fetch ab_c100 86 = some (.aload_n 0, 1, 0, 0) := rfl
theorem k100_87 : ab_fetch ab_c100 87 = some (.getfield 197, 3, 0, 15) := rfl
theorem k100_90 : ab_fetch ab_c100 90 = some (.ireturn, 1, 0, 0) := rfl
theorem k100_91 : ab_fetch ab_c100 91 = some (.aload_n 0, 1, 0, 0) := rfl
theorem k100_92 : ab_fetch ab_c100 92 = some (.getfield 196, 3, 0, 14) := rfl
theorem k100_95 : ab_fetch ab_c100 95 = some (.ireturn, 1, 0, 0) := rfl
theorem k100_96 : ab_fetch ab_c100 96 = some (.aload_n 0, 1, 0, 0) := rfl
theorem k100_97 : ab_fetch ab_c100 97 = some (.invokevirtual 163, 3, 61, 0) := rfl
theorem k100_100 : ab_fetch ab_c100 100 = some (.ineg, 1, 0, 0) := rfl
theorem k100_101 : ab_fetch ab_c100 101 = some (.iconst 1, 1, 0, 0) := rfl
theorem k100_102 : ab_fetch ab_c100 102 = some (.aload_n 0, 1, 0, 0) := rfl
theorem k100_103 : ab_fetch ab_c100 103 = some (.getfield 196, 3, 0, 14) := rfl
theorem k100_106 : ab_fetch ab_c100 106 = some (.ishl, 1, 0, 0) := rfl
theorem k100_107 : ab_fetch ab_c100 107 = some (.iconst 1, 1, 0, 0) := rfl
theorem k100_108 : ab_fetch ab_c100 108 = some (.isub, 1, 0, 0) := rfl
theorem k100_109 : ab_fetch ab_c100 109 = some (.iand, 1, 0, 0) := rfl
theorem k100_110 : ab_fetch ab_c100 110 = some (.ireturn, 1, 0, 0) := rfl
theorem k100_111 : ab_fetch ab_c100 111 = some (.bipush 8, 2, 0, 0) := rfl
theorem k100_113 : ab_fetch ab_c100 113 = some (.ireturn, 1, 0, 0) := rfl
theorem k100_114 : ab_fetch ab_c100 114 = some (.aload_n 0, 1, 0, 0) := rfl
theorem k100_115 : ab_fetch ab_c100 115 = some (.invokevirtual 258, 3, 98, 0) := rfl
theorem k100_118 : ab_fetch ab_c100 118 = some (.ifCond .eq 7, 3, 125, 0) := rfl
theorem k100_121 : ab_fetch ab_c100 121 = some (.iconst 4, 1, 0, 0) := rfl
theorem k100_122 : ab_fetch ab_c100 122 = some (.goto 5, 3, 127, 0) := rfl
theorem k100_125 : ab_fetch ab_c100 125 = some (.bipush 8, 2, 0, 0) := rfl
theorem k100_127 : ab_fetch ab_c100 127 = some (.ireturn, 1, 0, 0) := rfl
theorem k100_128 : ab_fetch ab_c100 128 = some (.iconst 4, 1, 0, 0) := rfl
theorem k100_129 : ab_fetch ab_c100 129 = some (.ireturn, 1, 0, 0) := rfl
/- CodeSmith$Assembler bytesOf(LCodeSmith$Statement;)I -/
def f100 (s : cS) (x1 : Nat) : Option Int32 := if cE x1 then (if (en x1).2.2.1 = 0 then some (0 : Int32) else if (en x1).2.2.1 = 1 then some (0 : Int32) else if (en x1).2.2.1 = 2 then some (s.1 16 15) else if (en x1).2.2.1 = 3 then some (s.1 16 15) else if (en x1).2.2.1 = 4 then some (s.1 16 14) else if (en x1).2.2.1 = 5 then some ((-(f61 s)) &&& (((1 : Int32) <<< ((s.1 16 14) &&& 31)) - (1 : Int32))) else if (en x1).2.2.1 = 6 then some (0 : Int32) else if (en x1).2.2.1 = 14 then some (8 : Int32) else if (en x1).2.2.1 = 15 then (if (f98 s) = 0 then some (8 : Int32) else some (4 : Int32)) else some (4 : Int32)) else none
theorem t100 {d : Nat} {Z : Nat → ab_C} (s : cS) (x1 : Nat) (r : Int32) (e : f100 s x1 = some r) : ab_Rn (d + 1) 100 0 (lv_args 0 [.ref 16, .retAddr x1]) [] (ch s Z) (.inl (some (.int r))) (ch s Z) := by
  unfold f100 at e
  obtain ⟨l, hl⟩ : ∃ l, l = (lv_args 0 [.ref 16, .retAddr x1]) := ⟨_, rfl⟩
  rw [← hl]
  have h0 : ab_get l 0 = some (.ref 16) := by rw [hl]; rfl
  have h1 : ab_get l 1 = some (.retAddr x1) := by rw [hl]; rfl
  refine r_aloadS_n (pc := 0) p100 k100_0 h1 ?_
  obtain ⟨c, e⟩ := of_if e
  refine r_sget (pc := 1) p100 k100_1 (en_form c) ?_
  by_cases c0 : (en x1).2.2.1 = 0
  · have e := (if_pos c0).symm.trans e
    refine r_sw (t := 84) (st' := []) (pc := 4) p100 k100_4 rfl rfl rfl (by rw [c0]; rfl) ?_
    refine r_iconst (pc := 84) p100 k100_84 (v := (0 : Int32)) rfl ?_
    obtain rfl := Option.some.inj e
    exact r_retI (pc := 85) p100 k100_85 rfl
  have e := (if_neg c0).symm.trans e
  by_cases c1 : (en x1).2.2.1 = 1
  · have e := (if_pos c1).symm.trans e
    refine r_sw (t := 84) (st' := []) (pc := 4) p100 k100_4 rfl rfl rfl (by rw [c1]; rfl) ?_
    refine r_iconst (pc := 84) p100 k100_84 (v := (0 : Int32)) rfl ?_
    obtain rfl := Option.some.inj e
    exact r_retI (pc := 85) p100 k100_85 rfl
  have e := (if_neg c1).symm.trans e
  by_cases c2 : (en x1).2.2.1 = 2
  · have e := (if_pos c2).symm.trans e
    refine r_sw (t := 86) (st' := []) (pc := 4) p100 k100_4 rfl rfl rfl (by rw [c2]; rfl) ?_
    refine r_aload_n (pc := 86) p100 k100_86 h0 ?_
    refine c_get (i := 16) rfl (pc := 87) p100 k100_87 rfl rfl (v := .int (s.1 16 15)) rfl ?_
    obtain rfl := Option.some.inj e
    exact r_retI (pc := 90) p100 k100_90 rfl
  have e := (if_neg c2).symm.trans e
  by_cases c3 : (en x1).2.2.1 = 3
  · have e := (if_pos c3).symm.trans e
    refine r_sw (t := 86) (st' := []) (pc := 4) p100 k100_4 rfl rfl rfl (by rw [c3]; rfl) ?_
    refine r_aload_n (pc := 86) p100 k100_86 h0 ?_
    refine c_get (i := 16) rfl (pc := 87) p100 k100_87 rfl rfl (v := .int (s.1 16 15)) rfl ?_
    obtain rfl := Option.some.inj e
    exact r_retI (pc := 90) p100 k100_90 rfl
  have e := (if_neg c3).symm.trans e
  by_cases c4 : (en x1).2.2.1 = 4
  · have e := (if_pos c4).symm.trans e
    refine r_sw (t := 91) (st' := []) (pc := 4) p100 k100_4 rfl rfl rfl (by rw [c4]; rfl) ?_
    refine r_aload_n (pc := 91) p100 k100_91 h0 ?_
    refine c_get (i := 16) rfl (pc := 92) p100 k100_92 rfl rfl (v := .int (s.1 16 14)) rfl ?_
    obtain rfl := Option.some.inj e
    exact r_retI (pc := 95) p100 k100_95 rfl
  have e := (if_neg c4).symm.trans e
  by_cases c5 : (en x1).2.2.1 = 5
  · have e := (if_pos c5).symm.trans e
    refine r_sw (t := 96) (st' := []) (pc := 4) p100 k100_4 rfl rfl rfl (by rw [c5]; rfl) ?_
    refine r_aload_n (pc := 96) p100 k100_96 h0 ?_
    refine c_cv (i := 16) rfl (pc := 97) p100 k100_97 rfl p61 (r := []) rfl rfl rfl rfl rfl rfl (t61 s _ rfl) (w := [.int (f61 s)]) rfl ?_
    refine r_ineg (pc := 100) p100 k100_100 ?_
    refine r_iconst (pc := 101) p100 k100_101 (v := (1 : Int32)) rfl ?_
    refine r_aload_n (pc := 102) p100 k100_102 h0 ?_
    refine c_get (i := 16) rfl (pc := 103) p100 k100_103 rfl rfl (v := .int (s.1 16 14)) rfl ?_
    refine r_ishl (pc := 106) p100 k100_106 ?_
    refine r_iconst (pc := 107) p100 k100_107 (v := (1 : Int32)) rfl ?_
    refine r_isub (pc := 108) p100 k100_108 ?_
    refine r_iand (pc := 109) p100 k100_109 ?_
    obtain rfl := Option.some.inj e
    exact r_retI (pc := 110) p100 k100_110 rfl
  have e := (if_neg c5).symm.trans e
  by_cases c6 : (en x1).2.2.1 = 6
  · have e := (if_pos c6).symm.trans e
    refine r_sw (t := 84) (st' := []) (pc := 4) p100 k100_4 rfl rfl rfl (by rw [c6]; rfl) ?_
    refine r_iconst (pc := 84) p100 k100_84 (v := (0 : Int32)) rfl ?_
    obtain rfl := Option.some.inj e
    exact r_retI (pc := 85) p100 k100_85 rfl
  have e := (if_neg c6).symm.trans e
  by_cases c7 : (en x1).2.2.1 = 14
  · have e := (if_pos c7).symm.trans e
    refine r_sw (t := 111) (st' := []) (pc := 4) p100 k100_4 rfl rfl rfl (by rw [c7]; rfl) ?_
    refine r_bipush (pc := 111) p100 k100_111 (v := (8 : Int32)) rfl ?_
    obtain rfl := Option.some.inj e
    exact r_retI (pc := 113) p100 k100_113 rfl
  have e := (if_neg c7).symm.trans e
  by_cases c8 : (en x1).2.2.1 = 15
  · have e := (if_pos c8).symm.trans e
    refine r_sw (t := 114) (st' := []) (pc := 4) p100 k100_4 rfl rfl rfl (by rw [c8]; rfl) ?_
    refine r_aload_n (pc := 114) p100 k100_114 h0 ?_
    refine c_cv (i := 16) rfl (pc := 115) p100 k100_115 rfl p98 (r := []) rfl rfl rfl rfl rfl rfl (t98 s _ rfl) (w := [.int (f98 s)]) rfl ?_
    refine r_if_eq (pc := 118) p100 k100_118 (fun c => ?_) (fun c => ?_)
    · have e := (if_pos c).symm.trans e
      refine r_bipush (pc := 125) p100 k100_125 (v := (8 : Int32)) rfl ?_
      obtain rfl := Option.some.inj e
      exact r_retI (pc := 127) p100 k100_127 rfl
    · have e := (if_neg c).symm.trans e
      refine r_iconst (pc := 121) p100 k100_121 (v := (4 : Int32)) rfl ?_
      refine r_goto (pc := 122) p100 k100_122 ?_
      obtain rfl := Option.some.inj e
      exact r_retI (pc := 127) p100 k100_127 rfl
  have e := (if_neg c8).symm.trans e
  refine r_tswd (T := 128) (pc := 4) p100 k100_4 (by decide) (by decide) (by decide) (by
      intro k hk hx
      have hk : k < 16 := hk
      have hk : k = 0 ∨ k = 1 ∨ k = 2 ∨ k = 3 ∨ k = 4 ∨ k = 5 ∨ k = 6 ∨ k = 7 ∨ k = 8 ∨ k = 9 ∨ k = 10 ∨ k = 11 ∨ k = 12 ∨ k = 13 ∨ k = 14 ∨ k = 15 := by omega
      rcases hk with rfl | rfl | rfl | rfl | rfl | rfl | rfl | rfl | rfl | rfl | rfl | rfl | rfl | rfl | rfl | rfl
      · exact absurd (Int32.toInt_inj.mp (hx.trans rfl)) c0
      · exact absurd (Int32.toInt_inj.mp (hx.trans rfl)) c1
      · exact absurd (Int32.toInt_inj.mp (hx.trans rfl)) c2
      · exact absurd (Int32.toInt_inj.mp (hx.trans rfl)) c3
      · exact absurd (Int32.toInt_inj.mp (hx.trans rfl)) c4
      · exact absurd (Int32.toInt_inj.mp (hx.trans rfl)) c5
      · exact absurd (Int32.toInt_inj.mp (hx.trans rfl)) c6
      · exact rfl
      · exact rfl
      · exact rfl
      · exact rfl
      · exact rfl
      · exact rfl
      · exact rfl
      · exact absurd (Int32.toInt_inj.mp (hx.trans rfl)) c7
      · exact absurd (Int32.toInt_inj.mp (hx.trans rfl)) c8) ?_
  refine r_iconst (pc := 128) p100 k100_128 (v := (4 : Int32)) rfl ?_
  obtain rfl := Option.some.inj e
  exact r_retI (pc := 129) p100 k100_129 rfl

theorem p99 : ab_prog[99]? = some (ab_m99, ab_c99) := rfl
theorem k99_0 : ab_fetch ab_c99 0 = some (.aload_n 1, 1, 0, 0) := rfl
theorem k99_1 : ab_fetch ab_c99 1 = some (.getfield 109, 3, 100, 4) := rfl
theorem k99_4 : ab_fetch ab_c99 4 = some (.bipush 7, 2, 0, 0) := rfl
theorem k99_6 : ab_fetch ab_c99 6 = some (.if_icmp .lt 25, 3, 31, 0) := rfl
theorem k99_9 : ab_fetch ab_c99 9 = some (.aload_n 0, 1, 0, 0) := rfl
theorem k99_10 : ab_fetch ab_c99 10 = some (.invokevirtual 163, 3, 61, 0) := rfl
theorem k99_13 : ab_fetch ab_c99 13 = some (.iconst 3, 1, 0, 0) := rfl
theorem k99_14 : ab_fetch ab_c99 14 = some (.iand, 1, 0, 0) := rfl
theorem k99_15 : ab_fetch ab_c99 15 = some (.ifCond .eq 16, 3, 31, 0) := rfl
theorem k99_18 : ab_fetch ab_c99 18 = some (.aload_n 0, 1, 0, 0) := rfl
theorem k99_19 : ab_fetch ab_c99 19 = some (.getfield 21, 3, 0, 2) := rfl
theorem k99_22 : ab_fetch ab_c99 22 = some (.aload_n 0, 1, 0, 0) := rfl
theorem k99_23 : ab_fetch ab_c99 23 = some (.getfield 92, 3, 0, 10) := rfl
theorem k99_26 : ab_fetch ab_c99 26 = some (.bipush 7, 2, 0, 0) := rfl
theorem k99_28 : ab_fetch ab_c99 28 = some (.invokevirtual 106, 3, 46, 2) := rfl
theorem k99_31 : ab_fetch ab_c99 31 = some (.aload_n 1, 1, 0, 0) := rfl
theorem k99_32 : ab_fetch ab_c99 32 = some (.getfield 109, 3, 100, 4) := rfl
theorem k99_35 : ab_fetch ab_c99 35 = some (.iconst 4, 1, 0, 0) := rfl
theorem k99_36 : ab_fetch ab_c99 36 = some (.if_icmp .ne 32, 3, 68, 0) := rfl
theorem k99_39 : ab_fetch ab_c99 39 = some (.aload_n 0, 1, 0, 0) := rfl
theorem k99_40 : ab_fetch ab_c99 40 = some (.getfield 196, 3, 0, 14) := rfl
theorem k99_43 : ab_fetch ab_c99 43 = some (.ifCond .lt 12, 3, 55, 0) := rfl
theorem k99_46 : ab_fetch ab_c99 46 = some (.aload_n 0, 1, 0, 0) := rfl
theorem k99_47 : ab_fetch ab_c99 47 = some (.getfield 196, 3, 0, 14) := rfl
theorem k99_50 : ab_fetch ab_c99 50 = some (.ldc 253, 2, 65420, 0) := rfl
theorem k99_52 : ab_fetch ab_c99 52 = some (.if_icmp .le 16, 3, 68, 0) := rfl
theorem k99_55 : ab_fetch ab_c99 55 = some (.aload_n 0, 1, 0, 0) := rfl
theorem k99_56 : ab_fetch ab_c99 56 = some (.getfield 21, 3, 0, 2) := rfl
theorem k99_59 : ab_fetch ab_c99 59 = some (.aload_n 0, 1, 0, 0) := rfl
theorem k99_60 : ab_fetch ab_c99 60 = some (.getfield 92, 3, 0, 10) := rfl
theorem k99_63 : ab_fetch ab_c99 63 = some (.bipush 6, 2, 0, 0) := rfl
theorem k99_65 : ab_fetch ab_c99 65 = some (.invokevirtual 106, 3, 46, 2) := rfl
theorem k99_68 : ab_fetch ab_c99 68 = some (.aload_n 1, 1, 0, 0) := rfl
theorem k99_69 : ab_fetch ab_c99 69 = some (.getfield 109, 3, 100, 4) := rfl
theorem k99_72 : ab_fetch ab_c99 72 = some (.iconst 5, 1, 0, 0) := rfl
theorem k99_73 : ab_fetch ab_c99 73 = some (.if_icmp .ne 32, 3, 105, 0) := rfl
theorem k99_76 : ab_fetch ab_c99 76 = some (.aload_n 0, 1, 0, 0) := rfl
theorem k99_77 : ab_fetch ab_c99 77 = some (.getfield 196, 3, 0, 14) := rfl
theorem k99_80 : ab_fetch ab_c99 80 = some (.ifCond .lt 12, 3, 92, 0) := rfl
theorem k99_83 : ab_fetch ab_c99 83 = some (.aload_n 0, 1, 0, 0) := rfl
theorem k99_84 : ab_fetch ab_c99 84 = some (.getfield 196, 3, 0, 14) := rfl
theorem k99_87 : ab_fetch ab_c99 87 = some (.bipush 12, 2, 0, 0) := rfl
theorem k99_89 : ab_fetch ab_c99 89 = some (.if_icmp .le 16, 3, 105, 0) := rfl
theorem k99_92 : ab_fetch ab_c99 92 = some (.aload_n 0, 1, 0, 0) := rfl
theorem k99_93 : ab_fetch ab_c99 93 = some (.getfield 21, 3, 0, 2) := rfl
theorem k99_96 : ab_fetch ab_c99 96 = some (.aload_n 0, 1, 0, 0) := rfl
theorem k99_97 : ab_fetch ab_c99 97 = some (.getfield 92, 3, 0, 10) := rfl
theorem k99_100 : ab_fetch ab_c99 100 = some (.bipush 6, 2, 0, 0) := rfl
theorem k99_102 : ab_fetch ab_c99 102 = some (.invokevirtual 106, 3, 46, 2) := rfl
theorem k99_105 : ab_fetch ab_c99 105 = some (.aload_n 0, 1, 0, 0) := rfl
theorem k99_106 : ab_fetch ab_c99 106 = some (.getfield 55, 3, 0, 7) := rfl
theorem k99_109 : ab_fetch ab_c99 109 = some (.aload_n 0, 1, 0, 0) := rfl
theorem k99_110 : ab_fetch ab_c99 110 = some (.getfield 58, 3, 0, 8) := rfl
theorem k99_113 : ab_fetch ab_c99 113 = some (.iadd, 1, 0, 0) := rfl
theorem k99_114 : ab_fetch ab_c99 114 = some (.aload_n 0, 1, 0, 0) := rfl
theorem k99_115 : ab_fetch ab_c99 115 = some (.aload_n 1, 1, 0, 0) := rfl
theorem k99_116 : ab_fetch ab_c99 116 = some (.invokevirtual 254, 3, 100, 1) := rfl
theorem k99_119 : ab_fetch ab_c99 119 = some (.iadd, 1, 0, 0) := rfl
theorem k99_120 : ab_fetch ab_c99 120 = some (.ldc 253, 2, 65420, 0) := rfl
theorem k99_122 : ab_fetch ab_c99 122 = some (.if_icmp .le 16, 3, 138, 0) := rfl
theorem k99_125 : ab_fetch ab_c99 125 = some (.aload_n 0, 1, 0, 0) := rfl
theorem k99_126 : ab_fetch ab_c99 126 = some (.getfield 21, 3, 0, 2) := rfl
theorem k99_129 : ab_fetch ab_c99 129 = some (.aload_n 0, 1, 0, 0) := rfl
theorem k99_130 : ab_fetch ab_c99 130 = some (.getfield 92, 3, 0, 10) := rfl
theorem k99_133 : ab_fetch ab_c99 133 = some (.bipush 6, 2, 0, 0) := rfl
theorem k99_135 : ab_fetch ab_c99 135 = some (.invokevirtual 106, 3, 46, 2) := rfl
theorem k99_138 : ab_fetch ab_c99 138 = some (.return_, 1, 0, 0) := rfl
/- CodeSmith$Assembler check(LCodeSmith$Statement;)V -/
def f99_105 (s : cS) (x1 : Nat) : Option (cS ⊕ cS) := ((f100 s x1).bind fun r1 => (if (((s.1 16 7) + (s.1 16 8)) + r1) ≤ (65420 : Int32) then some (.inl s) else some (.inr (f46 s (s.1 16 10) (6 : Int32)))))
theorem t99_105 {d : Nat} {Z : Nat → ab_C} : ∀ (s : cS) (l : ab_L) (x1 : Nat) (h0 : ab_get l 0 = some (.ref 16)) (h1 : ab_get l 1 = some (.retAddr x1)) (r : cS ⊕ cS) (e : f99_105 s x1 = some r), ab_Rn (d + 2) 99 105 l [] (ch s Z) (oV r) (ch (zV r) Z) := by
  intro s l x1 h0 h1 r e
  unfold f99_105 at e
  refine r_aload_n (pc := 105) p99 k99_105 h0 ?_
  refine c_get (i := 16) rfl (pc := 106) p99 k99_106 rfl rfl (v := .int (s.1 16 7)) rfl ?_
  refine r_aload_n (pc := 109) p99 k99_109 h0 ?_
  refine c_get (i := 16) rfl (pc := 110) p99 k99_110 rfl rfl (v := .int (s.1 16 8)) rfl ?_
  refine r_iadd (pc := 113) p99 k99_113 ?_
  refine r_aload_n (pc := 114) p99 k99_114 h0 ?_
  refine r_aloadS_n (pc := 115) p99 k99_115 h1 ?_
  obtain ⟨r1, er1, e⟩ := of_bind e
  refine c_cv (i := 16) rfl (pc := 116) p99 k99_116 rfl p100 (r := [.int ((s.1 16 7) + (s.1 16 8))]) rfl rfl rfl rfl rfl rfl (t100 s x1 r1 er1) (w := [.int r1, .int ((s.1 16 7) + (s.1 16 8))]) rfl ?_
  refine r_iadd (pc := 119) p99 k99_119 ?_
  refine r_ldcI (pc := 120) p99 k99_120 (v := (65420 : Int32)) rfl ?_
  refine r_ic_le (pc := 122) p99 k99_122 (fun c => ?_) (fun c => ?_)
  · have e := (if_pos c).symm.trans e
    obtain rfl := Option.some.inj e
    exact r_retV (pc := 138) p99 k99_138 rfl
  · have e := (if_neg c).symm.trans e
    refine r_aload_n (pc := 125) p99 k99_125 h0 ?_
    refine c_get (i := 16) rfl (pc := 126) p99 k99_126 rfl rfl (v := .ref 11) rfl ?_
    refine r_aload_n (pc := 129) p99 k99_129 h0 ?_
    refine c_get (i := 16) rfl (pc := 130) p99 k99_130 rfl rfl (v := .int (s.1 16 10)) rfl ?_
    refine r_bipush (pc := 133) p99 k99_133 (v := (6 : Int32)) rfl ?_
    cases e
    exact c_cvx (i := 11) rfl (pc := 135) p99 k99_135 rfl p46 (r := []) rfl rfl rfl rfl rfl rfl (t46 s (s.1 16 10) (6 : Int32) _ rfl)
def f99_92 (s : cS) : Option (cS ⊕ cS) := some (.inr (f46 s (s.1 16 10) (6 : Int32)))
theorem t99_92 {d : Nat} {Z : Nat → ab_C} : ∀ (s : cS) (l : ab_L)  (h0 : ab_get l 0 = some (.ref 16)) (r : cS ⊕ cS) (e : f99_92 s  = some r), ab_Rn (d + 2) 99 92 l [] (ch s Z) (oV r) (ch (zV r) Z) := by
  intro s l h0 r e
  unfold f99_92 at e
  refine r_aload_n (pc := 92) p99 k99_92 h0 ?_
  refine c_get (i := 16) rfl (pc := 93) p99 k99_93 rfl rfl (v := .ref 11) rfl ?_
  refine r_aload_n (pc := 96) p99 k99_96 h0 ?_
  refine c_get (i := 16) rfl (pc := 97) p99 k99_97 rfl rfl (v := .int (s.1 16 10)) rfl ?_
  refine r_bipush (pc := 100) p99 k99_100 (v := (6 : Int32)) rfl ?_
  cases e
  exact c_cvx (i := 11) rfl (pc := 102) p99 k99_102 rfl p46 (r := []) rfl rfl rfl rfl rfl rfl (t46 s (s.1 16 10) (6 : Int32) _ rfl)
def f99_68 (s : cS) (x1 : Nat) : Option (cS ⊕ cS) := if cE x1 then (if (en x1).2.2.1 = (5 : Int32) then (if (s.1 16 14) < 0 then f99_92 s else (if (s.1 16 14) ≤ (12 : Int32) then f99_105 s x1 else f99_92 s)) else f99_105 s x1) else none
theorem t99_68 {d : Nat} {Z : Nat → ab_C} : ∀ (s : cS) (l : ab_L) (x1 : Nat) (h0 : ab_get l 0 = some (.ref 16)) (h1 : ab_get l 1 = some (.retAddr x1)) (r : cS ⊕ cS) (e : f99_68 s x1 = some r), ab_Rn (d + 2) 99 68 l [] (ch s Z) (oV r) (ch (zV r) Z) := by
  intro s l x1 h0 h1 r e
  unfold f99_68 at e
  refine r_aloadS_n (pc := 68) p99 k99_68 h1 ?_
  obtain ⟨c, e⟩ := of_if e
  refine r_sget (pc := 69) p99 k99_69 (en_form c) ?_
  refine r_iconst (pc := 72) p99 k99_72 (v := (5 : Int32)) rfl ?_
  refine r_ic_ne (pc := 73) p99 k99_73 (fun c => ?_) (fun c => ?_)
  · have e := (if_neg c).symm.trans e
    exact t99_105 s l x1 h0 h1 r e
  · have e := (if_pos c).symm.trans e
    refine r_aload_n (pc := 76) p99 k99_76 h0 ?_
    refine c_get (i := 16) rfl (pc := 77) p99 k99_77 rfl rfl (v := .int (s.1 16 14)) rfl ?_
    refine r_if_lt (pc := 80) p99 k99_80 (fun c => ?_) (fun c => ?_)
    · have e := (if_pos c).symm.trans e
      exact t99_92 s l h0 r e
    · have e := (if_neg c).symm.trans e
      refine r_aload_n (pc := 83) p99 k99_83 h0 ?_
      refine c_get (i := 16) rfl (pc := 84) p99 k99_84 rfl rfl (v := .int (s.1 16 14)) rfl ?_
      refine r_bipush (pc := 87) p99 k99_87 (v := (12 : Int32)) rfl ?_
      refine r_ic_le (pc := 89) p99 k99_89 (fun c => ?_) (fun c => ?_)
      · have e := (if_pos c).symm.trans e
        exact t99_105 s l x1 h0 h1 r e
      · have e := (if_neg c).symm.trans e
        exact t99_92 s l h0 r e
def f99_55 (s : cS) : Option (cS ⊕ cS) := some (.inr (f46 s (s.1 16 10) (6 : Int32)))
theorem t99_55 {d : Nat} {Z : Nat → ab_C} : ∀ (s : cS) (l : ab_L)  (h0 : ab_get l 0 = some (.ref 16)) (r : cS ⊕ cS) (e : f99_55 s  = some r), ab_Rn (d + 2) 99 55 l [] (ch s Z) (oV r) (ch (zV r) Z) := by
  intro s l h0 r e
  unfold f99_55 at e
  refine r_aload_n (pc := 55) p99 k99_55 h0 ?_
  refine c_get (i := 16) rfl (pc := 56) p99 k99_56 rfl rfl (v := .ref 11) rfl ?_
  refine r_aload_n (pc := 59) p99 k99_59 h0 ?_
  refine c_get (i := 16) rfl (pc := 60) p99 k99_60 rfl rfl (v := .int (s.1 16 10)) rfl ?_
  refine r_bipush (pc := 63) p99 k99_63 (v := (6 : Int32)) rfl ?_
  cases e
  exact c_cvx (i := 11) rfl (pc := 65) p99 k99_65 rfl p46 (r := []) rfl rfl rfl rfl rfl rfl (t46 s (s.1 16 10) (6 : Int32) _ rfl)
def f99_31 (s : cS) (x1 : Nat) : Option (cS ⊕ cS) := if cE x1 then (if (en x1).2.2.1 = (4 : Int32) then (if (s.1 16 14) < 0 then f99_55 s else (if (s.1 16 14) ≤ (65420 : Int32) then f99_68 s x1 else f99_55 s)) else f99_68 s x1) else none
theorem t99_31 {d : Nat} {Z : Nat → ab_C} : ∀ (s : cS) (l : ab_L) (x1 : Nat) (h0 : ab_get l 0 = some (.ref 16)) (h1 : ab_get l 1 = some (.retAddr x1)) (r : cS ⊕ cS) (e : f99_31 s x1 = some r), ab_Rn (d + 2) 99 31 l [] (ch s Z) (oV r) (ch (zV r) Z) := by
  intro s l x1 h0 h1 r e
  unfold f99_31 at e
  refine r_aloadS_n (pc := 31) p99 k99_31 h1 ?_
  obtain ⟨c, e⟩ := of_if e
  refine r_sget (pc := 32) p99 k99_32 (en_form c) ?_
  refine r_iconst (pc := 35) p99 k99_35 (v := (4 : Int32)) rfl ?_
  refine r_ic_ne (pc := 36) p99 k99_36 (fun c => ?_) (fun c => ?_)
  · have e := (if_neg c).symm.trans e
    exact t99_68 s l x1 h0 h1 r e
  · have e := (if_pos c).symm.trans e
    refine r_aload_n (pc := 39) p99 k99_39 h0 ?_
    refine c_get (i := 16) rfl (pc := 40) p99 k99_40 rfl rfl (v := .int (s.1 16 14)) rfl ?_
    refine r_if_lt (pc := 43) p99 k99_43 (fun c => ?_) (fun c => ?_)
    · have e := (if_pos c).symm.trans e
      exact t99_55 s l h0 r e
    · have e := (if_neg c).symm.trans e
      refine r_aload_n (pc := 46) p99 k99_46 h0 ?_
      refine c_get (i := 16) rfl (pc := 47) p99 k99_47 rfl rfl (v := .int (s.1 16 14)) rfl ?_
      refine r_ldcI (pc := 50) p99 k99_50 (v := (65420 : Int32)) rfl ?_
      refine r_ic_le (pc := 52) p99 k99_52 (fun c => ?_) (fun c => ?_)
      · have e := (if_pos c).symm.trans e
        exact t99_68 s l x1 h0 h1 r e
      · have e := (if_neg c).symm.trans e
        exact t99_55 s l h0 r e
def f99 (s : cS) (x1 : Nat) : Option (cS ⊕ cS) := if cE x1 then (if (en x1).2.2.1 < (7 : Int32) then f99_31 s x1 else (if ((f61 s) &&& (3 : Int32)) = 0 then f99_31 s x1 else some (.inr (f46 s (s.1 16 10) (7 : Int32))))) else none
theorem t99 {d : Nat} {Z : Nat → ab_C} (s : cS) (x1 : Nat) (r : cS ⊕ cS) (e : f99 s x1 = some r) : ab_Rn (d + 2) 99 0 (lv_args 0 [.ref 16, .retAddr x1]) [] (ch s Z) (oV r) (ch (zV r) Z) := by
  unfold f99 at e
  obtain ⟨l, hl⟩ : ∃ l, l = (lv_args 0 [.ref 16, .retAddr x1]) := ⟨_, rfl⟩
  rw [← hl]
  have h0 : ab_get l 0 = some (.ref 16) := by rw [hl]; rfl
  have h1 : ab_get l 1 = some (.retAddr x1) := by rw [hl]; rfl
  refine r_aloadS_n (pc := 0) p99 k99_0 h1 ?_
  obtain ⟨c, e⟩ := of_if e
  refine r_sget (pc := 1) p99 k99_1 (en_form c) ?_
  refine r_bipush (pc := 4) p99 k99_4 (v := (7 : Int32)) rfl ?_
  refine r_ic_lt (pc := 6) p99 k99_6 (fun c => ?_) (fun c => ?_)
  · have e := (if_pos c).symm.trans e
    exact t99_31 s l x1 h0 h1 r e
  · have e := (if_neg c).symm.trans e
    refine r_aload_n (pc := 9) p99 k99_9 h0 ?_
    refine c_cv (i := 16) rfl (pc := 10) p99 k99_10 rfl p61 (r := []) rfl rfl rfl rfl rfl rfl (t61 s _ rfl) (w := [.int (f61 s)]) rfl ?_
    refine r_iconst (pc := 13) p99 k99_13 (v := (3 : Int32)) rfl ?_
    refine r_iand (pc := 14) p99 k99_14 ?_
    refine r_if_eq (pc := 15) p99 k99_15 (fun c => ?_) (fun c => ?_)
    · have e := (if_pos c).symm.trans e
      exact t99_31 s l x1 h0 h1 r e
    · have e := (if_neg c).symm.trans e
      refine r_aload_n (pc := 18) p99 k99_18 h0 ?_
      refine c_get (i := 16) rfl (pc := 19) p99 k99_19 rfl rfl (v := .ref 11) rfl ?_
      refine r_aload_n (pc := 22) p99 k99_22 h0 ?_
      refine c_get (i := 16) rfl (pc := 23) p99 k99_23 rfl rfl (v := .int (s.1 16 10)) rfl ?_
      refine r_bipush (pc := 26) p99 k99_26 (v := (7 : Int32)) rfl ?_
      cases e
      exact c_cvx (i := 11) rfl (pc := 28) p99 k99_28 rfl p46 (r := []) rfl rfl rfl rfl rfl rfl (t46 s (s.1 16 10) (7 : Int32) _ rfl)

theorem p101 : ab_prog[101]? = some (ab_m101, ab_c101) := rfl
theorem k101_0 : ab_fetch ab_c101 0 = some (.aload_n 0, 1, 0, 0) := rfl
theorem k101_1 : ab_fetch ab_c101 1 = some (.aload_n 1, 1, 0, 0) := rfl
theorem k101_2 : ab_fetch ab_c101 2 = some (.invokevirtual 254, 3, 100, 1) := rfl
theorem k101_5 : ab_fetch ab_c101 5 = some (.istore_n 2, 1, 0, 0) := rfl
theorem k101_6 : ab_fetch ab_c101 6 = some (.aload_n 0, 1, 0, 0) := rfl
theorem k101_7 : ab_fetch ab_c101 7 = some (.getfield 147, 3, 0, 6) := rfl
theorem k101_10 : ab_fetch ab_c101 10 = some (.ifCond .ne 16, 3, 26, 0) := rfl
theorem k101_13 : ab_fetch ab_c101 13 = some (.aload_n 0, 1, 0, 0) := rfl
theorem k101_14 : ab_fetch ab_c101 14 = some (.dup, 1, 0, 0) := rfl
theorem k101_15 : ab_fetch ab_c101 15 = some (.getfield 55, 3, 0, 7) := rfl
theorem k101_18 : ab_fetch ab_c101 18 = some (.iload_n 2, 1, 0, 0) := rfl
theorem k101_19 : ab_fetch ab_c101 19 = some (.iadd, 1, 0, 0) := rfl
theorem k101_20 : ab_fetch ab_c101 20 = some (.putfield 55, 3, 0, 7) := rfl
theorem k101_23 : ab_fetch ab_c101 23 = some (.goto 13, 3, 36, 0) := rfl
theorem k101_26 : ab_fetch ab_c101 26 = some (.aload_n 0, 1, 0, 0) := rfl
theorem k101_27 : ab_fetch ab_c101 27 = some (.dup, 1, 0, 0) := rfl
theorem k101_28 : ab_fetch ab_c101 28 = some (.getfield 58, 3, 0, 8) := rfl
theorem k101_31 : ab_fetch ab_c101 31 = some (.iload_n 2, 1, 0, 0) := rfl
theorem k101_32 : ab_fetch ab_c101 32 = some (.iadd, 1, 0, 0) := rfl
theorem k101_33 : ab_fetch ab_c101 33 = some (.putfield 58, 3, 0, 8) := rfl
theorem k101_36 : ab_fetch ab_c101 36 = some (.aload_n 1, 1, 0, 0) := rfl
theorem k101_37 : ab_fetch ab_c101 37 = some (.getfield 109, 3, 100, 4) := rfl
theorem k101_40 : ab_fetch ab_c101 40 = some (.iconst 1, 1, 0, 0) := rfl
theorem k101_41 : ab_fetch ab_c101 41 = some (.if_icmp .ne 11, 3, 52, 0) := rfl
theorem k101_44 : ab_fetch ab_c101 44 = some (.aload_n 0, 1, 0, 0) := rfl
theorem k101_45 : ab_fetch ab_c101 45 = some (.aload_n 1, 1, 0, 0) := rfl
theorem k101_46 : ab_fetch ab_c101 46 = some (.getfield 117, 3, 100, 5) := rfl
theorem k101_49 : ab_fetch ab_c101 49 = some (.putfield 147, 3, 0, 6) := rfl
theorem k101_52 : ab_fetch ab_c101 52 = some (.return_, 1, 0, 0) := rfl
/- CodeSmith$Assembler goOn(LCodeSmith$Statement;)V -/
def f101_36 (s : cS) (x1 : Nat) : Option cS := if cE x1 then (if (en x1).2.2.1 = (1 : Int32) then if cE x1 then some (cg s 16 6 (en x1).2.2.2) else none else some s) else none
theorem t101_36 {d : Nat} {Z : Nat → ab_C} : ∀ (s : cS) (l : ab_L) (x1 : Nat) (h0 : ab_get l 0 = some (.ref 16)) (h1 : ab_get l 1 = some (.retAddr x1)) (r : cS) (e : f101_36 s x1 = some r), ab_Rn (d + 2) 101 36 l [] (ch s Z) (.inl none) (ch r Z) := by
  intro s l x1 h0 h1 r e
  unfold f101_36 at e
  refine r_aloadS_n (pc := 36) p101 k101_36 h1 ?_
  obtain ⟨c, e⟩ := of_if e
  refine r_sget (pc := 37) p101 k101_37 (en_form c) ?_
  refine r_iconst (pc := 40) p101 k101_40 (v := (1 : Int32)) rfl ?_
  refine r_ic_ne (pc := 41) p101 k101_41 (fun c => ?_) (fun c => ?_)
  · have e := (if_neg c).symm.trans e
    obtain rfl := Option.some.inj e
    exact r_retV (pc := 52) p101 k101_52 rfl
  · have e := (if_pos c).symm.trans e
    refine r_aload_n (pc := 44) p101 k101_44 h0 ?_
    refine r_aloadS_n (pc := 45) p101 k101_45 h1 ?_
    obtain ⟨c, e⟩ := of_if e
    refine r_sget (pc := 46) p101 k101_46 (en_code c) ?_
    refine c_put (i := 16) rfl (pc := 49) p101 k101_49 rfl rfl rfl (cc_g16 _ Z 6 _) (cs16_6 _ _) rfl rfl ?_
    obtain rfl := Option.some.inj e
    exact r_retV (pc := 52) p101 k101_52 rfl
def f101 (s : cS) (x1 : Nat) : Option cS := ((f100 s x1).bind fun r1 => (if (s.1 16 6) = 0 then f101_36 (cg s 16 7 ((s.1 16 7) + r1)) x1 else f101_36 (cg s 16 8 ((s.1 16 8) + r1)) x1))
theorem t101 {d : Nat} {Z : Nat → ab_C} (s : cS) (x1 : Nat) (r : cS) (e : f101 s x1 = some r) : ab_Rn (d + 2) 101 0 (lv_args 0 [.ref 16, .retAddr x1]) [] (ch s Z) (.inl none) (ch r Z) := by
  unfold f101 at e
  obtain ⟨l, hl⟩ : ∃ l, l = (lv_args 0 [.ref 16, .retAddr x1]) := ⟨_, rfl⟩
  rw [← hl]
  have h0 : ab_get l 0 = some (.ref 16) := by rw [hl]; rfl
  have h1 : ab_get l 1 = some (.retAddr x1) := by rw [hl]; rfl
  refine r_aload_n (pc := 0) p101 k101_0 h0 ?_
  refine r_aloadS_n (pc := 1) p101 k101_1 h1 ?_
  obtain ⟨r1, er1, e⟩ := of_bind e
  refine c_cv (i := 16) rfl (pc := 2) p101 k101_2 rfl p100 (r := []) rfl rfl rfl rfl rfl rfl (t100 s x1 r1 er1) (w := [.int r1]) rfl ?_
  refine r_istore_n (pc := 5) p101 k101_5 (by decide) (fun l g h2 => ?_)
  have h0 := g 0 _ (by decide) h0 (Or.inl rfl)
  have h1 := g 1 _ (by decide) h1 (Or.inl rfl)
  refine r_aload_n (pc := 6) p101 k101_6 h0 ?_
  refine c_get (i := 16) rfl (pc := 7) p101 k101_7 rfl rfl (v := .int (s.1 16 6)) rfl ?_
  refine r_if_ne (pc := 10) p101 k101_10 (fun c => ?_) (fun c => ?_)
  · have e := (if_neg c).symm.trans e
    refine r_aload_n (pc := 26) p101 k101_26 h0 ?_
    refine r_dup (pc := 27) p101 k101_27 rfl ?_
    refine c_get (i := 16) rfl (pc := 28) p101 k101_28 rfl rfl (v := .int (s.1 16 8)) rfl ?_
    refine r_iload_n (pc := 31) p101 k101_31 h2 ?_
    refine r_iadd (pc := 32) p101 k101_32 ?_
    refine c_put (i := 16) rfl (pc := 33) p101 k101_33 rfl rfl rfl (cc_g16 _ Z 8 _) (cs16_8 _ _) rfl rfl ?_
    exact t101_36 (cg s 16 8 ((s.1 16 8) + r1)) l x1 h0 h1 r e
  · have e := (if_pos c).symm.trans e
    refine r_aload_n (pc := 13) p101 k101_13 h0 ?_
    refine r_dup (pc := 14) p101 k101_14 rfl ?_
    refine c_get (i := 16) rfl (pc := 15) p101 k101_15 rfl rfl (v := .int (s.1 16 7)) rfl ?_
    refine r_iload_n (pc := 18) p101 k101_18 h2 ?_
    refine r_iadd (pc := 19) p101 k101_19 ?_
    refine c_put (i := 16) rfl (pc := 20) p101 k101_20 rfl rfl rfl (cc_g16 _ Z 7 _) (cs16_7 _ _) rfl rfl ?_
    refine r_goto (pc := 23) p101 k101_23 ?_
    exact t101_36 (cg s 16 7 ((s.1 16 7) + r1)) l x1 h0 h1 r e

theorem p42 : ab_prog[42]? = some (ab_m42, ab_c42) := rfl
theorem k42_0 : ab_fetch ab_c42 0 = some (.aload_n 0, 1, 0, 0) := rfl
theorem k42_1 : ab_fetch ab_c42 1 = some (.invokevirtual 81, 3, 43, 0) := rfl
theorem k42_4 : ab_fetch ab_c42 4 = some (.aload_n 0, 1, 0, 0) := rfl
theorem k42_5 : ab_fetch ab_c42 5 = some (.getfield 21, 3, 0, 2) := rfl
theorem k42_8 : ab_fetch ab_c42 8 = some (.getfield 84, 3, 4, 3) := rfl
theorem k42_11 : ab_fetch ab_c42 11 = some (.ifCond .ne 4, 3, 15, 0) := rfl
theorem k42_14 : ab_fetch ab_c42 14 = some (.return_, 1, 0, 0) := rfl
theorem k42_15 : ab_fetch ab_c42 15 = some (.aload_n 0, 1, 0, 0) := rfl
theorem k42_16 : ab_fetch ab_c42 16 = some (.aload_n 0, 1, 0, 0) := rfl
theorem k42_17 : ab_fetch ab_c42 17 = some (.getfield 21, 3, 0, 2) := rfl
theorem k42_20 : ab_fetch ab_c42 20 = some (.getfield 89, 3, 4, 4) := rfl
theorem k42_23 : ab_fetch ab_c42 23 = some (.putfield 92, 3, 0, 10) := rfl
theorem k42_26 : ab_fetch ab_c42 26 = some (.aload_n 0, 1, 0, 0) := rfl
theorem k42_27 : ab_fetch ab_c42 27 = some (.getfield 21, 3, 0, 2) := rfl
theorem k42_30 : ab_fetch ab_c42 30 = some (.getfield 95, 3, 4, 5) := rfl
theorem k42_33 : ab_fetch ab_c42 33 = some (.istore_n 1, 1, 0, 0) := rfl
theorem k42_34 : ab_fetch ab_c42 34 = some (.aload_n 0, 1, 0, 0) := rfl
theorem k42_35 : ab_fetch ab_c42 35 = some (.getfield 21, 3, 0, 2) := rfl
theorem k42_38 : ab_fetch ab_c42 38 = some (.iconst 1, 1, 0, 0) := rfl
theorem k42_39 : ab_fetch ab_c42 39 = some (.invokevirtual 98, 3, 45, 1) := rfl
theorem k42_42 : ab_fetch ab_c42 42 = some (.aload_n 0, 1, 0, 0) := rfl
theorem k42_43 : ab_fetch ab_c42 43 = some (.aload_n 0, 1, 0, 0) := rfl
theorem k42_44 : ab_fetch ab_c42 44 = some (.getfield 92, 3, 0, 10) := rfl
theorem k42_47 : ab_fetch ab_c42 47 = some (.iload_n 1, 1, 0, 0) := rfl
theorem k42_48 : ab_fetch ab_c42 48 = some (.invokevirtual 102, 3, 65, 2) := rfl
theorem k42_51 : ab_fetch ab_c42 51 = some (.astore_n 2, 1, 0, 0) := rfl
theorem k42_52 : ab_fetch ab_c42 52 = some (.aload_n 2, 1, 0, 0) := rfl
theorem k42_53 : ab_fetch ab_c42 53 = some (.ifnonnull 16, 3, 69, 0) := rfl
theorem k42_56 : ab_fetch ab_c42 56 = some (.aload_n 0, 1, 0, 0) := rfl
theorem k42_57 : ab_fetch ab_c42 57 = some (.getfield 21, 3, 0, 2) := rfl
theorem k42_60 : ab_fetch ab_c42 60 = some (.aload_n 0, 1, 0, 0) := rfl
theorem k42_61 : ab_fetch ab_c42 61 = some (.getfield 92, 3, 0, 10) := rfl
theorem k42_64 : ab_fetch ab_c42 64 = some (.iconst 3, 1, 0, 0) := rfl
theorem k42_65 : ab_fetch ab_c42 65 = some (.invokevirtual 106, 3, 46, 2) := rfl
theorem k42_68 : ab_fetch ab_c42 68 = some (.return_, 1, 0, 0) := rfl
theorem k42_69 : ab_fetch ab_c42 69 = some (.aload_n 0, 1, 0, 0) := rfl
theorem k42_70 : ab_fetch ab_c42 70 = some (.aload_n 2, 1, 0, 0) := rfl
theorem k42_71 : ab_fetch ab_c42 71 = some (.getfield 109, 3, 100, 4) := rfl
theorem k42_74 : ab_fetch ab_c42 74 = some (.invokevirtual 114, 3, 66, 1) := rfl
theorem k42_77 : ab_fetch ab_c42 77 = some (.aload_n 2, 1, 0, 0) := rfl
theorem k42_78 : ab_fetch ab_c42 78 = some (.getfield 109, 3, 100, 4) := rfl
theorem k42_81 : ab_fetch ab_c42 81 = some (.tableswitch 64 2 6 #[35, 46, 64, 64, 57], 35, 0, 0) := rfl
theorem k42_116 : ab_fetch ab_c42 116 = some (.aload_n 0, 1, 0, 0) := rfl
theorem k42_117 : ab_fetch ab_c42 117 = some (.aload_n 2, 1, 0, 0) := rfl
theorem k42_118 : ab_fetch ab_c42 118 = some (.getfield 117, 3, 100, 5) := rfl
theorem k42_121 : ab_fetch ab_c42 121 = some (.invokevirtual 120, 3, 67, 1) := rfl
theorem k42_124 : ab_fetch ab_c42 124 = some (.goto 30, 3, 154, 0) := rfl
theorem k42_127 : ab_fetch ab_c42 127 = some (.aload_n 0, 1, 0, 0) := rfl
theorem k42_128 : ab_fetch ab_c42 128 = some (.aload_n 2, 1, 0, 0) := rfl
theorem k42_129 : ab_fetch ab_c42 129 = some (.getfield 117, 3, 100, 5) := rfl
theorem k42_132 : ab_fetch ab_c42 132 = some (.invokevirtual 123, 3, 85, 1) := rfl
theorem k42_135 : ab_fetch ab_c42 135 = some (.goto 19, 3, 154, 0) := rfl
theorem k42_138 : ab_fetch ab_c42 138 = some (.aload_n 0, 1, 0, 0) := rfl
theorem k42_139 : ab_fetch ab_c42 139 = some (.invokevirtual 126, 3, 86, 0) := rfl
theorem k42_142 : ab_fetch ab_c42 142 = some (.goto 12, 3, 154, 0) := rfl
theorem k42_145 : ab_fetch ab_c42 145 = some (.aload_n 0, 1, 0, 0) := rfl
theorem k42_146 : ab_fetch ab_c42 146 = some (.aload_n 0, 1, 0, 0) := rfl
theorem k42_147 : ab_fetch ab_c42 147 = some (.aload_n 2, 1, 0, 0) := rfl
theorem k42_148 : ab_fetch ab_c42 148 = some (.invokevirtual 129, 3, 87, 1) := rfl
theorem k42_151 : ab_fetch ab_c42 151 = some (.invokevirtual 133, 3, 89, 1) := rfl
theorem k42_154 : ab_fetch ab_c42 154 = some (.aload_n 0, 1, 0, 0) := rfl
theorem k42_155 : ab_fetch ab_c42 155 = some (.getfield 21, 3, 0, 2) := rfl
theorem k42_158 : ab_fetch ab_c42 158 = some (.getfield 84, 3, 4, 3) := rfl
theorem k42_161 : ab_fetch ab_c42 161 = some (.ifCond .eq 18, 3, 179, 0) := rfl
theorem k42_164 : ab_fetch ab_c42 164 = some (.aload_n 0, 1, 0, 0) := rfl
theorem k42_165 : ab_fetch ab_c42 165 = some (.getfield 21, 3, 0, 2) := rfl
theorem k42_168 : ab_fetch ab_c42 168 = some (.aload_n 0, 1, 0, 0) := rfl
theorem k42_169 : ab_fetch ab_c42 169 = some (.getfield 21, 3, 0, 2) := rfl
theorem k42_172 : ab_fetch ab_c42 172 = some (.getfield 89, 3, 4, 4) := rfl
theorem k42_175 : ab_fetch ab_c42 175 = some (.iconst 1, 1, 0, 0) := rfl
theorem k42_176 : ab_fetch ab_c42 176 = some (.invokevirtual 106, 3, 46, 2) := rfl
theorem k42_179 : ab_fetch ab_c42 179 = some (.aload_n 0, 1, 0, 0) := rfl
theorem k42_180 : ab_fetch ab_c42 180 = some (.getfield 43, 3, 0, 5) := rfl
theorem k42_183 : ab_fetch ab_c42 183 = some (.ifCond .eq 11, 3, 194, 0) := rfl
theorem k42_186 : ab_fetch ab_c42 186 = some (.aload_n 0, 1, 0, 0) := rfl
theorem k42_187 : ab_fetch ab_c42 187 = some (.aload_n 2, 1, 0, 0) := rfl
theorem k42_188 : ab_fetch ab_c42 188 = some (.invokevirtual 137, 3, 92, 1) := rfl
theorem k42_191 : ab_fetch ab_c42 191 = some (.goto 8, 3, 199, 0) := rfl
theorem k42_194 : ab_fetch ab_c42 194 = some (.aload_n 0, 1, 0, 0) := rfl
theorem k42_195 : ab_fetch ab_c42 195 = some (.aload_n 2, 1, 0, 0) := rfl
theorem k42_196 : ab_fetch ab_c42 196 = some (.invokevirtual 141, 3, 99, 1) := rfl
theorem k42_199 : ab_fetch ab_c42 199 = some (.aload_n 0, 1, 0, 0) := rfl
theorem k42_200 : ab_fetch ab_c42 200 = some (.aload_n 2, 1, 0, 0) := rfl
theorem k42_201 : ab_fetch ab_c42 201 = some (.invokevirtual 144, 3, 101, 1) := rfl
theorem k42_204 : ab_fetch ab_c42 204 = some (.return_, 1, 0, 0) := rfl
/- CodeSmith$Assembler readLine()V -/
def f42_199 (s : cS) (x2 : Nat) : Option (cS ⊕ cS) := ((f101 s x2).bind fun r1 => some (.inl r1))
theorem t42_199 {d : Nat} {Z : Nat → ab_C} : ∀ (s : cS) (l : ab_L) (x2 : Nat) (h0 : ab_get l 0 = some (.ref 16)) (h2 : ab_get l 2 = some (.retAddr x2)) (r : cS ⊕ cS) (e : f42_199 s x2 = some r), ab_Rn (d + 457) 42 199 l [] (ch s Z) (oV r) (ch (zV r) Z) := by
  intro s l x2 h0 h2 r e
  unfold f42_199 at e
  refine r_aload_n (pc := 199) p42 k42_199 h0 ?_
  refine r_aloadS_n (pc := 200) p42 k42_200 h2 ?_
  obtain ⟨r1, er1, e⟩ := of_bind e
  refine c_cv (i := 16) rfl (pc := 201) p42 k42_201 rfl p101 (r := []) rfl rfl rfl rfl rfl rfl (t101 s x2 r1 er1) (w := []) rfl ?_
  obtain rfl := Option.some.inj e
  exact r_retV (pc := 204) p42 k42_204 rfl
def f42_154 (s : cS) (x2 : Nat) : Option (cS ⊕ cS) := (if (s.1 11 3) = 0 then (if (s.1 16 5) = 0 then (tb (f99 s x2) fun r1 => f42_199 r1 x2) else (tb (f92 s x2) fun r1 => f42_199 r1 x2)) else some (.inr (f46 s (s.1 11 4) (1 : Int32))))
theorem t42_154 {d : Nat} {Z : Nat → ab_C} : ∀ (s : cS) (l : ab_L) (x2 : Nat) (h0 : ab_get l 0 = some (.ref 16)) (h2 : ab_get l 2 = some (.retAddr x2)) (r : cS ⊕ cS) (e : f42_154 s x2 = some r), ab_Rn (d + 457) 42 154 l [] (ch s Z) (oV r) (ch (zV r) Z) := by
  intro s l x2 h0 h2 r e
  unfold f42_154 at e
  refine r_aload_n (pc := 154) p42 k42_154 h0 ?_
  refine c_get (i := 16) rfl (pc := 155) p42 k42_155 rfl rfl (v := .ref 11) rfl ?_
  refine c_get (i := 11) rfl (pc := 158) p42 k42_158 rfl rfl (v := .int (s.1 11 3)) rfl ?_
  refine r_if_eq (pc := 161) p42 k42_161 (fun c => ?_) (fun c => ?_)
  · have e := (if_pos c).symm.trans e
    refine r_aload_n (pc := 179) p42 k42_179 h0 ?_
    refine c_get (i := 16) rfl (pc := 180) p42 k42_180 rfl rfl (v := .int (s.1 16 5)) rfl ?_
    refine r_if_eq (pc := 183) p42 k42_183 (fun c => ?_) (fun c => ?_)
    · have e := (if_pos c).symm.trans e
      refine r_aload_n (pc := 194) p42 k42_194 h0 ?_
      refine r_aloadS_n (pc := 195) p42 k42_195 h2 ?_
      rcases of_tb e with ⟨r1, er1, e⟩ | ⟨t, et, rfl⟩
      rotate_left
      · exact c_cvx (i := 16) rfl (pc := 196) p42 k42_196 rfl p99 (r := []) rfl rfl rfl rfl rfl rfl (t99 s x2 _ et)
      refine c_cv (i := 16) rfl (pc := 196) p42 k42_196 rfl p99 (r := []) rfl rfl rfl rfl rfl rfl (t99 s x2 _ er1) (w := []) rfl ?_
      exact t42_199 r1 l x2 h0 h2 r e
    · have e := (if_neg c).symm.trans e
      refine r_aload_n (pc := 186) p42 k42_186 h0 ?_
      refine r_aloadS_n (pc := 187) p42 k42_187 h2 ?_
      rcases of_tb e with ⟨r1, er1, e⟩ | ⟨t, et, rfl⟩
      rotate_left
      · exact c_cvx (i := 16) rfl (pc := 188) p42 k42_188 rfl p92 (r := []) rfl rfl rfl rfl rfl rfl (t92 s x2 _ et)
      refine c_cv (i := 16) rfl (pc := 188) p42 k42_188 rfl p92 (r := []) rfl rfl rfl rfl rfl rfl (t92 s x2 _ er1) (w := []) rfl ?_
      refine r_goto (pc := 191) p42 k42_191 ?_
      exact t42_199 r1 l x2 h0 h2 r e
  · have e := (if_neg c).symm.trans e
    refine r_aload_n (pc := 164) p42 k42_164 h0 ?_
    refine c_get (i := 16) rfl (pc := 165) p42 k42_165 rfl rfl (v := .ref 11) rfl ?_
    refine r_aload_n (pc := 168) p42 k42_168 h0 ?_
    refine c_get (i := 16) rfl (pc := 169) p42 k42_169 rfl rfl (v := .ref 11) rfl ?_
    refine c_get (i := 11) rfl (pc := 172) p42 k42_172 rfl rfl (v := .int (s.1 11 4)) rfl ?_
    refine r_iconst (pc := 175) p42 k42_175 (v := (1 : Int32)) rfl ?_
    cases e
    exact c_cvx (i := 11) rfl (pc := 176) p42 k42_176 rfl p46 (r := []) rfl rfl rfl rfl rfl rfl (t46 s (s.1 11 4) (1 : Int32) _ rfl)
def f42 (s : cS) : Option (cS ⊕ cS) := (tb (f43 s) fun r1 => (if (r1.1 11 3) = 0 then some (.inl r1) else (tb (f45 (cg r1 16 10 (r1.1 11 4)) (1 : Int32)) fun r2 => ((f65 r2 (r2.1 16 10) (r1.1 11 5)).bind fun r3 => match r3 with | none => some (.inr (f46 r2 (r2.1 16 10) (3 : Int32))) | some kr3 => if cE kr3 then if cE kr3 then (if (en kr3).2.2.1 = 2 then if cE kr3 then (tb (f67 (f66 r2 (en kr3).2.2.1) (en kr3).2.2.2) fun r4 => f42_154 r4 kr3) else none else if (en kr3).2.2.1 = 3 then if cE kr3 then (tb (f85 (f66 r2 (en kr3).2.2.1) (en kr3).2.2.2) fun r4 => f42_154 r4 kr3) else none else if (en kr3).2.2.1 = 6 then (tb (f86 (f66 r2 (en kr3).2.2.1)) fun r4 => f42_154 r4 kr3) else ((f87 (f66 r2 (en kr3).2.2.1) kr3).bind fun r4 => (tb (f89 r4.2 r4.1) fun r5 => f42_154 r5 kr3))) else none else none))))
theorem t42 {d : Nat} {Z : Nat → ab_C} (s : cS) (r : cS ⊕ cS) (e : f42 s = some r) : ab_Rn (d + 457) 42 0 (lv_args 0 [.ref 16]) [] (ch s Z) (oV r) (ch (zV r) Z) := by
  unfold f42 at e
  obtain ⟨l, hl⟩ : ∃ l, l = (lv_args 0 [.ref 16]) := ⟨_, rfl⟩
  rw [← hl]
  have h0 : ab_get l 0 = some (.ref 16) := by rw [hl]; rfl
  refine r_aload_n (pc := 0) p42 k42_0 h0 ?_
  rcases of_tb e with ⟨r1, er1, e⟩ | ⟨t, et, rfl⟩
  rotate_left
  · exact c_cvx (i := 16) rfl (pc := 1) p42 k42_1 rfl p43 (r := []) rfl rfl rfl rfl rfl rfl (t43 s _ et)
  refine c_cv (i := 16) rfl (pc := 1) p42 k42_1 rfl p43 (r := []) rfl rfl rfl rfl rfl rfl (t43 s _ er1) (w := []) rfl ?_
  refine r_aload_n (pc := 4) p42 k42_4 h0 ?_
  refine c_get (i := 16) rfl (pc := 5) p42 k42_5 rfl rfl (v := .ref 11) rfl ?_
  refine c_get (i := 11) rfl (pc := 8) p42 k42_8 rfl rfl (v := .int (r1.1 11 3)) rfl ?_
  refine r_if_ne (pc := 11) p42 k42_11 (fun c => ?_) (fun c => ?_)
  · have e := (if_neg c).symm.trans e
    refine r_aload_n (pc := 15) p42 k42_15 h0 ?_
    refine r_aload_n (pc := 16) p42 k42_16 h0 ?_
    refine c_get (i := 16) rfl (pc := 17) p42 k42_17 rfl rfl (v := .ref 11) rfl ?_
    refine c_get (i := 11) rfl (pc := 20) p42 k42_20 rfl rfl (v := .int (r1.1 11 4)) rfl ?_
    refine c_put (i := 16) rfl (pc := 23) p42 k42_23 rfl rfl rfl (cc_g16 _ Z 10 _) (cs16_10 _ _) rfl rfl ?_
    refine r_aload_n (pc := 26) p42 k42_26 h0 ?_
    refine c_get (i := 16) rfl (pc := 27) p42 k42_27 rfl rfl (v := .ref 11) rfl ?_
    refine c_get (i := 11) rfl (pc := 30) p42 k42_30 rfl rfl (v := .int (r1.1 11 5)) rfl ?_
    refine r_istore_n (pc := 33) p42 k42_33 (by decide) (fun l g h1 => ?_)
    have h0 := g 0 _ (by decide) h0 (Or.inl rfl)
    refine r_aload_n (pc := 34) p42 k42_34 h0 ?_
    refine c_get (i := 16) rfl (pc := 35) p42 k42_35 rfl rfl (v := .ref 11) rfl ?_
    refine r_iconst (pc := 38) p42 k42_38 (v := (1 : Int32)) rfl ?_
    rcases of_tb e with ⟨r2, er2, e⟩ | ⟨t, et, rfl⟩
    rotate_left
    · exact c_cvx (i := 11) rfl (pc := 39) p42 k42_39 rfl p45 (r := []) rfl rfl rfl rfl rfl rfl (t45 (cg r1 16 10 (r1.1 11 4)) (1 : Int32) _ et)
    refine c_cv (i := 11) rfl (pc := 39) p42 k42_39 rfl p45 (r := []) rfl rfl rfl rfl rfl rfl (t45 (cg r1 16 10 (r1.1 11 4)) (1 : Int32) _ er2) (w := []) rfl ?_
    refine r_aload_n (pc := 42) p42 k42_42 h0 ?_
    refine r_aload_n (pc := 43) p42 k42_43 h0 ?_
    refine c_get (i := 16) rfl (pc := 44) p42 k42_44 rfl rfl (v := .int (r2.1 16 10)) rfl ?_
    refine r_iload_n (pc := 47) p42 k42_47 h1 ?_
    obtain ⟨r3, er3, e⟩ := of_bind e
    rcases r3 with _ | kr3
    · refine c_cv (i := 16) rfl (pc := 48) p42 k42_48 rfl p65 (r := []) rfl rfl rfl rfl rfl rfl (t65 r2 (r2.1 16 10) (r1.1 11 5) none er3) (w := [.null]) rfl ?_
      refine r_astoreN_n (pc := 51) p42 k42_51 (by decide) (fun l g h2 => ?_)
      have h0 := g 0 _ (by decide) h0 (Or.inl rfl)
      refine r_aloadN_n (pc := 52) p42 k42_52 h2 ?_
      refine r_nn0 (pc := 53) p42 k42_53 ?_
      refine r_aload_n (pc := 56) p42 k42_56 h0 ?_
      refine c_get (i := 16) rfl (pc := 57) p42 k42_57 rfl rfl (v := .ref 11) rfl ?_
      refine r_aload_n (pc := 60) p42 k42_60 h0 ?_
      refine c_get (i := 16) rfl (pc := 61) p42 k42_61 rfl rfl (v := .int (r2.1 16 10)) rfl ?_
      refine r_iconst (pc := 64) p42 k42_64 (v := (3 : Int32)) rfl ?_
      cases e
      exact c_cvx (i := 11) rfl (pc := 65) p42 k42_65 rfl p46 (r := []) rfl rfl rfl rfl rfl rfl (t46 r2 (r2.1 16 10) (3 : Int32) _ rfl)
    · refine c_cv (i := 16) rfl (pc := 48) p42 k42_48 rfl p65 (r := []) rfl rfl rfl rfl rfl rfl (t65 r2 (r2.1 16 10) (r1.1 11 5) (some kr3) er3) (w := [.retAddr kr3]) rfl ?_
      refine r_astoreS_n (pc := 51) p42 k42_51 (by decide) (fun l g h2 => ?_)
      have h0 := g 0 _ (by decide) h0 (Or.inl rfl)
      refine r_aloadS_n (pc := 52) p42 k42_52 h2 ?_
      refine r_nn1 (pc := 53) p42 k42_53 ?_
      refine r_aload_n (pc := 69) p42 k42_69 h0 ?_
      refine r_aloadS_n (pc := 70) p42 k42_70 h2 ?_
      obtain ⟨c, e⟩ := of_if e
      refine r_sget (pc := 71) p42 k42_71 (en_form c) ?_
      refine c_cv (i := 16) rfl (pc := 74) p42 k42_74 rfl p66 (r := []) rfl rfl rfl rfl rfl rfl (t66 r2 (en kr3).2.2.1 _ rfl) (w := []) rfl ?_
      refine r_aloadS_n (pc := 77) p42 k42_77 h2 ?_
      obtain ⟨c, e⟩ := of_if e
      refine r_sget (pc := 78) p42 k42_78 (en_form c) ?_
      by_cases c0 : (en kr3).2.2.1 = 2
      · have e := (if_pos c0).symm.trans e
        refine r_sw (t := 116) (st' := []) (pc := 81) p42 k42_81 rfl rfl rfl (by rw [c0]; rfl) ?_
        refine r_aload_n (pc := 116) p42 k42_116 h0 ?_
        refine r_aloadS_n (pc := 117) p42 k42_117 h2 ?_
        obtain ⟨c, e⟩ := of_if e
        refine r_sget (pc := 118) p42 k42_118 (en_code c) ?_
        rcases of_tb e with ⟨r4, er4, e⟩ | ⟨t, et, rfl⟩
        rotate_left
        · exact c_cvx (i := 16) rfl (pc := 121) p42 k42_121 rfl p67 (r := []) rfl rfl rfl rfl rfl rfl (t67 (f66 r2 (en kr3).2.2.1) (en kr3).2.2.2 _ et)
        refine c_cv (i := 16) rfl (pc := 121) p42 k42_121 rfl p67 (r := []) rfl rfl rfl rfl rfl rfl (t67 (f66 r2 (en kr3).2.2.1) (en kr3).2.2.2 _ er4) (w := []) rfl ?_
        refine r_goto (pc := 124) p42 k42_124 ?_
        exact t42_154 r4 l kr3 h0 h2 r e
      have e := (if_neg c0).symm.trans e
      by_cases c1 : (en kr3).2.2.1 = 3
      · have e := (if_pos c1).symm.trans e
        refine r_sw (t := 127) (st' := []) (pc := 81) p42 k42_81 rfl rfl rfl (by rw [c1]; rfl) ?_
        refine r_aload_n (pc := 127) p42 k42_127 h0 ?_
        refine r_aloadS_n (pc := 128) p42 k42_128 h2 ?_
        obtain ⟨c, e⟩ := of_if e
        refine r_sget (pc := 129) p42 k42_129 (en_code c) ?_
        rcases of_tb e with ⟨r4, er4, e⟩ | ⟨t, et, rfl⟩
        rotate_left
        · exact c_cvx (i := 16) rfl (pc := 132) p42 k42_132 rfl p85 (r := []) rfl rfl rfl rfl rfl rfl (t85 (f66 r2 (en kr3).2.2.1) (en kr3).2.2.2 _ et)
        refine c_cv (i := 16) rfl (pc := 132) p42 k42_132 rfl p85 (r := []) rfl rfl rfl rfl rfl rfl (t85 (f66 r2 (en kr3).2.2.1) (en kr3).2.2.2 _ er4) (w := []) rfl ?_
        refine r_goto (pc := 135) p42 k42_135 ?_
        exact t42_154 r4 l kr3 h0 h2 r e
      have e := (if_neg c1).symm.trans e
      by_cases c2 : (en kr3).2.2.1 = 6
      · have e := (if_pos c2).symm.trans e
        refine r_sw (t := 138) (st' := []) (pc := 81) p42 k42_81 rfl rfl rfl (by rw [c2]; rfl) ?_
        refine r_aload_n (pc := 138) p42 k42_138 h0 ?_
        rcases of_tb e with ⟨r4, er4, e⟩ | ⟨t, et, rfl⟩
        rotate_left
        · exact c_cvx (i := 16) rfl (pc := 139) p42 k42_139 rfl p86 (r := []) rfl rfl rfl rfl rfl rfl (t86 (f66 r2 (en kr3).2.2.1) _ et)
        refine c_cv (i := 16) rfl (pc := 139) p42 k42_139 rfl p86 (r := []) rfl rfl rfl rfl rfl rfl (t86 (f66 r2 (en kr3).2.2.1) _ er4) (w := []) rfl ?_
        refine r_goto (pc := 142) p42 k42_142 ?_
        exact t42_154 r4 l kr3 h0 h2 r e
      have e := (if_neg c2).symm.trans e
      refine r_tswd (T := 145) (pc := 81) p42 k42_81 (by decide) (by decide) (by decide) (by
          intro k hk hx
          have hk : k < 5 := hk
          have hk : k = 0 ∨ k = 1 ∨ k = 2 ∨ k = 3 ∨ k = 4 := by omega
          rcases hk with rfl | rfl | rfl | rfl | rfl
          · exact absurd (Int32.toInt_inj.mp (hx.trans rfl)) c0
          · exact absurd (Int32.toInt_inj.mp (hx.trans rfl)) c1
          · exact rfl
          · exact rfl
          · exact absurd (Int32.toInt_inj.mp (hx.trans rfl)) c2) ?_
      refine r_aload_n (pc := 145) p42 k42_145 h0 ?_
      refine r_aload_n (pc := 146) p42 k42_146 h0 ?_
      refine r_aloadS_n (pc := 147) p42 k42_147 h2 ?_
      obtain ⟨r4, er4, e⟩ := of_bind e
      refine c_cv (i := 16) rfl (pc := 148) p42 k42_148 rfl p87 (r := [.ref 16]) rfl rfl rfl rfl rfl rfl (t87 (f66 r2 (en kr3).2.2.1) kr3 r4 er4) (w := [.retAddr r4.1, .ref 16]) rfl ?_
      rcases of_tb e with ⟨r5, er5, e⟩ | ⟨t, et, rfl⟩
      rotate_left
      · exact c_cvx (i := 16) rfl (pc := 151) p42 k42_151 rfl p89 (r := []) rfl rfl rfl rfl rfl rfl (t89 r4.2 r4.1 _ et)
      refine c_cv (i := 16) rfl (pc := 151) p42 k42_151 rfl p89 (r := []) rfl rfl rfl rfl rfl rfl (t89 r4.2 r4.1 _ er5) (w := []) rfl ?_
      exact t42_154 r5 l kr3 h0 h2 r e
  · have e := (if_pos c).symm.trans e
    obtain rfl := Option.some.inj e
    exact r_retV (pc := 14) p42 k42_14 rfl

theorem p104 : ab_prog[104]? = some (ab_m104, ab_c104) := rfl
theorem k104_0 : ab_fetch ab_c104 0 = some (.iconst 0, 1, 0, 0) := rfl
theorem k104_1 : ab_fetch ab_c104 1 = some (.istore_n 2, 1, 0, 0) := rfl
theorem k104_2 : ab_fetch ab_c104 2 = some (.aload_n 0, 1, 0, 0) := rfl
theorem k104_3 : ab_fetch ab_c104 3 = some (.arraylength, 1, 0, 0) := rfl
theorem k104_4 : ab_fetch ab_c104 4 = some (.istore_n 3, 1, 0, 0) := rfl
theorem k104_5 : ab_fetch ab_c104 5 = some (.iload_n 2, 1, 0, 0) := rfl
theorem k104_6 : ab_fetch ab_c104 6 = some (.iload_n 3, 1, 0, 0) := rfl
theorem k104_7 : ab_fetch ab_c104 7 = some (.if_icmp .ge 13, 3, 20, 0) := rfl
theorem k104_10 : ab_fetch ab_c104 10 = some (.aload_n 0, 1, 0, 0) := rfl
theorem k104_11 : ab_fetch ab_c104 11 = some (.iload_n 2, 1, 0, 0) := rfl
theorem k104_12 : ab_fetch ab_c104 12 = some (.iload_n 1, 1, 0, 0) := rfl
theorem k104_13 : ab_fetch ab_c104 13 = some (.bastore, 1, 0, 0) := rfl
theorem k104_14 : ab_fetch ab_c104 14 = some (.iinc 2 1, 3, 0, 0) := rfl
theorem k104_17 : ab_fetch ab_c104 17 = some (.goto (-12), 3, 5, 0) := rfl
theorem k104_20 : ab_fetch ab_c104 20 = some (.return_, 1, 0, 0) := rfl
/- java/util/Arrays fill([BB)V -/
def f104_5 : Nat → cS → Nat → Int32 → Int32 → Int32 → Option cS
  | 0, _, _, _, _, _ => none
  | u + 1, s, x0, x1, x2, x3 => (if x3 ≤ x2 then some s else if cB s 0 x0 x2 then f104_5 u (cw s x0 x2 x1.toInt8.toInt32) x0 x1 (x2 + (1 : Int32)) x3 else none)
theorem t104_5 {d : Nat} {Z : Nat → ab_C} : ∀ u : Nat, ∀ (s : cS) (l : ab_L) (x0 : Nat) (x1 : Int32) (x2 : Int32) (x3 : Int32) (h0 : ab_get l 0 = some (.ref x0)) (h1 : ab_get l 1 = some (.int x1)) (h2 : ab_get l 2 = some (.int x2)) (h3 : ab_get l 3 = some (.int x3)) (r : cS) (e : f104_5 u s x0 x1 x2 x3 = some r), ab_Rn d 104 5 l [] (ch s Z) (.inl none) (ch r Z) := by
  intro u
  induction u with
  | zero => intro s l x0 x1 x2 x3 h0 h1 h2 h3 r e; rw [f104_5] at e; cases e
  | succ u ih =>
    intro s l x0 x1 x2 x3 h0 h1 h2 h3 r e
    rw [f104_5] at e
    refine r_iload_n (pc := 5) p104 k104_5 h2 ?_
    refine r_iload_n (pc := 6) p104 k104_6 h3 ?_
    refine r_ic_ge (pc := 7) p104 k104_7 (fun c => ?_) (fun c => ?_)
    · have e := (if_pos c).symm.trans e
      obtain rfl := Option.some.inj e
      exact r_retV (pc := 20) p104 k104_20 rfl
    · have e := (if_neg c).symm.trans e
      refine r_aload_n (pc := 10) p104 k104_10 h0 ?_
      refine r_iload_n (pc := 11) p104 k104_11 h2 ?_
      refine r_iload_n (pc := 12) p104 k104_12 h1 ?_
      obtain ⟨c, e⟩ := of_if e
      refine c_bst (pc := 13) p104 k104_13 c ?_
      refine r_iinc (pc := 14) p104 k104_14 h2 (by decide) (v := (x2 + (1 : Int32))) rfl (fun l g h2 => ?_)
      have h0 := g 0 _ (by decide) h0 (Or.inl rfl)
      have h1 := g 1 _ (by decide) h1 (Or.inl rfl)
      have h3 := g 3 _ (by decide) h3 (Or.inl rfl)
      refine r_goto (pc := 17) p104 k104_17 ?_
      exact ih (cw s x0 x2 x1.toInt8.toInt32) l x0 x1 (x2 + (1 : Int32)) x3 h0 h1 h2 h3 r e
def f104 (s : cS) (x0 : Nat) (x1 : Int32) : Option cS := if cA s 0 x0 then f104_5 mm_U s x0 x1 (0 : Int32) (Int32.ofNat (cl s x0)) else none
theorem t104 {d : Nat} {Z : Nat → ab_C} (s : cS) (x0 : Nat) (x1 : Int32) (r : cS) (e : f104 s x0 x1 = some r) : ab_Rn d 104 0 (lv_args 0 [.ref x0, .int x1]) [] (ch s Z) (.inl none) (ch r Z) := by
  unfold f104 at e
  obtain ⟨l, hl⟩ : ∃ l, l = (lv_args 0 [.ref x0, .int x1]) := ⟨_, rfl⟩
  rw [← hl]
  have h0 : ab_get l 0 = some (.ref x0) := by rw [hl]; rfl
  have h1 : ab_get l 1 = some (.int x1) := by rw [hl]; rfl
  refine r_iconst (pc := 0) p104 k104_0 (v := (0 : Int32)) rfl ?_
  refine r_istore_n (pc := 1) p104 k104_1 (by decide) (fun l g h2 => ?_)
  have h0 := g 0 _ (by decide) h0 (Or.inl rfl)
  have h1 := g 1 _ (by decide) h1 (Or.inl rfl)
  refine r_aload_n (pc := 2) p104 k104_2 h0 ?_
  obtain ⟨c, e⟩ := of_if e
  refine c_alen (pc := 3) p104 k104_3 (t := 0) rfl c ?_
  refine r_istore_n (pc := 4) p104 k104_4 (by decide) (fun l g h3 => ?_)
  have h0 := g 0 _ (by decide) h0 (Or.inl rfl)
  have h1 := g 1 _ (by decide) h1 (Or.inl rfl)
  have h2 := g 2 _ (by decide) h2 (Or.inl rfl)
  exact t104_5 mm_U s l x0 x1 (0 : Int32) (Int32.ofNat (cl s x0)) h0 h1 h2 h3 r e

theorem p103 : ab_prog[103]? = some (ab_m103, ab_c103) := rfl
theorem k103_0 : ab_fetch ab_c103 0 = some (.aload_n 0, 1, 0, 0) := rfl
theorem k103_1 : ab_fetch ab_c103 1 = some (.iload_n 1, 1, 0, 0) := rfl
theorem k103_2 : ab_fetch ab_c103 2 = some (.putfield 15, 3, 2, 1) := rfl
theorem k103_5 : ab_fetch ab_c103 5 = some (.aload_n 0, 1, 0, 0) := rfl
theorem k103_6 : ab_fetch ab_c103 6 = some (.iload_n 2, 1, 0, 0) := rfl
theorem k103_7 : ab_fetch ab_c103 7 = some (.putfield 19, 3, 2, 2) := rfl
theorem k103_10 : ab_fetch ab_c103 10 = some (.aload_n 0, 1, 0, 0) := rfl
theorem k103_11 : ab_fetch ab_c103 11 = some (.aload_n 0, 1, 0, 0) := rfl
theorem k103_12 : ab_fetch ab_c103 12 = some (.iconst 1, 1, 0, 0) := rfl
theorem k103_13 : ab_fetch ab_c103 13 = some (.invokevirtual 22, 3, 83, 1) := rfl
theorem k103_16 : ab_fetch ab_c103 16 = some (.iload_n 2, 1, 0, 0) := rfl
theorem k103_17 : ab_fetch ab_c103 17 = some (.iadd, 1, 0, 0) := rfl
theorem k103_18 : ab_fetch ab_c103 18 = some (.putfield 26, 3, 2, 0) := rfl
theorem k103_21 : ab_fetch ab_c103 21 = some (.aload_n 0, 1, 0, 0) := rfl
theorem k103_22 : ab_fetch ab_c103 22 = some (.getfield 26, 3, 2, 0) := rfl
theorem k103_25 : ab_fetch ab_c103 25 = some (.aload_n 0, 1, 0, 0) := rfl
theorem k103_26 : ab_fetch ab_c103 26 = some (.getfield 9, 3, 2, 4) := rfl
theorem k103_29 : ab_fetch ab_c103 29 = some (.arraylength, 1, 0, 0) := rfl
theorem k103_30 : ab_fetch ab_c103 30 = some (.if_icmp .le 31, 3, 61, 0) := rfl
theorem k103_33 : ab_fetch ab_c103 33 = some (.aload_n 0, 1, 0, 0) := rfl
theorem k103_34 : ab_fetch ab_c103 34 = some (.aload_n 0, 1, 0, 0) := rfl
theorem k103_35 : ab_fetch ab_c103 35 = some (.getfield 26, 3, 2, 0) := rfl
theorem k103_38 : ab_fetch ab_c103 38 = some (.ldc 29, 2, 65536, 0) := rfl
theorem k103_40 : ab_fetch ab_c103 40 = some (.aload_n 0, 1, 0, 0) := rfl
theorem k103_41 : ab_fetch ab_c103 41 = some (.getfield 9, 3, 2, 4) := rfl
theorem k103_44 : ab_fetch ab_c103 44 = some (.arraylength, 1, 0, 0) := rfl
theorem k103_45 : ab_fetch ab_c103 45 = some (.iconst 2, 1, 0, 0) := rfl
theorem k103_46 : ab_fetch ab_c103 46 = some (.imul, 1, 0, 0) := rfl
theorem k103_47 : ab_fetch ab_c103 47 = some (.invokestatic 30, 3, 997, 2) := rfl
theorem k103_50 : ab_fetch ab_c103 50 = some (.invokestatic 36, 3, 996, 2) := rfl
theorem k103_53 : ab_fetch ab_c103 53 = some (.newarray .byte, 2, 0, 0) := rfl
theorem k103_55 : ab_fetch ab_c103 55 = some (.putfield 9, 3, 2, 4) := rfl
theorem k103_58 : ab_fetch ab_c103 58 = some (.goto 11, 3, 69, 0) := rfl
theorem k103_61 : ab_fetch ab_c103 61 = some (.aload_n 0, 1, 0, 0) := rfl
theorem k103_62 : ab_fetch ab_c103 62 = some (.getfield 9, 3, 2, 4) := rfl
theorem k103_65 : ab_fetch ab_c103 65 = some (.iconst 0, 1, 0, 0) := rfl
theorem k103_66 : ab_fetch ab_c103 66 = some (.invokestatic 39, 3, 104, 2) := rfl
theorem k103_69 : ab_fetch ab_c103 69 = some (.return_, 1, 0, 0) := rfl
/- CodeSmith$Image prepare(II)V -/
def f103 (x0 : Nat) (s : cS) (x1 : Int32) (x2 : Int32) : Option cS := if cA (cg (cg (cg s x0 1 x1) x0 2 x2) x0 0 ((f83 x0 (cg (cg s x0 1 x1) x0 2 x2) (1 : Int32)) + x2)) 0 ((cg (cg (cg s x0 1 x1) x0 2 x2) x0 0 ((f83 x0 (cg (cg s x0 1 x1) x0 2 x2) (1 : Int32)) + x2)).2.1 x0 4) then (if ((cg (cg (cg s x0 1 x1) x0 2 x2) x0 0 ((f83 x0 (cg (cg s x0 1 x1) x0 2 x2) (1 : Int32)) + x2)).1 x0 0) ≤ (Int32.ofNat (cl (cg (cg (cg s x0 1 x1) x0 2 x2) x0 0 ((f83 x0 (cg (cg s x0 1 x1) x0 2 x2) (1 : Int32)) + x2)) ((cg (cg (cg s x0 1 x1) x0 2 x2) x0 0 ((f83 x0 (cg (cg s x0 1 x1) x0 2 x2) (1 : Int32)) + x2)).2.1 x0 4))) then ((f104 (cg (cg (cg s x0 1 x1) x0 2 x2) x0 0 ((f83 x0 (cg (cg s x0 1 x1) x0 2 x2) (1 : Int32)) + x2)) ((cg (cg (cg s x0 1 x1) x0 2 x2) x0 0 ((f83 x0 (cg (cg s x0 1 x1) x0 2 x2) (1 : Int32)) + x2)).2.1 x0 4) (0 : Int32)).bind fun r1 => some r1) else if cA (cg (cg (cg s x0 1 x1) x0 2 x2) x0 0 ((f83 x0 (cg (cg s x0 1 x1) x0 2 x2) (1 : Int32)) + x2)) 0 ((cg (cg (cg s x0 1 x1) x0 2 x2) x0 0 ((f83 x0 (cg (cg s x0 1 x1) x0 2 x2) (1 : Int32)) + x2)).2.1 x0 4) then if cN (if ((cg (cg (cg s x0 1 x1) x0 2 x2) x0 0 ((f83 x0 (cg (cg s x0 1 x1) x0 2 x2) (1 : Int32)) + x2)).1 x0 0) < (if ((Int32.ofNat (cl (cg (cg (cg s x0 1 x1) x0 2 x2) x0 0 ((f83 x0 (cg (cg s x0 1 x1) x0 2 x2) (1 : Int32)) + x2)) ((cg (cg (cg s x0 1 x1) x0 2 x2) x0 0 ((f83 x0 (cg (cg s x0 1 x1) x0 2 x2) (1 : Int32)) + x2)).2.1 x0 4))) * (2 : Int32)) < (65536 : Int32) then ((Int32.ofNat (cl (cg (cg (cg s x0 1 x1) x0 2 x2) x0 0 ((f83 x0 (cg (cg s x0 1 x1) x0 2 x2) (1 : Int32)) + x2)) ((cg (cg (cg s x0 1 x1) x0 2 x2) x0 0 ((f83 x0 (cg (cg s x0 1 x1) x0 2 x2) (1 : Int32)) + x2)).2.1 x0 4))) * (2 : Int32)) else (65536 : Int32)) then (if ((Int32.ofNat (cl (cg (cg (cg s x0 1 x1) x0 2 x2) x0 0 ((f83 x0 (cg (cg s x0 1 x1) x0 2 x2) (1 : Int32)) + x2)) ((cg (cg (cg s x0 1 x1) x0 2 x2) x0 0 ((f83 x0 (cg (cg s x0 1 x1) x0 2 x2) (1 : Int32)) + x2)).2.1 x0 4))) * (2 : Int32)) < (65536 : Int32) then ((Int32.ofNat (cl (cg (cg (cg s x0 1 x1) x0 2 x2) x0 0 ((f83 x0 (cg (cg s x0 1 x1) x0 2 x2) (1 : Int32)) + x2)) ((cg (cg (cg s x0 1 x1) x0 2 x2) x0 0 ((f83 x0 (cg (cg s x0 1 x1) x0 2 x2) (1 : Int32)) + x2)).2.1 x0 4))) * (2 : Int32)) else (65536 : Int32)) else ((cg (cg (cg s x0 1 x1) x0 2 x2) x0 0 ((f83 x0 (cg (cg s x0 1 x1) x0 2 x2) (1 : Int32)) + x2)).1 x0 0)) then some (cr (cn (cg (cg (cg s x0 1 x1) x0 2 x2) x0 0 ((f83 x0 (cg (cg s x0 1 x1) x0 2 x2) (1 : Int32)) + x2)) 0 (if ((cg (cg (cg s x0 1 x1) x0 2 x2) x0 0 ((f83 x0 (cg (cg s x0 1 x1) x0 2 x2) (1 : Int32)) + x2)).1 x0 0) < (if ((Int32.ofNat (cl (cg (cg (cg s x0 1 x1) x0 2 x2) x0 0 ((f83 x0 (cg (cg s x0 1 x1) x0 2 x2) (1 : Int32)) + x2)) ((cg (cg (cg s x0 1 x1) x0 2 x2) x0 0 ((f83 x0 (cg (cg s x0 1 x1) x0 2 x2) (1 : Int32)) + x2)).2.1 x0 4))) * (2 : Int32)) < (65536 : Int32) then ((Int32.ofNat (cl (cg (cg (cg s x0 1 x1) x0 2 x2) x0 0 ((f83 x0 (cg (cg s x0 1 x1) x0 2 x2) (1 : Int32)) + x2)) ((cg (cg (cg s x0 1 x1) x0 2 x2) x0 0 ((f83 x0 (cg (cg s x0 1 x1) x0 2 x2) (1 : Int32)) + x2)).2.1 x0 4))) * (2 : Int32)) else (65536 : Int32)) then (if ((Int32.ofNat (cl (cg (cg (cg s x0 1 x1) x0 2 x2) x0 0 ((f83 x0 (cg (cg s x0 1 x1) x0 2 x2) (1 : Int32)) + x2)) ((cg (cg (cg s x0 1 x1) x0 2 x2) x0 0 ((f83 x0 (cg (cg s x0 1 x1) x0 2 x2) (1 : Int32)) + x2)).2.1 x0 4))) * (2 : Int32)) < (65536 : Int32) then ((Int32.ofNat (cl (cg (cg (cg s x0 1 x1) x0 2 x2) x0 0 ((f83 x0 (cg (cg s x0 1 x1) x0 2 x2) (1 : Int32)) + x2)) ((cg (cg (cg s x0 1 x1) x0 2 x2) x0 0 ((f83 x0 (cg (cg s x0 1 x1) x0 2 x2) (1 : Int32)) + x2)).2.1 x0 4))) * (2 : Int32)) else (65536 : Int32)) else ((cg (cg (cg s x0 1 x1) x0 2 x2) x0 0 ((f83 x0 (cg (cg s x0 1 x1) x0 2 x2) (1 : Int32)) + x2)).1 x0 0)).toNatClampNeg) x0 4 (42 + (cg (cg (cg s x0 1 x1) x0 2 x2) x0 0 ((f83 x0 (cg (cg s x0 1 x1) x0 2 x2) (1 : Int32)) + x2)).2.2.2)) else none else none) else none
theorem t103 {d : Nat} {Z : Nat → ab_C} (x0 : Nat) (hq : cQ x0) (s : cS) (x1 : Int32) (x2 : Int32) (r : cS) (e : f103 x0 s x1 x2 = some r) : ab_Rn (d + 1) 103 0 (lv_args 0 [.ref x0, .int x1, .int x2]) [] (ch s Z) (.inl none) (ch r Z) := by
  unfold f103 at e
  obtain ⟨l, hl⟩ : ∃ l, l = (lv_args 0 [.ref x0, .int x1, .int x2]) := ⟨_, rfl⟩
  rw [← hl]
  have h0 : ab_get l 0 = some (.ref x0) := by rw [hl]; rfl
  have h1 : ab_get l 1 = some (.int x1) := by rw [hl]; rfl
  have h2 : ab_get l 2 = some (.int x2) := by rw [hl]; rfl
  refine r_aload_n (pc := 0) p103 k103_0 h0 ?_
  refine r_iload_n (pc := 1) p103 k103_1 h1 ?_
  refine c_putI hq (pc := 2) p103 k103_2 rfl ?_
  refine r_aload_n (pc := 5) p103 k103_5 h0 ?_
  refine r_iload_n (pc := 6) p103 k103_6 h2 ?_
  refine c_putI hq (pc := 7) p103 k103_7 rfl ?_
  refine r_aload_n (pc := 10) p103 k103_10 h0 ?_
  refine r_aload_n (pc := 11) p103 k103_11 h0 ?_
  refine r_iconst (pc := 12) p103 k103_12 (v := (1 : Int32)) rfl ?_
  refine c_cvI hq (pc := 13) p103 k103_13 rfl p83 (r := [.ref x0]) rfl rfl rfl rfl rfl (t83 x0 hq (cg (cg s x0 1 x1) x0 2 x2) (1 : Int32) _ rfl) (w := [.int (f83 x0 (cg (cg s x0 1 x1) x0 2 x2) (1 : Int32)), .ref x0]) rfl ?_
  refine r_iload_n (pc := 16) p103 k103_16 h2 ?_
  refine r_iadd (pc := 17) p103 k103_17 ?_
  refine c_putI hq (pc := 18) p103 k103_18 rfl ?_
  refine r_aload_n (pc := 21) p103 k103_21 h0 ?_
  refine c_getI hq (pc := 22) p103 k103_22 (v := .int ((cg (cg (cg s x0 1 x1) x0 2 x2) x0 0 ((f83 x0 (cg (cg s x0 1 x1) x0 2 x2) (1 : Int32)) + x2)).1 x0 0)) rfl ?_
  refine r_aload_n (pc := 25) p103 k103_25 h0 ?_
  refine c_getI hq (pc := 26) p103 k103_26 (v := .ref ((cg (cg (cg s x0 1 x1) x0 2 x2) x0 0 ((f83 x0 (cg (cg s x0 1 x1) x0 2 x2) (1 : Int32)) + x2)).2.1 x0 4)) rfl ?_
  obtain ⟨c, e⟩ := of_if e
  refine c_alen (pc := 29) p103 k103_29 (t := 0) rfl c ?_
  refine r_ic_le (pc := 30) p103 k103_30 (fun c => ?_) (fun c => ?_)
  · have e := (if_pos c).symm.trans e
    refine r_aload_n (pc := 61) p103 k103_61 h0 ?_
    refine c_getI hq (pc := 62) p103 k103_62 (v := .ref ((cg (cg (cg s x0 1 x1) x0 2 x2) x0 0 ((f83 x0 (cg (cg s x0 1 x1) x0 2 x2) (1 : Int32)) + x2)).2.1 x0 4)) rfl ?_
    refine r_iconst (pc := 65) p103 k103_65 (v := (0 : Int32)) rfl ?_
    obtain ⟨r1, er1, e⟩ := of_bind e
    refine r_csv (pc := 66) p103 k103_66 rfl rfl p104 (r := []) rfl rfl rfl rfl (t104 (cg (cg (cg s x0 1 x1) x0 2 x2) x0 0 ((f83 x0 (cg (cg s x0 1 x1) x0 2 x2) (1 : Int32)) + x2)) ((cg (cg (cg s x0 1 x1) x0 2 x2) x0 0 ((f83 x0 (cg (cg s x0 1 x1) x0 2 x2) (1 : Int32)) + x2)).2.1 x0 4) (0 : Int32) r1 er1) (w := []) rfl ?_
    obtain rfl := Option.some.inj e
    exact r_retV (pc := 69) p103 k103_69 rfl
  · have e := (if_neg c).symm.trans e
    refine r_aload_n (pc := 33) p103 k103_33 h0 ?_
    refine r_aload_n (pc := 34) p103 k103_34 h0 ?_
    refine c_getI hq (pc := 35) p103 k103_35 (v := .int ((cg (cg (cg s x0 1 x1) x0 2 x2) x0 0 ((f83 x0 (cg (cg s x0 1 x1) x0 2 x2) (1 : Int32)) + x2)).1 x0 0)) rfl ?_
    refine r_ldcI (pc := 38) p103 k103_38 (v := (65536 : Int32)) rfl ?_
    refine r_aload_n (pc := 40) p103 k103_40 h0 ?_
    refine c_getI hq (pc := 41) p103 k103_41 (v := .ref ((cg (cg (cg s x0 1 x1) x0 2 x2) x0 0 ((f83 x0 (cg (cg s x0 1 x1) x0 2 x2) (1 : Int32)) + x2)).2.1 x0 4)) rfl ?_
    obtain ⟨c, e⟩ := of_if e
    refine c_alen (pc := 44) p103 k103_44 (t := 0) rfl c ?_
    refine r_iconst (pc := 45) p103 k103_45 (v := (2 : Int32)) rfl ?_
    refine r_imul (pc := 46) p103 k103_46 ?_
    refine r_min (pc := 47) p103 k103_47 rfl ?_
    refine r_max (pc := 50) p103 k103_50 rfl ?_
    obtain ⟨c, e⟩ := of_if e
    refine c_newB (pc := 53) p103 k103_53 c ?_
    refine c_putIR hq (pc := 55) p103 k103_55 ?_
    refine r_goto (pc := 58) p103 k103_58 ?_
    obtain rfl := Option.some.inj e
    exact r_retV (pc := 69) p103 k103_69 rfl

theorem p102 : ab_prog[102]? = some (ab_m102, ab_c102) := rfl
theorem k102_0 : ab_fetch ab_c102 0 = some (.aload_n 0, 1, 0, 0) := rfl
theorem k102_1 : ab_fetch ab_c102 1 = some (.iconst 1, 1, 0, 0) := rfl
theorem k102_2 : ab_fetch ab_c102 2 = some (.putfield 43, 3, 0, 5) := rfl
theorem k102_5 : ab_fetch ab_c102 5 = some (.aload_n 0, 1, 0, 0) := rfl
theorem k102_6 : ab_fetch ab_c102 6 = some (.getfield 18, 3, 0, 1) := rfl
theorem k102_9 : ab_fetch ab_c102 9 = some (.aload_n 0, 1, 0, 0) := rfl
theorem k102_10 : ab_fetch ab_c102 10 = some (.getfield 55, 3, 0, 7) := rfl
theorem k102_13 : ab_fetch ab_c102 13 = some (.aload_n 0, 1, 0, 0) := rfl
theorem k102_14 : ab_fetch ab_c102 14 = some (.getfield 58, 3, 0, 8) := rfl
theorem k102_17 : ab_fetch ab_c102 17 = some (.invokevirtual 61, 3, 103, 2) := rfl
theorem k102_20 : ab_fetch ab_c102 20 = some (.aload_n 0, 1, 0, 0) := rfl
theorem k102_21 : ab_fetch ab_c102 21 = some (.getfield 29, 3, 0, 4) := rfl
theorem k102_24 : ab_fetch ab_c102 24 = some (.aload_n 0, 1, 0, 0) := rfl
theorem k102_25 : ab_fetch ab_c102 25 = some (.getfield 55, 3, 0, 7) := rfl
theorem k102_28 : ab_fetch ab_c102 28 = some (.sipush 4096, 3, 0, 0) := rfl
theorem k102_31 : ab_fetch ab_c102 31 = some (.iadd, 1, 0, 0) := rfl
theorem k102_32 : ab_fetch ab_c102 32 = some (.iconst 1, 1, 0, 0) := rfl
theorem k102_33 : ab_fetch ab_c102 33 = some (.isub, 1, 0, 0) := rfl
theorem k102_34 : ab_fetch ab_c102 34 = some (.sipush 4096, 3, 0, 0) := rfl
theorem k102_37 : ab_fetch ab_c102 37 = some (.idiv, 1, 0, 0) := rfl
theorem k102_38 : ab_fetch ab_c102 38 = some (.sipush 4096, 3, 0, 0) := rfl
theorem k102_41 : ab_fetch ab_c102 41 = some (.imul, 1, 0, 0) := rfl
theorem k102_42 : ab_fetch ab_c102 42 = some (.putfield 47, 3, 1, 2) := rfl
theorem k102_45 : ab_fetch ab_c102 45 = some (.aload_n 0, 1, 0, 0) := rfl
theorem k102_46 : ab_fetch ab_c102 46 = some (.invokevirtual 52, 3, 21, 0) := rfl
theorem k102_49 : ab_fetch ab_c102 49 = some (.return_, 1, 0, 0) := rfl
/- CodeSmith$Assembler beginAgain()V -/
def f102 (s : cS) : Option cS := if cQ (s.2.1 16 1) then ((f103 (s.2.1 16 1) (cg s 16 5 (1 : Int32)) (s.1 16 7) (s.1 16 8)).bind fun r1 => some (f21 (cg r1 17 2 (((((r1.1 16 7) + (4096 : Int32)) - (1 : Int32)) / (4096 : Int32)) * (4096 : Int32))))) else none
theorem t102 {d : Nat} {Z : Nat → ab_C} (s : cS) (r : cS) (e : f102 s = some r) : ab_Rn (d + 2) 102 0 (lv_args 0 [.ref 16]) [] (ch s Z) (.inl none) (ch r Z) := by
  unfold f102 at e
  obtain ⟨l, hl⟩ : ∃ l, l = (lv_args 0 [.ref 16]) := ⟨_, rfl⟩
  rw [← hl]
  have h0 : ab_get l 0 = some (.ref 16) := by rw [hl]; rfl
  refine r_aload_n (pc := 0) p102 k102_0 h0 ?_
  refine r_iconst (pc := 1) p102 k102_1 (v := (1 : Int32)) rfl ?_
  refine c_put (i := 16) rfl (pc := 2) p102 k102_2 rfl rfl rfl (cc_g16 _ Z 5 _) (cs16_5 _ _) rfl rfl ?_
  refine r_aload_n (pc := 5) p102 k102_5 h0 ?_
  refine c_get (i := 16) rfl (pc := 6) p102 k102_6 rfl rfl (v := .ref (s.2.1 16 1)) rfl ?_
  refine r_aload_n (pc := 9) p102 k102_9 h0 ?_
  refine c_get (i := 16) rfl (pc := 10) p102 k102_10 rfl rfl (v := .int (s.1 16 7)) rfl ?_
  refine r_aload_n (pc := 13) p102 k102_13 h0 ?_
  refine c_get (i := 16) rfl (pc := 14) p102 k102_14 rfl rfl (v := .int (s.1 16 8)) rfl ?_
  obtain ⟨c, e⟩ := of_if e
  obtain ⟨r1, er1, e⟩ := of_bind e
  refine c_cvI c (pc := 17) p102 k102_17 rfl p103 (r := []) rfl rfl rfl rfl rfl (t103 (s.2.1 16 1) c (cg s 16 5 (1 : Int32)) (s.1 16 7) (s.1 16 8) r1 er1) (w := []) rfl ?_
  refine r_aload_n (pc := 20) p102 k102_20 h0 ?_
  refine c_get (i := 16) rfl (pc := 21) p102 k102_21 rfl rfl (v := .ref 17) rfl ?_
  refine r_aload_n (pc := 24) p102 k102_24 h0 ?_
  refine c_get (i := 16) rfl (pc := 25) p102 k102_25 rfl rfl (v := .int (r1.1 16 7)) rfl ?_
  refine r_sipush (pc := 28) p102 k102_28 (v := (4096 : Int32)) rfl ?_
  refine r_iadd (pc := 31) p102 k102_31 ?_
  refine r_iconst (pc := 32) p102 k102_32 (v := (1 : Int32)) rfl ?_
  refine r_isub (pc := 33) p102 k102_33 ?_
  refine r_sipush (pc := 34) p102 k102_34 (v := (4096 : Int32)) rfl ?_
  refine r_idiv (pc := 37) p102 k102_37 (by decide) ?_
  refine r_sipush (pc := 38) p102 k102_38 (v := (4096 : Int32)) rfl ?_
  refine r_imul (pc := 41) p102 k102_41 ?_
  refine c_put (i := 17) rfl (pc := 42) p102 k102_42 rfl rfl rfl (cc_g17 _ Z 2 _) (cs17_2 _ _) rfl rfl ?_
  refine r_aload_n (pc := 45) p102 k102_45 h0 ?_
  refine c_cv (i := 16) rfl (pc := 46) p102 k102_46 rfl p21 (r := []) rfl rfl rfl rfl rfl rfl (t21 (cg r1 17 2 (((((r1.1 16 7) + (4096 : Int32)) - (1 : Int32)) / (4096 : Int32)) * (4096 : Int32))) _ rfl) (w := []) rfl ?_
  obtain rfl := Option.some.inj e
  exact r_retV (pc := 49) p102 k102_49 rfl

theorem p107 : ab_prog[107]? = some (ab_m107, ab_c107) := rfl
theorem k107_0 : ab_fetch ab_c107 0 = some (.aload_n 0, 1, 0, 0) := rfl
theorem k107_1 : ab_fetch ab_c107 1 = some (.iload_n 1, 1, 0, 0) := rfl
theorem k107_2 : ab_fetch ab_c107 2 = some (.iconst 1, 1, 0, 0) := rfl
theorem k107_3 : ab_fetch ab_c107 3 = some (.iconst 4, 1, 0, 0) := rfl
theorem k107_4 : ab_fetch ab_c107 4 = some (.invokevirtual 46, 3, 84, 3) := rfl
theorem k107_7 : ab_fetch ab_c107 7 = some (.aload_n 0, 1, 0, 0) := rfl
theorem k107_8 : ab_fetch ab_c107 8 = some (.iload_n 1, 1, 0, 0) := rfl
theorem k107_9 : ab_fetch ab_c107 9 = some (.iconst 4, 1, 0, 0) := rfl
theorem k107_10 : ab_fetch ab_c107 10 = some (.iadd, 1, 0, 0) := rfl
theorem k107_11 : ab_fetch ab_c107 11 = some (.iload_n 2, 1, 0, 0) := rfl
theorem k107_12 : ab_fetch ab_c107 12 = some (.iconst 4, 1, 0, 0) := rfl
theorem k107_13 : ab_fetch ab_c107 13 = some (.invokevirtual 46, 3, 84, 3) := rfl
theorem k107_16 : ab_fetch ab_c107 16 = some (.aload_n 0, 1, 0, 0) := rfl
theorem k107_17 : ab_fetch ab_c107 17 = some (.iload_n 1, 1, 0, 0) := rfl
theorem k107_18 : ab_fetch ab_c107 18 = some (.bipush 8, 2, 0, 0) := rfl
theorem k107_20 : ab_fetch ab_c107 20 = some (.iadd, 1, 0, 0) := rfl
theorem k107_21 : ab_fetch ab_c107 21 = some (.iload_n 3, 1, 0, 0) := rfl
theorem k107_22 : ab_fetch ab_c107 22 = some (.iconst 4, 1, 0, 0) := rfl
theorem k107_23 : ab_fetch ab_c107 23 = some (.invokevirtual 46, 3, 84, 3) := rfl
theorem k107_26 : ab_fetch ab_c107 26 = some (.aload_n 0, 1, 0, 0) := rfl
theorem k107_27 : ab_fetch ab_c107 27 = some (.iload_n 1, 1, 0, 0) := rfl
theorem k107_28 : ab_fetch ab_c107 28 = some (.bipush 12, 2, 0, 0) := rfl
theorem k107_30 : ab_fetch ab_c107 30 = some (.iadd, 1, 0, 0) := rfl
theorem k107_31 : ab_fetch ab_c107 31 = some (.iload_n 3, 1, 0, 0) := rfl
theorem k107_32 : ab_fetch ab_c107 32 = some (.iconst 4, 1, 0, 0) := rfl
theorem k107_33 : ab_fetch ab_c107 33 = some (.invokevirtual 46, 3, 84, 3) := rfl
theorem k107_36 : ab_fetch ab_c107 36 = some (.aload_n 0, 1, 0, 0) := rfl
theorem k107_37 : ab_fetch ab_c107 37 = some (.iload_n 1, 1, 0, 0) := rfl
theorem k107_38 : ab_fetch ab_c107 38 = some (.bipush 16, 2, 0, 0) := rfl
theorem k107_40 : ab_fetch ab_c107 40 = some (.iadd, 1, 0, 0) := rfl
theorem k107_41 : ab_fetch ab_c107 41 = some (.iload 4, 2, 0, 0) := rfl
theorem k107_43 : ab_fetch ab_c107 43 = some (.iconst 4, 1, 0, 0) := rfl
theorem k107_44 : ab_fetch ab_c107 44 = some (.invokevirtual 46, 3, 84, 3) := rfl
theorem k107_47 : ab_fetch ab_c107 47 = some (.aload_n 0, 1, 0, 0) := rfl
theorem k107_48 : ab_fetch ab_c107 48 = some (.iload_n 1, 1, 0, 0) := rfl
theorem k107_49 : ab_fetch ab_c107 49 = some (.bipush 20, 2, 0, 0) := rfl
theorem k107_51 : ab_fetch ab_c107 51 = some (.iadd, 1, 0, 0) := rfl
theorem k107_52 : ab_fetch ab_c107 52 = some (.iload 4, 2, 0, 0) := rfl
theorem k107_54 : ab_fetch ab_c107 54 = some (.iconst 4, 1, 0, 0) := rfl
theorem k107_55 : ab_fetch ab_c107 55 = some (.invokevirtual 46, 3, 84, 3) := rfl
theorem k107_58 : ab_fetch ab_c107 58 = some (.aload_n 0, 1, 0, 0) := rfl
theorem k107_59 : ab_fetch ab_c107 59 = some (.iload_n 1, 1, 0, 0) := rfl
theorem k107_60 : ab_fetch ab_c107 60 = some (.bipush 24, 2, 0, 0) := rfl
theorem k107_62 : ab_fetch ab_c107 62 = some (.iadd, 1, 0, 0) := rfl
theorem k107_63 : ab_fetch ab_c107 63 = some (.iload 5, 2, 0, 0) := rfl
theorem k107_65 : ab_fetch ab_c107 65 = some (.iconst 4, 1, 0, 0) := rfl
theorem k107_66 : ab_fetch ab_c107 66 = some (.invokevirtual 46, 3, 84, 3) := rfl
theorem k107_69 : ab_fetch ab_c107 69 = some (.aload_n 0, 1, 0, 0) := rfl
theorem k107_70 : ab_fetch ab_c107 70 = some (.iload_n 1, 1, 0, 0) := rfl
theorem k107_71 : ab_fetch ab_c107 71 = some (.bipush 28, 2, 0, 0) := rfl
theorem k107_73 : ab_fetch ab_c107 73 = some (.iadd, 1, 0, 0) := rfl
theorem k107_74 : ab_fetch ab_c107 74 = some (.sipush 4096, 3, 0, 0) := rfl
theorem k107_77 : ab_fetch ab_c107 77 = some (.iconst 4, 1, 0, 0) := rfl
theorem k107_78 : ab_fetch ab_c107 78 = some (.invokevirtual 46, 3, 84, 3) := rfl
theorem k107_81 : ab_fetch ab_c107 81 = some (.return_, 1, 0, 0) := rfl
/- CodeSmith$Image putPart(IIIII)V -/
def f107 (x0 : Nat) (s : cS) (x1 : Int32) (x2 : Int32) (x3 : Int32) (x4 : Int32) (x5 : Int32) : Option cS := ((f84 x0 s x1 (1 : Int32) (4 : Int32)).bind fun r1 => ((f84 x0 r1 (x1 + (4 : Int32)) x2 (4 : Int32)).bind fun r2 => ((f84 x0 r2 (x1 + (8 : Int32)) x3 (4 : Int32)).bind fun r3 => ((f84 x0 r3 (x1 + (12 : Int32)) x3 (4 : Int32)).bind fun r4 => ((f84 x0 r4 (x1 + (16 : Int32)) x4 (4 : Int32)).bind fun r5 => ((f84 x0 r5 (x1 + (20 : Int32)) x4 (4 : Int32)).bind fun r6 => ((f84 x0 r6 (x1 + (24 : Int32)) x5 (4 : Int32)).bind fun r7 => ((f84 x0 r7 (x1 + (28 : Int32)) (4096 : Int32) (4 : Int32)).bind fun r8 => some r8))))))))
theorem t107 {d : Nat} {Z : Nat → ab_C} (x0 : Nat) (hq : cQ x0) (s : cS) (x1 : Int32) (x2 : Int32) (x3 : Int32) (x4 : Int32) (x5 : Int32) (r : cS) (e : f107 x0 s x1 x2 x3 x4 x5 = some r) : ab_Rn (d + 1) 107 0 (lv_args 0 [.ref x0, .int x1, .int x2, .int x3, .int x4, .int x5]) [] (ch s Z) (.inl none) (ch r Z) := by
  unfold f107 at e
  obtain ⟨l, hl⟩ : ∃ l, l = (lv_args 0 [.ref x0, .int x1, .int x2, .int x3, .int x4, .int x5]) := ⟨_, rfl⟩
  rw [← hl]
  have h0 : ab_get l 0 = some (.ref x0) := by rw [hl]; rfl
  have h1 : ab_get l 1 = some (.int x1) := by rw [hl]; rfl
  have h2 : ab_get l 2 = some (.int x2) := by rw [hl]; rfl
  have h3 : ab_get l 3 = some (.int x3) := by rw [hl]; rfl
  have h4 : ab_get l 4 = some (.int x4) := by rw [hl]; rfl
  have h5 : ab_get l 5 = some (.int x5) := by rw [hl]; rfl
  refine r_aload_n (pc := 0) p107 k107_0 h0 ?_
  refine r_iload_n (pc := 1) p107 k107_1 h1 ?_
  refine r_iconst (pc := 2) p107 k107_2 (v := (1 : Int32)) rfl ?_
  refine r_iconst (pc := 3) p107 k107_3 (v := (4 : Int32)) rfl ?_
  obtain ⟨r1, er1, e⟩ := of_bind e
  refine c_cvI hq (pc := 4) p107 k107_4 rfl p84 (r := []) rfl rfl rfl rfl rfl (t84 x0 hq s x1 (1 : Int32) (4 : Int32) r1 er1) (w := []) rfl ?_
  refine r_aload_n (pc := 7) p107 k107_7 h0 ?_
  refine r_iload_n (pc := 8) p107 k107_8 h1 ?_
  refine r_iconst (pc := 9) p107 k107_9 (v := (4 : Int32)) rfl ?_
  refine r_iadd (pc := 10) p107 k107_10 ?_
  refine r_iload_n (pc := 11) p107 k107_11 h2 ?_
  refine r_iconst (pc := 12) p107 k107_12 (v := (4 : Int32)) rfl ?_
  obtain ⟨r2, er2, e⟩ := of_bind e
  refine c_cvI hq (pc := 13) p107 k107_13 rfl p84 (r := []) rfl rfl rfl rfl rfl (t84 x0 hq r1 (x1 + (4 : Int32)) x2 (4 : Int32) r2 er2) (w := []) rfl ?_
  refine r_aload_n (pc := 16) p107 k107_16 h0 ?_
  refine r_iload_n (pc := 17) p107 k107_17 h1 ?_
  refine r_bipush (pc := 18) p107 k107_18 (v := (8 : Int32)) rfl ?_
  refine r_iadd (pc := 20) p107 k107_20 ?_
  refine r_iload_n (pc := 21) p107 k107_21 h3 ?_
  refine r_iconst (pc := 22) p107 k107_22 (v := (4 : Int32)) rfl ?_
  obtain ⟨r3, er3, e⟩ := of_bind e
  refine c_cvI hq (pc := 23) p107 k107_23 rfl p84 (r := []) rfl rfl rfl rfl rfl (t84 x0 hq r2 (x1 + (8 : Int32)) x3 (4 : Int32) r3 er3) (w := []) rfl ?_
  refine r_aload_n (pc := 26) p107 k107_26 h0 ?_
  refine r_iload_n (pc := 27) p107 k107_27 h1 ?_
  refine r_bipush (pc := 28) p107 k107_28 (v := (12 : Int32)) rfl ?_
  refine r_iadd (pc := 30) p107 k107_30 ?_
  refine r_iload_n (pc := 31) p107 k107_31 h3 ?_
  refine r_iconst (pc := 32) p107 k107_32 (v := (4 : Int32)) rfl ?_
  obtain ⟨r4, er4, e⟩ := of_bind e
  refine c_cvI hq (pc := 33) p107 k107_33 rfl p84 (r := []) rfl rfl rfl rfl rfl (t84 x0 hq r3 (x1 + (12 : Int32)) x3 (4 : Int32) r4 er4) (w := []) rfl ?_
  refine r_aload_n (pc := 36) p107 k107_36 h0 ?_
  refine r_iload_n (pc := 37) p107 k107_37 h1 ?_
  refine r_bipush (pc := 38) p107 k107_38 (v := (16 : Int32)) rfl ?_
  refine r_iadd (pc := 40) p107 k107_40 ?_
  refine r_iload (pc := 41) p107 k107_41 h4 ?_
  refine r_iconst (pc := 43) p107 k107_43 (v := (4 : Int32)) rfl ?_
  obtain ⟨r5, er5, e⟩ := of_bind e
  refine c_cvI hq (pc := 44) p107 k107_44 rfl p84 (r := []) rfl rfl rfl rfl rfl (t84 x0 hq r4 (x1 + (16 : Int32)) x4 (4 : Int32) r5 er5) (w := []) rfl ?_
  refine r_aload_n (pc := 47) p107 k107_47 h0 ?_
  refine r_iload_n (pc := 48) p107 k107_48 h1 ?_
  refine r_bipush (pc := 49) p107 k107_49 (v := (20 : Int32)) rfl ?_
  refine r_iadd (pc := 51) p107 k107_51 ?_
  refine r_iload (pc := 52) p107 k107_52 h4 ?_
  refine r_iconst (pc := 54) p107 k107_54 (v := (4 : Int32)) rfl ?_
  obtain ⟨r6, er6, e⟩ := of_bind e
  refine c_cvI hq (pc := 55) p107 k107_55 rfl p84 (r := []) rfl rfl rfl rfl rfl (t84 x0 hq r5 (x1 + (20 : Int32)) x4 (4 : Int32) r6 er6) (w := []) rfl ?_
  refine r_aload_n (pc := 58) p107 k107_58 h0 ?_
  refine r_iload_n (pc := 59) p107 k107_59 h1 ?_
  refine r_bipush (pc := 60) p107 k107_60 (v := (24 : Int32)) rfl ?_
  refine r_iadd (pc := 62) p107 k107_62 ?_
  refine r_iload (pc := 63) p107 k107_63 h5 ?_
  refine r_iconst (pc := 65) p107 k107_65 (v := (4 : Int32)) rfl ?_
  obtain ⟨r7, er7, e⟩ := of_bind e
  refine c_cvI hq (pc := 66) p107 k107_66 rfl p84 (r := []) rfl rfl rfl rfl rfl (t84 x0 hq r6 (x1 + (24 : Int32)) x5 (4 : Int32) r7 er7) (w := []) rfl ?_
  refine r_aload_n (pc := 69) p107 k107_69 h0 ?_
  refine r_iload_n (pc := 70) p107 k107_70 h1 ?_
  refine r_bipush (pc := 71) p107 k107_71 (v := (28 : Int32)) rfl ?_
  refine r_iadd (pc := 73) p107 k107_73 ?_
  refine r_sipush (pc := 74) p107 k107_74 (v := (4096 : Int32)) rfl ?_
  refine r_iconst (pc := 77) p107 k107_77 (v := (4 : Int32)) rfl ?_
  obtain ⟨r8, er8, e⟩ := of_bind e
  refine c_cvI hq (pc := 78) p107 k107_78 rfl p84 (r := []) rfl rfl rfl rfl rfl (t84 x0 hq r7 (x1 + (28 : Int32)) (4096 : Int32) (4 : Int32) r8 er8) (w := []) rfl ?_
  obtain rfl := Option.some.inj e
  exact r_retV (pc := 81) p107 k107_81 rfl
