theorem p79 : ab_prog[79]? = some (ab_m79, ab_c79) := rfl
theorem k79_0 : ab_fetch ab_c79 0 = some (.iload_n 0, 1, 0, 0) := rfl
theorem k79_1 : ab_fetch ab_c79 1 = some (.lookupswitch 104 #[(37, 91), (38, 98), (42, 91), (43, 94), (45, 94), (47, 91), (60, 96), (62, 96), (94, 100), (124, 102)], 91, 0, 0) := rfl
theorem k79_92 : ab_fetch ab_c79 92 = some (.bipush 6, 2, 0, 0) := rfl
theorem k79_94 : ab_fetch ab_c79 94 = some (.ireturn, 1, 0, 0) := rfl
theorem k79_95 : ab_fetch ab_c79 95 = some (.iconst 5, 1, 0, 0) := rfl
theorem k79_96 : ab_fetch ab_c79 96 = some (.ireturn, 1, 0, 0) := rfl
theorem k79_97 : ab_fetch ab_c79 97 = some (.iconst 4, 1, 0, 0) := rfl
theorem k79_98 : ab_fetch ab_c79 98 = some (.ireturn, 1, 0, 0) := rfl
theorem k79_99 : ab_fetch ab_c79 99 = some (.iconst 3, 1, 0, 0) := rfl
theorem k79_100 : ab_fetch ab_c79 100 = some (.ireturn, 1, 0, 0) := rfl
theorem k79_101 : ab_fetch ab_c79 101 = some (.iconst 2, 1, 0, 0) := rfl
theorem k79_102 : ab_fetch ab_c79 102 = some (.ireturn, 1, 0, 0) := rfl
theorem k79_103 : ab_fetch ab_c79 103 = some (.iconst 1, 1, 0, 0) := rfl
theorem k79_104 : ab_fetch ab_c79 104 = some (.ireturn, 1, 0, 0) := rfl
theorem k79_105 : ab_fetch ab_c79 105 = some (.iconst 0, 1, 0, 0) := rfl
theorem k79_106 : ab_fetch ab_c79 106 = some (.ireturn, 1, 0, 0) := rfl
/- CodeSmith$Calculator levelOf(I)I -/
def f79 (x0 : Int32) : Int32 := (if x0 = 37 then (6 : Int32) else if x0 = 38 then (3 : Int32) else if x0 = 42 then (6 : Int32) else if x0 = 43 then (5 : Int32) else if x0 = 45 then (5 : Int32) else if x0 = 47 then (6 : Int32) else if x0 = 60 then (4 : Int32) else if x0 = 62 then (4 : Int32) else if x0 = 94 then (2 : Int32) else if x0 = 124 then (1 : Int32) else (0 : Int32))
theorem t79 {d : Nat} {h : ab_H} (x0 : Int32) (r : Int32) (e : f79 x0 = r) : ab_Rn d 79 0 (lv_args 0 [.int x0]) [] h (.inl (some (.int r))) h := by
  unfold f79 at e
  obtain ⟨l, hl⟩ : ∃ l, l = (lv_args 0 [.int x0]) := ⟨_, rfl⟩
  rw [← hl]
  have h0 : ab_get l 0 = some (.int x0) := by rw [hl]; rfl
  refine r_iload_n (pc := 0) p79 k79_0 h0 ?_
  by_cases c0 : x0 = 37
  · have e := (if_pos c0).symm.trans e
    refine r_sw (t := 92) (st' := []) (pc := 1) p79 k79_1 rfl rfl rfl (by rw [c0]; rfl) ?_
    refine r_bipush (pc := 92) p79 k79_92 (v := (6 : Int32)) rfl ?_
    subst e
    exact r_retI (pc := 94) p79 k79_94 rfl
  have e := (if_neg c0).symm.trans e
  by_cases c1 : x0 = 38
  · have e := (if_pos c1).symm.trans e
    refine r_sw (t := 99) (st' := []) (pc := 1) p79 k79_1 rfl rfl rfl (by rw [c1]; rfl) ?_
    refine r_iconst (pc := 99) p79 k79_99 (v := (3 : Int32)) rfl ?_
    subst e
    exact r_retI (pc := 100) p79 k79_100 rfl
  have e := (if_neg c1).symm.trans e
  by_cases c2 : x0 = 42
  · have e := (if_pos c2).symm.trans e
    refine r_sw (t := 92) (st' := []) (pc := 1) p79 k79_1 rfl rfl rfl (by rw [c2]; rfl) ?_
    refine r_bipush (pc := 92) p79 k79_92 (v := (6 : Int32)) rfl ?_
    subst e
    exact r_retI (pc := 94) p79 k79_94 rfl
  have e := (if_neg c2).symm.trans e
  by_cases c3 : x0 = 43
  · have e := (if_pos c3).symm.trans e
    refine r_sw (t := 95) (st' := []) (pc := 1) p79 k79_1 rfl rfl rfl (by rw [c3]; rfl) ?_
    refine r_iconst (pc := 95) p79 k79_95 (v := (5 : Int32)) rfl ?_
    subst e
    exact r_retI (pc := 96) p79 k79_96 rfl
  have e := (if_neg c3).symm.trans e
  by_cases c4 : x0 = 45
  · have e := (if_pos c4).symm.trans e
    refine r_sw (t := 95) (st' := []) (pc := 1) p79 k79_1 rfl rfl rfl (by rw [c4]; rfl) ?_
    refine r_iconst (pc := 95) p79 k79_95 (v := (5 : Int32)) rfl ?_
    subst e
    exact r_retI (pc := 96) p79 k79_96 rfl
  have e := (if_neg c4).symm.trans e
  by_cases c5 : x0 = 47
  · have e := (if_pos c5).symm.trans e
    refine r_sw (t := 92) (st' := []) (pc := 1) p79 k79_1 rfl rfl rfl (by rw [c5]; rfl) ?_
    refine r_bipush (pc := 92) p79 k79_92 (v := (6 : Int32)) rfl ?_
    subst e
    exact r_retI (pc := 94) p79 k79_94 rfl
  have e := (if_neg c5).symm.trans e
  by_cases c6 : x0 = 60
  · have e := (if_pos c6).symm.trans e
    refine r_sw (t := 97) (st' := []) (pc := 1) p79 k79_1 rfl rfl rfl (by rw [c6]; rfl) ?_
    refine r_iconst (pc := 97) p79 k79_97 (v := (4 : Int32)) rfl ?_
    subst e
    exact r_retI (pc := 98) p79 k79_98 rfl
  have e := (if_neg c6).symm.trans e
  by_cases c7 : x0 = 62
  · have e := (if_pos c7).symm.trans e
    refine r_sw (t := 97) (st' := []) (pc := 1) p79 k79_1 rfl rfl rfl (by rw [c7]; rfl) ?_
    refine r_iconst (pc := 97) p79 k79_97 (v := (4 : Int32)) rfl ?_
    subst e
    exact r_retI (pc := 98) p79 k79_98 rfl
  have e := (if_neg c7).symm.trans e
  by_cases c8 : x0 = 94
  · have e := (if_pos c8).symm.trans e
    refine r_sw (t := 101) (st' := []) (pc := 1) p79 k79_1 rfl rfl rfl (by rw [c8]; rfl) ?_
    refine r_iconst (pc := 101) p79 k79_101 (v := (2 : Int32)) rfl ?_
    subst e
    exact r_retI (pc := 102) p79 k79_102 rfl
  have e := (if_neg c8).symm.trans e
  by_cases c9 : x0 = 124
  · have e := (if_pos c9).symm.trans e
    refine r_sw (t := 103) (st' := []) (pc := 1) p79 k79_1 rfl rfl rfl (by rw [c9]; rfl) ?_
    refine r_iconst (pc := 103) p79 k79_103 (v := (1 : Int32)) rfl ?_
    subst e
    exact r_retI (pc := 104) p79 k79_104 rfl
  have e := (if_neg c9).symm.trans e
  refine r_lswd (T := 105) (pc := 1) p79 k79_1 (by decide) (by decide) (by decide) (by
      intro q hq
      simp only [List.mem_cons, List.not_mem_nil, or_false] at hq
      rcases hq with rfl | rfl | rfl | rfl | rfl | rfl | rfl | rfl | rfl | rfl
      · exact fun hh => c0 (Int32.toInt_inj.mp hh.symm)
      · exact fun hh => c1 (Int32.toInt_inj.mp hh.symm)
      · exact fun hh => c2 (Int32.toInt_inj.mp hh.symm)
      · exact fun hh => c3 (Int32.toInt_inj.mp hh.symm)
      · exact fun hh => c4 (Int32.toInt_inj.mp hh.symm)
      · exact fun hh => c5 (Int32.toInt_inj.mp hh.symm)
      · exact fun hh => c6 (Int32.toInt_inj.mp hh.symm)
      · exact fun hh => c7 (Int32.toInt_inj.mp hh.symm)
      · exact fun hh => c8 (Int32.toInt_inj.mp hh.symm)
      · exact fun hh => c9 (Int32.toInt_inj.mp hh.symm)) ?_
  refine r_iconst (pc := 105) p79 k79_105 (v := (0 : Int32)) rfl ?_
  subst e
  exact r_retI (pc := 106) p79 k79_106 rfl

theorem p81 : ab_prog[81]? = some (ab_m81, ab_c81) := rfl
theorem k81_0 : ab_fetch ab_c81 0 = some (.aload_n 0, 1, 0, 0) := rfl
theorem k81_1 : ab_fetch ab_c81 1 = some (.iconst 0, 1, 0, 0) := rfl
theorem k81_2 : ab_fetch ab_c81 2 = some (.putfield 99, 3, 1, 3) := rfl
theorem k81_5 : ab_fetch ab_c81 5 = some (.aload_n 0, 1, 0, 0) := rfl
theorem k81_6 : ab_fetch ab_c81 6 = some (.getfield 103, 3, 1, 0) := rfl
theorem k81_9 : ab_fetch ab_c81 9 = some (.ifCond .ne 12, 3, 21, 0) := rfl
theorem k81_12 : ab_fetch ab_c81 12 = some (.aload_n 0, 1, 0, 0) := rfl
theorem k81_13 : ab_fetch ab_c81 13 = some (.getfield 9, 3, 1, 4) := rfl
theorem k81_16 : ab_fetch ab_c81 16 = some (.iload_n 1, 1, 0, 0) := rfl
theorem k81_17 : ab_fetch ab_c81 17 = some (.iconst 5, 1, 0, 0) := rfl
theorem k81_18 : ab_fetch ab_c81 18 = some (.invokevirtual 75, 3, 46, 2) := rfl
theorem k81_21 : ab_fetch ab_c81 21 = some (.aload_n 0, 1, 0, 0) := rfl
theorem k81_22 : ab_fetch ab_c81 22 = some (.getfield 103, 3, 1, 0) := rfl
theorem k81_25 : ab_fetch ab_c81 25 = some (.iconst 2, 1, 0, 0) := rfl
theorem k81_26 : ab_fetch ab_c81 26 = some (.if_icmp .ne 13, 3, 39, 0) := rfl
theorem k81_29 : ab_fetch ab_c81 29 = some (.aload_n 0, 1, 0, 0) := rfl
theorem k81_30 : ab_fetch ab_c81 30 = some (.getfield 9, 3, 1, 4) := rfl
theorem k81_33 : ab_fetch ab_c81 33 = some (.iload_n 1, 1, 0, 0) := rfl
theorem k81_34 : ab_fetch ab_c81 34 = some (.bipush 9, 2, 0, 0) := rfl
theorem k81_36 : ab_fetch ab_c81 36 = some (.invokevirtual 75, 3, 46, 2) := rfl
theorem k81_39 : ab_fetch ab_c81 39 = some (.iconst 0, 1, 0, 0) := rfl
theorem k81_40 : ab_fetch ab_c81 40 = some (.ireturn, 1, 0, 0) := rfl
/- CodeSmith$Calculator dividedByZero(I)I -/
def f81 (s : cS) (x1 : Int32) : Option ((Int32 × cS) ⊕ cS) := (if (s.1 17 0) = 0 then some (.inr (f46 (cg s 17 3 (0 : Int32)) x1 (5 : Int32))) else (if (s.1 17 0) = (2 : Int32) then some (.inr (f46 (cg s 17 3 (0 : Int32)) x1 (9 : Int32))) else some (.inl ((0 : Int32), (cg s 17 3 (0 : Int32))))))
theorem t81 {d : Nat} {Z : Nat → ab_C} (s : cS) (x1 : Int32) (r : (Int32 × cS) ⊕ cS) (e : f81 s x1 = some r) : ab_Rn (d + 1) 81 0 (lv_args 0 [.ref 17, .int x1]) [] (ch s Z) (oI r) (ch (zI r) Z) := by
  unfold f81 at e
  obtain ⟨l, hl⟩ : ∃ l, l = (lv_args 0 [.ref 17, .int x1]) := ⟨_, rfl⟩
  rw [← hl]
  have h0 : ab_get l 0 = some (.ref 17) := by rw [hl]; rfl
  have h1 : ab_get l 1 = some (.int x1) := by rw [hl]; rfl
  refine r_aload_n (pc := 0) p81 k81_0 h0 ?_
  refine r_iconst (pc := 1) p81 k81_1 (v := (0 : Int32)) rfl ?_
  refine c_put (i := 17) rfl (pc := 2) p81 k81_2 rfl rfl rfl (cc_g17 _ Z 3 _) (cs17_3 _ _) rfl rfl ?_
  refine r_aload_n (pc := 5) p81 k81_5 h0 ?_
  refine c_get (i := 17) rfl (pc := 6) p81 k81_6 rfl rfl (v := .int (s.1 17 0)) rfl ?_
  refine r_if_ne (pc := 9) p81 k81_9 (fun c => ?_) (fun c => ?_)
  · have e := (if_neg c).symm.trans e
    refine r_aload_n (pc := 21) p81 k81_21 h0 ?_
    refine c_get (i := 17) rfl (pc := 22) p81 k81_22 rfl rfl (v := .int (s.1 17 0)) rfl ?_
    refine r_iconst (pc := 25) p81 k81_25 (v := (2 : Int32)) rfl ?_
    refine r_ic_ne (pc := 26) p81 k81_26 (fun c => ?_) (fun c => ?_)
    · have e := (if_neg c).symm.trans e
      refine r_iconst (pc := 39) p81 k81_39 (v := (0 : Int32)) rfl ?_
      obtain rfl := Option.some.inj e
      exact r_retI (pc := 40) p81 k81_40 rfl
    · have e := (if_pos c).symm.trans e
      refine r_aload_n (pc := 29) p81 k81_29 h0 ?_
      refine c_get (i := 17) rfl (pc := 30) p81 k81_30 rfl rfl (v := .ref 11) rfl ?_
      refine r_iload_n (pc := 33) p81 k81_33 h1 ?_
      refine r_bipush (pc := 34) p81 k81_34 (v := (9 : Int32)) rfl ?_
      cases e
      exact c_cvx (i := 11) rfl (pc := 36) p81 k81_36 rfl p46 (r := []) rfl rfl rfl rfl rfl rfl (t46 (cg s 17 3 (0 : Int32)) x1 (9 : Int32) _ rfl)
  · have e := (if_pos c).symm.trans e
    refine r_aload_n (pc := 12) p81 k81_12 h0 ?_
    refine c_get (i := 17) rfl (pc := 13) p81 k81_13 rfl rfl (v := .ref 11) rfl ?_
    refine r_iload_n (pc := 16) p81 k81_16 h1 ?_
    refine r_iconst (pc := 17) p81 k81_17 (v := (5 : Int32)) rfl ?_
    cases e
    exact c_cvx (i := 11) rfl (pc := 18) p81 k81_18 rfl p46 (r := []) rfl rfl rfl rfl rfl rfl (t46 (cg s 17 3 (0 : Int32)) x1 (5 : Int32) _ rfl)

theorem p80 : ab_prog[80]? = some (ab_m80, ab_c80) := rfl
theorem k80_0 : ab_fetch ab_c80 0 = some (.iload_n 1, 1, 0, 0) := rfl
theorem k80_1 : ab_fetch ab_c80 1 = some (.lookupswitch 113 #[(38, 101), (42, 75), (43, 79), (45, 83), (60, 87), (62, 94), (94, 105), (124, 109)], 75, 0, 0) := rfl
theorem k80_76 : ab_fetch ab_c80 76 = some (.iload_n 2, 1, 0, 0) := rfl
theorem k80_77 : ab_fetch ab_c80 77 = some (.iload_n 3, 1, 0, 0) := rfl
theorem k80_78 : ab_fetch ab_c80 78 = some (.imul, 1, 0, 0) := rfl
theorem k80_79 : ab_fetch ab_c80 79 = some (.ireturn, 1, 0, 0) := rfl
theorem k80_80 : ab_fetch ab_c80 80 = some (.iload_n 2, 1, 0, 0) := rfl
theorem k80_81 : ab_fetch ab_c80 81 = some (.iload_n 3, 1, 0, 0) := rfl
theorem k80_82 : ab_fetch ab_c80 82 = some (.iadd, 1, 0, 0) := rfl
theorem k80_83 : ab_fetch ab_c80 83 = some (.ireturn, 1, 0, 0) := rfl
theorem k80_84 : ab_fetch ab_c80 84 = some (.iload_n 2, 1, 0, 0) := rfl
theorem k80_85 : ab_fetch ab_c80 85 = some (.iload_n 3, 1, 0, 0) := rfl
theorem k80_86 : ab_fetch ab_c80 86 = some (.isub, 1, 0, 0) := rfl
theorem k80_87 : ab_fetch ab_c80 87 = some (.ireturn, 1, 0, 0) := rfl
theorem k80_88 : ab_fetch ab_c80 88 = some (.iload_n 2, 1, 0, 0) := rfl
theorem k80_89 : ab_fetch ab_c80 89 = some (.iload_n 3, 1, 0, 0) := rfl
theorem k80_90 : ab_fetch ab_c80 90 = some (.bipush 31, 2, 0, 0) := rfl
theorem k80_92 : ab_fetch ab_c80 92 = some (.iand, 1, 0, 0) := rfl
theorem k80_93 : ab_fetch ab_c80 93 = some (.ishl, 1, 0, 0) := rfl
theorem k80_94 : ab_fetch ab_c80 94 = some (.ireturn, 1, 0, 0) := rfl
theorem k80_95 : ab_fetch ab_c80 95 = some (.iload_n 2, 1, 0, 0) := rfl
theorem k80_96 : ab_fetch ab_c80 96 = some (.iload_n 3, 1, 0, 0) := rfl
theorem k80_97 : ab_fetch ab_c80 97 = some (.bipush 31, 2, 0, 0) := rfl
theorem k80_99 : ab_fetch ab_c80 99 = some (.iand, 1, 0, 0) := rfl
theorem k80_100 : ab_fetch ab_c80 100 = some (.ishr, 1, 0, 0) := rfl
theorem k80_101 : ab_fetch ab_c80 101 = some (.ireturn, 1, 0, 0) := rfl
theorem k80_102 : ab_fetch ab_c80 102 = some (.iload_n 2, 1, 0, 0) := rfl
theorem k80_103 : ab_fetch ab_c80 103 = some (.iload_n 3, 1, 0, 0) := rfl
theorem k80_104 : ab_fetch ab_c80 104 = some (.iand, 1, 0, 0) := rfl
theorem k80_105 : ab_fetch ab_c80 105 = some (.ireturn, 1, 0, 0) := rfl
theorem k80_106 : ab_fetch ab_c80 106 = some (.iload_n 2, 1, 0, 0) := rfl
theorem k80_107 : ab_fetch ab_c80 107 = some (.iload_n 3, 1, 0, 0) := rfl
theorem k80_108 : ab_fetch ab_c80 108 = some (.ixor, 1, 0, 0) := rfl
theorem k80_109 : ab_fetch ab_c80 109 = some (.ireturn, 1, 0, 0) := rfl
theorem k80_110 : ab_fetch ab_c80 110 = some (.iload_n 2, 1, 0, 0) := rfl
theorem k80_111 : ab_fetch ab_c80 111 = some (.iload_n 3, 1, 0, 0) := rfl
theorem k80_112 : ab_fetch ab_c80 112 = some (.ior, 1, 0, 0) := rfl
theorem k80_113 : ab_fetch ab_c80 113 = some (.ireturn, 1, 0, 0) := rfl
theorem k80_114 : ab_fetch ab_c80 114 = some (.iload_n 3, 1, 0, 0) := rfl
theorem k80_115 : ab_fetch ab_c80 115 = some (.ifCond .ne 10, 3, 125, 0) := rfl
theorem k80_118 : ab_fetch ab_c80 118 = some (.aload_n 0, 1, 0, 0) := rfl
theorem k80_119 : ab_fetch ab_c80 119 = some (.iload 4, 2, 0, 0) := rfl
theorem k80_121 : ab_fetch ab_c80 121 = some (.invokevirtual 115, 3, 81, 1) := rfl
theorem k80_124 : ab_fetch ab_c80 124 = some (.ireturn, 1, 0, 0) := rfl
theorem k80_125 : ab_fetch ab_c80 125 = some (.iload_n 1, 1, 0, 0) := rfl
theorem k80_126 : ab_fetch ab_c80 126 = some (.bipush 47, 2, 0, 0) := rfl
theorem k80_128 : ab_fetch ab_c80 128 = some (.if_icmp .ne 9, 3, 137, 0) := rfl
theorem k80_131 : ab_fetch ab_c80 131 = some (.iload_n 2, 1, 0, 0) := rfl
theorem k80_132 : ab_fetch ab_c80 132 = some (.iload_n 3, 1, 0, 0) := rfl
theorem k80_133 : ab_fetch ab_c80 133 = some (.idiv, 1, 0, 0) := rfl
theorem k80_134 : ab_fetch ab_c80 134 = some (.goto 6, 3, 140, 0) := rfl
theorem k80_137 : ab_fetch ab_c80 137 = some (.iload_n 2, 1, 0, 0) := rfl
theorem k80_138 : ab_fetch ab_c80 138 = some (.iload_n 3, 1, 0, 0) := rfl
theorem k80_139 : ab_fetch ab_c80 139 = some (.irem, 1, 0, 0) := rfl
theorem k80_140 : ab_fetch ab_c80 140 = some (.ireturn, 1, 0, 0) := rfl
/- CodeSmith$Calculator joined(IIII)I -/
def f80 (s : cS) (x1 : Int32) (x2 : Int32) (x3 : Int32) (x4 : Int32) : Option ((Int32 × cS) ⊕ cS) := (if x1 = 38 then some (.inl ((x2 &&& x3), s)) else if x1 = 42 then some (.inl ((x2 * x3), s)) else if x1 = 43 then some (.inl ((x2 + x3), s)) else if x1 = 45 then some (.inl ((x2 - x3), s)) else if x1 = 60 then some (.inl ((x2 <<< ((x3 &&& (31 : Int32)) &&& 31)), s)) else if x1 = 62 then some (.inl ((x2 >>> ((x3 &&& (31 : Int32)) &&& 31)), s)) else if x1 = 94 then some (.inl ((x2 ^^^ x3), s)) else if x1 = 124 then some (.inl ((x2 ||| x3), s)) else (if x3 = 0 then (tb (f81 s x4) fun r1 => some (.inl (r1.1, r1.2))) else (if x1 = (47 : Int32) then if ¬ x3 = 0 then some (.inl ((x2 / x3), s)) else none else if ¬ x3 = 0 then some (.inl ((x2 - x2 / x3 * x3), s)) else none)))
theorem t80 {d : Nat} {Z : Nat → ab_C} (s : cS) (x1 : Int32) (x2 : Int32) (x3 : Int32) (x4 : Int32) (r : (Int32 × cS) ⊕ cS) (e : f80 s x1 x2 x3 x4 = some r) : ab_Rn (d + 2) 80 0 (lv_args 0 [.ref 17, .int x1, .int x2, .int x3, .int x4]) [] (ch s Z) (oI r) (ch (zI r) Z) := by
  unfold f80 at e
  obtain ⟨l, hl⟩ : ∃ l, l = (lv_args 0 [.ref 17, .int x1, .int x2, .int x3, .int x4]) := ⟨_, rfl⟩
  rw [← hl]
  have h0 : ab_get l 0 = some (.ref 17) := by rw [hl]; rfl
  have h1 : ab_get l 1 = some (.int x1) := by rw [hl]; rfl
  have h2 : ab_get l 2 = some (.int x2) := by rw [hl]; rfl
  have h3 : ab_get l 3 = some (.int x3) := by rw [hl]; rfl
  have h4 : ab_get l 4 = some (.int x4) := by rw [hl]; rfl
  refine r_iload_n (pc := 0) p80 k80_0 h1 ?_
  by_cases c0 : x1 = 38
  · have e := (if_pos c0).symm.trans e
    refine r_sw (t := 102) (st' := []) (pc := 1) p80 k80_1 rfl rfl rfl (by rw [c0]; rfl) ?_
    refine r_iload_n (pc := 102) p80 k80_102 h2 ?_
    refine r_iload_n (pc := 103) p80 k80_103 h3 ?_
    refine r_iand (pc := 104) p80 k80_104 ?_
    obtain rfl := Option.some.inj e
    exact r_retI (pc := 105) p80 k80_105 rfl
  have e := (if_neg c0).symm.trans e
  by_cases c1 : x1 = 42
  · have e := (if_pos c1).symm.trans e
    refine r_sw (t := 76) (st' := []) (pc := 1) p80 k80_1 rfl rfl rfl (by rw [c1]; rfl) ?_
    refine r_iload_n (pc := 76) p80 k80_76 h2 ?_
    refine r_iload_n (pc := 77) p80 k80_77 h3 ?_
    refine r_imul (pc := 78) p80 k80_78 ?_
    obtain rfl := Option.some.inj e
    exact r_retI (pc := 79) p80 k80_79 rfl
  have e := (if_neg c1).symm.trans e
  by_cases c2 : x1 = 43
  · have e := (if_pos c2).symm.trans e
    refine r_sw (t := 80) (st' := []) (pc := 1) p80 k80_1 rfl rfl rfl (by rw [c2]; rfl) ?_
    refine r_iload_n (pc := 80) p80 k80_80 h2 ?_
    refine r_iload_n (pc := 81) p80 k80_81 h3 ?_
    refine r_iadd (pc := 82) p80 k80_82 ?_
    obtain rfl := Option.some.inj e
    exact r_retI (pc := 83) p80 k80_83 rfl
  have e := (if_neg c2).symm.trans e
  by_cases c3 : x1 = 45
  · have e := (if_pos c3).symm.trans e
    refine r_sw (t := 84) (st' := []) (pc := 1) p80 k80_1 rfl rfl rfl (by rw [c3]; rfl) ?_
    refine r_iload_n (pc := 84) p80 k80_84 h2 ?_
    refine r_iload_n (pc := 85) p80 k80_85 h3 ?_
    refine r_isub (pc := 86) p80 k80_86 ?_
    obtain rfl := Option.some.inj e
    exact r_retI (pc := 87) p80 k80_87 rfl
  have e := (if_neg c3).symm.trans e
  by_cases c4 : x1 = 60
  · have e := (if_pos c4).symm.trans e
    refine r_sw (t := 88) (st' := []) (pc := 1) p80 k80_1 rfl rfl rfl (by rw [c4]; rfl) ?_
    refine r_iload_n (pc := 88) p80 k80_88 h2 ?_
    refine r_iload_n (pc := 89) p80 k80_89 h3 ?_
    refine r_bipush (pc := 90) p80 k80_90 (v := (31 : Int32)) rfl ?_
    refine r_iand (pc := 92) p80 k80_92 ?_
    refine r_ishl (pc := 93) p80 k80_93 ?_
    obtain rfl := Option.some.inj e
    exact r_retI (pc := 94) p80 k80_94 rfl
  have e := (if_neg c4).symm.trans e
  by_cases c5 : x1 = 62
  · have e := (if_pos c5).symm.trans e
    refine r_sw (t := 95) (st' := []) (pc := 1) p80 k80_1 rfl rfl rfl (by rw [c5]; rfl) ?_
    refine r_iload_n (pc := 95) p80 k80_95 h2 ?_
    refine r_iload_n (pc := 96) p80 k80_96 h3 ?_
    refine r_bipush (pc := 97) p80 k80_97 (v := (31 : Int32)) rfl ?_
    refine r_iand (pc := 99) p80 k80_99 ?_
    refine r_ishr (pc := 100) p80 k80_100 ?_
    obtain rfl := Option.some.inj e
    exact r_retI (pc := 101) p80 k80_101 rfl
  have e := (if_neg c5).symm.trans e
  by_cases c6 : x1 = 94
  · have e := (if_pos c6).symm.trans e
    refine r_sw (t := 106) (st' := []) (pc := 1) p80 k80_1 rfl rfl rfl (by rw [c6]; rfl) ?_
    refine r_iload_n (pc := 106) p80 k80_106 h2 ?_
    refine r_iload_n (pc := 107) p80 k80_107 h3 ?_
    refine r_ixor (pc := 108) p80 k80_108 ?_
    obtain rfl := Option.some.inj e
    exact r_retI (pc := 109) p80 k80_109 rfl
  have e := (if_neg c6).symm.trans e
  by_cases c7 : x1 = 124
  · have e := (if_pos c7).symm.trans e
    refine r_sw (t := 110) (st' := []) (pc := 1) p80 k80_1 rfl rfl rfl (by rw [c7]; rfl) ?_
    refine r_iload_n (pc := 110) p80 k80_110 h2 ?_
    refine r_iload_n (pc := 111) p80 k80_111 h3 ?_
    refine r_ior (pc := 112) p80 k80_112 ?_
    obtain rfl := Option.some.inj e
    exact r_retI (pc := 113) p80 k80_113 rfl
  have e := (if_neg c7).symm.trans e
  refine r_lswd (T := 114) (pc := 1) p80 k80_1 (by decide) (by decide) (by decide) (by
      intro q hq
      simp only [List.mem_cons, List.not_mem_nil, or_false] at hq
      rcases hq with rfl | rfl | rfl | rfl | rfl | rfl | rfl | rfl
      · exact fun hh => c0 (Int32.toInt_inj.mp hh.symm)
      · exact fun hh => c1 (Int32.toInt_inj.mp hh.symm)
      · exact fun hh => c2 (Int32.toInt_inj.mp hh.symm)
      · exact fun hh => c3 (Int32.toInt_inj.mp hh.symm)
      · exact fun hh => c4 (Int32.toInt_inj.mp hh.symm)
      · exact fun hh => c5 (Int32.toInt_inj.mp hh.symm)
      · exact fun hh => c6 (Int32.toInt_inj.mp hh.symm)
      · exact fun hh => c7 (Int32.toInt_inj.mp hh.symm)) ?_
  refine r_iload_n (pc := 114) p80 k80_114 h3 ?_
  refine r_if_ne (pc := 115) p80 k80_115 (fun c => ?_) (fun c => ?_)
  · have e := (if_neg c).symm.trans e
    refine r_iload_n (pc := 125) p80 k80_125 h1 ?_
    refine r_bipush (pc := 126) p80 k80_126 (v := (47 : Int32)) rfl ?_
    refine r_ic_ne (pc := 128) p80 k80_128 (fun c => ?_) (fun c => ?_)
    · have e := (if_neg c).symm.trans e
      refine r_iload_n (pc := 137) p80 k80_137 h2 ?_
      refine r_iload_n (pc := 138) p80 k80_138 h3 ?_
      obtain ⟨c, e⟩ := of_if e
      refine r_irem (pc := 139) p80 k80_139 c ?_
      obtain rfl := Option.some.inj e
      exact r_retI (pc := 140) p80 k80_140 rfl
    · have e := (if_pos c).symm.trans e
      refine r_iload_n (pc := 131) p80 k80_131 h2 ?_
      refine r_iload_n (pc := 132) p80 k80_132 h3 ?_
      obtain ⟨c, e⟩ := of_if e
      refine r_idiv (pc := 133) p80 k80_133 c ?_
      refine r_goto (pc := 134) p80 k80_134 ?_
      obtain rfl := Option.some.inj e
      exact r_retI (pc := 140) p80 k80_140 rfl
  · have e := (if_pos c).symm.trans e
    refine r_aload_n (pc := 118) p80 k80_118 h0 ?_
    refine r_iload (pc := 119) p80 k80_119 h4 ?_
    rcases of_tb e with ⟨r1, er1, e⟩ | ⟨t, et, rfl⟩
    rotate_left
    · exact c_cvx (i := 17) rfl (pc := 121) p80 k80_121 rfl p81 (r := []) rfl rfl rfl rfl rfl rfl (t81 s x4 _ et)
    refine c_cv (i := 17) rfl (pc := 121) p80 k80_121 rfl p81 (r := []) rfl rfl rfl rfl rfl rfl (t81 s x4 _ er1) (w := [.int r1.1]) rfl ?_
    obtain rfl := Option.some.inj e
    exact r_retI (pc := 124) p80 k80_124 rfl

theorem p68 : ab_prog[68]? = some (ab_m68, ab_c68) := rfl
theorem p75 : ab_prog[75]? = some (ab_m75, ab_c75) := rfl
theorem k75_0 : ab_fetch ab_c75 0 = some (.iload_n 1, 1, 0, 0) := rfl
theorem k75_1 : ab_fetch ab_c75 1 = some (.bipush 16, 2, 0, 0) := rfl
theorem k75_3 : ab_fetch ab_c75 3 = some (.if_icmp .lt 18, 3, 21, 0) := rfl
theorem k75_6 : ab_fetch ab_c75 6 = some (.aload_n 0, 1, 0, 0) := rfl
theorem k75_7 : ab_fetch ab_c75 7 = some (.getfield 9, 3, 1, 4) := rfl
theorem k75_10 : ab_fetch ab_c75 10 = some (.aload_n 0, 1, 0, 0) := rfl
theorem k75_11 : ab_fetch ab_c75 11 = some (.getfield 9, 3, 1, 4) := rfl
theorem k75_14 : ab_fetch ab_c75 14 = some (.getfield 33, 3, 4, 4) := rfl
theorem k75_17 : ab_fetch ab_c75 17 = some (.iconst 1, 1, 0, 0) := rfl
theorem k75_18 : ab_fetch ab_c75 18 = some (.invokevirtual 75, 3, 46, 2) := rfl
theorem k75_21 : ab_fetch ab_c75 21 = some (.aload_n 0, 1, 0, 0) := rfl
theorem k75_22 : ab_fetch ab_c75 22 = some (.getfield 9, 3, 1, 4) := rfl
theorem k75_25 : ab_fetch ab_c75 25 = some (.bipush 40, 2, 0, 0) := rfl
theorem k75_27 : ab_fetch ab_c75 27 = some (.invokevirtual 36, 3, 45, 1) := rfl
theorem k75_30 : ab_fetch ab_c75 30 = some (.aload_n 0, 1, 0, 0) := rfl
theorem k75_31 : ab_fetch ab_c75 31 = some (.iconst 1, 1, 0, 0) := rfl
theorem k75_32 : ab_fetch ab_c75 32 = some (.iload_n 1, 1, 0, 0) := rfl
theorem k75_33 : ab_fetch ab_c75 33 = some (.iconst 1, 1, 0, 0) := rfl
theorem k75_34 : ab_fetch ab_c75 34 = some (.iadd, 1, 0, 0) := rfl
theorem k75_35 : ab_fetch ab_c75 35 = some (.invokevirtual 40, 3, 68, 2) := rfl
theorem k75_38 : ab_fetch ab_c75 38 = some (.istore_n 2, 1, 0, 0) := rfl
theorem k75_39 : ab_fetch ab_c75 39 = some (.aload_n 0, 1, 0, 0) := rfl
theorem k75_40 : ab_fetch ab_c75 40 = some (.getfield 9, 3, 1, 4) := rfl
theorem k75_43 : ab_fetch ab_c75 43 = some (.bipush 41, 2, 0, 0) := rfl
theorem k75_45 : ab_fetch ab_c75 45 = some (.invokevirtual 36, 3, 45, 1) := rfl
theorem k75_48 : ab_fetch ab_c75 48 = some (.iload_n 2, 1, 0, 0) := rfl
theorem k75_49 : ab_fetch ab_c75 49 = some (.ireturn, 1, 0, 0) := rfl
/- CodeSmith$Calculator bracketed(I)I -/
def f75 (E : cS → Int32 → Int32 → Option ((Int32 × cS) ⊕ cS)) (s : cS) (x1 : Int32) : Option ((Int32 × cS) ⊕ cS) := (if x1 < (16 : Int32) then (tb (f45 s (40 : Int32)) fun r1 => (tb (E r1 (1 : Int32) (x1 + (1 : Int32))) fun r2 => (tb (f45 r2.2 (41 : Int32)) fun r3 => some (.inl (r2.1, r3))))) else some (.inr (f46 s (s.1 11 4) (1 : Int32))))
theorem t75 {d : Nat} {Z : Nat → ab_C} (E : cS → Int32 → Int32 → Option ((Int32 × cS) ⊕ cS)) (hE : ∀ (c : Nat) (s : cS) (x1 x2 : Int32) (r : (Int32 × cS) ⊕ cS) (e : E s x1 x2 = some r), ab_Rn (d + c + 5) 68 0 (lv_args 0 [.ref 17, .int x1, .int x2]) [] (ch s Z) (oI r) (ch (zI r) Z)) (s : cS) (x1 : Int32) (r : (Int32 × cS) ⊕ cS) (e : f75 E s x1 = some r) : ab_Rn (d + 6) 75 0 (lv_args 0 [.ref 17, .int x1]) [] (ch s Z) (oI r) (ch (zI r) Z) := by
  unfold f75 at e
  obtain ⟨l, hl⟩ : ∃ l, l = (lv_args 0 [.ref 17, .int x1]) := ⟨_, rfl⟩
  rw [← hl]
  have h0 : ab_get l 0 = some (.ref 17) := by rw [hl]; rfl
  have h1 : ab_get l 1 = some (.int x1) := by rw [hl]; rfl
  refine r_iload_n (pc := 0) p75 k75_0 h1 ?_
  refine r_bipush (pc := 1) p75 k75_1 (v := (16 : Int32)) rfl ?_
  refine r_ic_lt (pc := 3) p75 k75_3 (fun c => ?_) (fun c => ?_)
  · have e := (if_pos c).symm.trans e
    refine r_aload_n (pc := 21) p75 k75_21 h0 ?_
    refine c_get (i := 17) rfl (pc := 22) p75 k75_22 rfl rfl (v := .ref 11) rfl ?_
    refine r_bipush (pc := 25) p75 k75_25 (v := (40 : Int32)) rfl ?_
    rcases of_tb e with ⟨r1, er1, e⟩ | ⟨t, et, rfl⟩
    rotate_left
    · exact c_cvx (i := 11) rfl (pc := 27) p75 k75_27 rfl p45 (r := []) rfl rfl rfl rfl rfl rfl (t45 s (40 : Int32) _ et)
    refine c_cv (i := 11) rfl (pc := 27) p75 k75_27 rfl p45 (r := []) rfl rfl rfl rfl rfl rfl (t45 s (40 : Int32) _ er1) (w := []) rfl ?_
    refine r_aload_n (pc := 30) p75 k75_30 h0 ?_
    refine r_iconst (pc := 31) p75 k75_31 (v := (1 : Int32)) rfl ?_
    refine r_iload_n (pc := 32) p75 k75_32 h1 ?_
    refine r_iconst (pc := 33) p75 k75_33 (v := (1 : Int32)) rfl ?_
    refine r_iadd (pc := 34) p75 k75_34 ?_
    rcases of_tb e with ⟨r2, er2, e⟩ | ⟨t, et, rfl⟩
    rotate_left
    · exact c_cvx (i := 17) rfl (pc := 35) p75 k75_35 rfl p68 (r := []) rfl rfl rfl rfl rfl rfl (hE 0 r1 (1 : Int32) (x1 + (1 : Int32)) _ et)
    refine c_cv (i := 17) rfl (pc := 35) p75 k75_35 rfl p68 (r := []) rfl rfl rfl rfl rfl rfl (hE 0 r1 (1 : Int32) (x1 + (1 : Int32)) _ er2) (w := [.int r2.1]) rfl ?_
    refine r_istore_n (pc := 38) p75 k75_38 (by decide) (fun l g h2 => ?_)
    have h0 := g 0 _ (by decide) h0 (Or.inl rfl)
    refine r_aload_n (pc := 39) p75 k75_39 h0 ?_
    refine c_get (i := 17) rfl (pc := 40) p75 k75_40 rfl rfl (v := .ref 11) rfl ?_
    refine r_bipush (pc := 43) p75 k75_43 (v := (41 : Int32)) rfl ?_
    rcases of_tb e with ⟨r3, er3, e⟩ | ⟨t, et, rfl⟩
    rotate_left
    · exact c_cvx (i := 11) rfl (pc := 45) p75 k75_45 rfl p45 (r := []) rfl rfl rfl rfl rfl rfl (t45 r2.2 (41 : Int32) _ et)
    refine c_cv (i := 11) rfl (pc := 45) p75 k75_45 rfl p45 (r := []) rfl rfl rfl rfl rfl rfl (t45 r2.2 (41 : Int32) _ er3) (w := []) rfl ?_
    refine r_iload_n (pc := 48) p75 k75_48 h2 ?_
    obtain rfl := Option.some.inj e
    exact r_retI (pc := 49) p75 k75_49 rfl
  · have e := (if_neg c).symm.trans e
    refine r_aload_n (pc := 6) p75 k75_6 h0 ?_
    refine c_get (i := 17) rfl (pc := 7) p75 k75_7 rfl rfl (v := .ref 11) rfl ?_
    refine r_aload_n (pc := 10) p75 k75_10 h0 ?_
    refine c_get (i := 17) rfl (pc := 11) p75 k75_11 rfl rfl (v := .ref 11) rfl ?_
    refine c_get (i := 11) rfl (pc := 14) p75 k75_14 rfl rfl (v := .int (s.1 11 4)) rfl ?_
    refine r_iconst (pc := 17) p75 k75_17 (v := (1 : Int32)) rfl ?_
    cases e
    exact c_cvx (i := 11) rfl (pc := 18) p75 k75_18 rfl p46 (r := []) rfl rfl rfl rfl rfl rfl (t46 s (s.1 11 4) (1 : Int32) _ rfl)

theorem p69 : ab_prog[69]? = some (ab_m69, ab_c69) := rfl
theorem k69_0 : ab_fetch ab_c69 0 = some (.iconst 1, 1, 0, 0) := rfl
theorem k69_1 : ab_fetch ab_c69 1 = some (.istore_n 2, 1, 0, 0) := rfl
theorem k69_2 : ab_fetch ab_c69 2 = some (.iconst 0, 1, 0, 0) := rfl
theorem k69_3 : ab_fetch ab_c69 3 = some (.istore_n 3, 1, 0, 0) := rfl
theorem k69_4 : ab_fetch ab_c69 4 = some (.iconst 0, 1, 0, 0) := rfl
theorem k69_5 : ab_fetch ab_c69 5 = some (.istore 4, 2, 0, 0) := rfl
theorem k69_7 : ab_fetch ab_c69 7 = some (.iload 4, 2, 0, 0) := rfl
theorem k69_9 : ab_fetch ab_c69 9 = some (.ldc 23, 2, 65536, 0) := rfl
theorem k69_11 : ab_fetch ab_c69 11 = some (.if_icmp .ge 67, 3, 78, 0) := rfl
theorem k69_14 : ab_fetch ab_c69 14 = some (.aload_n 0, 1, 0, 0) := rfl
theorem k69_15 : ab_fetch ab_c69 15 = some (.getfield 9, 3, 1, 4) := rfl
theorem k69_18 : ab_fetch ab_c69 18 = some (.getfield 24, 3, 4, 3) := rfl
theorem k69_21 : ab_fetch ab_c69 21 = some (.invokestatic 48, 3, 70, 1) := rfl
theorem k69_24 : ab_fetch ab_c69 24 = some (.ifCond .eq 54, 3, 78, 0) := rfl
theorem k69_27 : ab_fetch ab_c69 27 = some (.aload_n 0, 1, 0, 0) := rfl
theorem k69_28 : ab_fetch ab_c69 28 = some (.getfield 9, 3, 1, 4) := rfl
theorem k69_31 : ab_fetch ab_c69 31 = some (.getfield 24, 3, 4, 3) := rfl
theorem k69_34 : ab_fetch ab_c69 34 = some (.bipush 126, 2, 0, 0) := rfl
theorem k69_36 : ab_fetch ab_c69 36 = some (.if_icmp .ne 7, 3, 43, 0) := rfl
theorem k69_39 : ab_fetch ab_c69 39 = some (.iload_n 3, 1, 0, 0) := rfl
theorem k69_40 : ab_fetch ab_c69 40 = some (.iload_n 2, 1, 0, 0) := rfl
theorem k69_41 : ab_fetch ab_c69 41 = some (.isub, 1, 0, 0) := rfl
theorem k69_42 : ab_fetch ab_c69 42 = some (.istore_n 3, 1, 0, 0) := rfl
theorem k69_43 : ab_fetch ab_c69 43 = some (.aload_n 0, 1, 0, 0) := rfl
theorem k69_44 : ab_fetch ab_c69 44 = some (.getfield 9, 3, 1, 4) := rfl
theorem k69_47 : ab_fetch ab_c69 47 = some (.getfield 24, 3, 4, 3) := rfl
theorem k69_50 : ab_fetch ab_c69 50 = some (.bipush 43, 2, 0, 0) := rfl
theorem k69_52 : ab_fetch ab_c69 52 = some (.if_icmp .eq 6, 3, 58, 0) := rfl
theorem k69_55 : ab_fetch ab_c69 55 = some (.iload_n 2, 1, 0, 0) := rfl
theorem k69_56 : ab_fetch ab_c69 56 = some (.ineg, 1, 0, 0) := rfl
theorem k69_57 : ab_fetch ab_c69 57 = some (.istore_n 2, 1, 0, 0) := rfl
theorem k69_58 : ab_fetch ab_c69 58 = some (.aload_n 0, 1, 0, 0) := rfl
theorem k69_59 : ab_fetch ab_c69 59 = some (.getfield 9, 3, 1, 4) := rfl
theorem k69_62 : ab_fetch ab_c69 62 = some (.aload_n 0, 1, 0, 0) := rfl
theorem k69_63 : ab_fetch ab_c69 63 = some (.getfield 9, 3, 1, 4) := rfl
theorem k69_66 : ab_fetch ab_c69 66 = some (.getfield 24, 3, 4, 3) := rfl
theorem k69_69 : ab_fetch ab_c69 69 = some (.invokevirtual 36, 3, 45, 1) := rfl
theorem k69_72 : ab_fetch ab_c69 72 = some (.iinc 4 1, 3, 0, 0) := rfl
theorem k69_75 : ab_fetch ab_c69 75 = some (.goto (-68), 3, 7, 0) := rfl
theorem k69_78 : ab_fetch ab_c69 78 = some (.aload_n 0, 1, 0, 0) := rfl
theorem k69_79 : ab_fetch ab_c69 79 = some (.getfield 9, 3, 1, 4) := rfl
theorem k69_82 : ab_fetch ab_c69 82 = some (.getfield 24, 3, 4, 3) := rfl
theorem k69_85 : ab_fetch ab_c69 85 = some (.lookupswitch 107 #[(1, 43), (37, 71), (40, 61), (46, 52)], 43, 0, 0) := rfl
theorem k69_128 : ab_fetch ab_c69 128 = some (.iload_n 2, 1, 0, 0) := rfl
theorem k69_129 : ab_fetch ab_c69 129 = some (.aload_n 0, 1, 0, 0) := rfl
theorem k69_130 : ab_fetch ab_c69 130 = some (.invokevirtual 52, 3, 71, 0) := rfl
theorem k69_133 : ab_fetch ab_c69 133 = some (.imul, 1, 0, 0) := rfl
theorem k69_134 : ab_fetch ab_c69 134 = some (.iload_n 3, 1, 0, 0) := rfl
theorem k69_135 : ab_fetch ab_c69 135 = some (.iadd, 1, 0, 0) := rfl
theorem k69_136 : ab_fetch ab_c69 136 = some (.ireturn, 1, 0, 0) := rfl
theorem k69_137 : ab_fetch ab_c69 137 = some (.iload_n 2, 1, 0, 0) := rfl
theorem k69_138 : ab_fetch ab_c69 138 = some (.aload_n 0, 1, 0, 0) := rfl
theorem k69_139 : ab_fetch ab_c69 139 = some (.invokevirtual 56, 3, 74, 0) := rfl
theorem k69_142 : ab_fetch ab_c69 142 = some (.imul, 1, 0, 0) := rfl
theorem k69_143 : ab_fetch ab_c69 143 = some (.iload_n 3, 1, 0, 0) := rfl
theorem k69_144 : ab_fetch ab_c69 144 = some (.iadd, 1, 0, 0) := rfl
theorem k69_145 : ab_fetch ab_c69 145 = some (.ireturn, 1, 0, 0) := rfl
theorem k69_146 : ab_fetch ab_c69 146 = some (.iload_n 2, 1, 0, 0) := rfl
theorem k69_147 : ab_fetch ab_c69 147 = some (.aload_n 0, 1, 0, 0) := rfl
theorem k69_148 : ab_fetch ab_c69 148 = some (.iload_n 1, 1, 0, 0) := rfl
theorem k69_149 : ab_fetch ab_c69 149 = some (.invokevirtual 59, 3, 75, 1) := rfl
theorem k69_152 : ab_fetch ab_c69 152 = some (.imul, 1, 0, 0) := rfl
theorem k69_153 : ab_fetch ab_c69 153 = some (.iload_n 3, 1, 0, 0) := rfl
theorem k69_154 : ab_fetch ab_c69 154 = some (.iadd, 1, 0, 0) := rfl
theorem k69_155 : ab_fetch ab_c69 155 = some (.ireturn, 1, 0, 0) := rfl
theorem k69_156 : ab_fetch ab_c69 156 = some (.aload_n 0, 1, 0, 0) := rfl
theorem k69_157 : ab_fetch ab_c69 157 = some (.invokevirtual 62, 3, 76, 0) := rfl
theorem k69_160 : ab_fetch ab_c69 160 = some (.istore 4, 2, 0, 0) := rfl
theorem k69_162 : ab_fetch ab_c69 162 = some (.aload_n 0, 1, 0, 0) := rfl
theorem k69_163 : ab_fetch ab_c69 163 = some (.iload_n 1, 1, 0, 0) := rfl
theorem k69_164 : ab_fetch ab_c69 164 = some (.invokevirtual 59, 3, 75, 1) := rfl
theorem k69_167 : ab_fetch ab_c69 167 = some (.istore 5, 2, 0, 0) := rfl
theorem k69_169 : ab_fetch ab_c69 169 = some (.iload_n 2, 1, 0, 0) := rfl
theorem k69_170 : ab_fetch ab_c69 170 = some (.iload 4, 2, 0, 0) := rfl
theorem k69_172 : ab_fetch ab_c69 172 = some (.ifCond .eq 11, 3, 183, 0) := rfl
theorem k69_175 : ab_fetch ab_c69 175 = some (.iload 5, 2, 0, 0) := rfl
theorem k69_177 : ab_fetch ab_c69 177 = some (.invokestatic 66, 3, 77, 1) := rfl
theorem k69_180 : ab_fetch ab_c69 180 = some (.goto 8, 3, 188, 0) := rfl
theorem k69_183 : ab_fetch ab_c69 183 = some (.iload 5, 2, 0, 0) := rfl
theorem k69_185 : ab_fetch ab_c69 185 = some (.invokestatic 69, 3, 78, 1) := rfl
theorem k69_188 : ab_fetch ab_c69 188 = some (.imul, 1, 0, 0) := rfl
theorem k69_189 : ab_fetch ab_c69 189 = some (.iload_n 3, 1, 0, 0) := rfl
theorem k69_190 : ab_fetch ab_c69 190 = some (.iadd, 1, 0, 0) := rfl
theorem k69_191 : ab_fetch ab_c69 191 = some (.ireturn, 1, 0, 0) := rfl
theorem k69_192 : ab_fetch ab_c69 192 = some (.aload_n 0, 1, 0, 0) := rfl
theorem k69_193 : ab_fetch ab_c69 193 = some (.getfield 9, 3, 1, 4) := rfl
theorem k69_196 : ab_fetch ab_c69 196 = some (.getfield 72, 3, 4, 5) := rfl
theorem k69_199 : ab_fetch ab_c69 199 = some (.istore 6, 2, 0, 0) := rfl
theorem k69_201 : ab_fetch ab_c69 201 = some (.aload_n 0, 1, 0, 0) := rfl
theorem k69_202 : ab_fetch ab_c69 202 = some (.getfield 9, 3, 1, 4) := rfl
theorem k69_205 : ab_fetch ab_c69 205 = some (.iconst 2, 1, 0, 0) := rfl
theorem k69_206 : ab_fetch ab_c69 206 = some (.invokevirtual 36, 3, 45, 1) := rfl
theorem k69_209 : ab_fetch ab_c69 209 = some (.iload_n 2, 1, 0, 0) := rfl
theorem k69_210 : ab_fetch ab_c69 210 = some (.iload 6, 2, 0, 0) := rfl
theorem k69_212 : ab_fetch ab_c69 212 = some (.imul, 1, 0, 0) := rfl
theorem k69_213 : ab_fetch ab_c69 213 = some (.iload_n 3, 1, 0, 0) := rfl
theorem k69_214 : ab_fetch ab_c69 214 = some (.iadd, 1, 0, 0) := rfl
theorem k69_215 : ab_fetch ab_c69 215 = some (.ireturn, 1, 0, 0) := rfl
/- CodeSmith$Calculator operand(I)I -/
def f69_188 (E : cS → Int32 → Int32 → Option ((Int32 × cS) ⊕ cS)) (s : cS) (x3 : Int32) (y0 : Int32) (y1 : Int32) : Option ((Int32 × cS) ⊕ cS) := some (.inl (((y1 * y0) + x3), s))
theorem t69_188 {d : Nat} {Z : Nat → ab_C} (E : cS → Int32 → Int32 → Option ((Int32 × cS) ⊕ cS)) (hE : ∀ (c : Nat) (s : cS) (x1 x2 : Int32) (r : (Int32 × cS) ⊕ cS) (e : E s x1 x2 = some r), ab_Rn (d + c + 5) 68 0 (lv_args 0 [.ref 17, .int x1, .int x2]) [] (ch s Z) (oI r) (ch (zI r) Z)) : ∀ (s : cS) (l : ab_L) (x3 : Int32) (y0 : Int32) (y1 : Int32) (h3 : ab_get l 3 = some (.int x3)) (r : (Int32 × cS) ⊕ cS) (e : f69_188 E s x3 y0 y1 = some r), ab_Rn (d + 7) 69 188 l [.int y0, .int y1] (ch s Z) (oI r) (ch (zI r) Z) := by
  intro s l x3 y0 y1 h3 r e
  unfold f69_188 at e
  refine r_imul (pc := 188) p69 k69_188 ?_
  refine r_iload_n (pc := 189) p69 k69_189 h3 ?_
  refine r_iadd (pc := 190) p69 k69_190 ?_
  obtain rfl := Option.some.inj e
  exact r_retI (pc := 191) p69 k69_191 rfl
def f69_78 (E : cS → Int32 → Int32 → Option ((Int32 × cS) ⊕ cS)) (s : cS) (x1 : Int32) (x2 : Int32) (x3 : Int32) : Option ((Int32 × cS) ⊕ cS) := (if (s.1 11 3) = 1 then (tb (f71 s) fun r1 => some (.inl (((x2 * r1.1) + x3), r1.2))) else if (s.1 11 3) = 37 then (tb (f76 s) fun r1 => (tb (f75 E r1.2 x1) fun r2 => (if r1.1 = 0 then f69_188 E r2.2 x3 (f78 r2.1) x2 else f69_188 E r2.2 x3 (f77 r2.1) x2))) else if (s.1 11 3) = 40 then (tb (f75 E s x1) fun r1 => some (.inl (((x2 * r1.1) + x3), r1.2))) else if (s.1 11 3) = 46 then (tb (f74 s) fun r1 => some (.inl (((x2 * r1.1) + x3), r1.2))) else (tb (f45 s (2 : Int32)) fun r1 => some (.inl (((x2 * (s.1 11 5)) + x3), r1))))
theorem t69_78 {d : Nat} {Z : Nat → ab_C} (E : cS → Int32 → Int32 → Option ((Int32 × cS) ⊕ cS)) (hE : ∀ (c : Nat) (s : cS) (x1 x2 : Int32) (r : (Int32 × cS) ⊕ cS) (e : E s x1 x2 = some r), ab_Rn (d + c + 5) 68 0 (lv_args 0 [.ref 17, .int x1, .int x2]) [] (ch s Z) (oI r) (ch (zI r) Z)) : ∀ (s : cS) (l : ab_L) (x1 : Int32) (x2 : Int32) (x3 : Int32) (h0 : ab_get l 0 = some (.ref 17)) (h1 : ab_get l 1 = some (.int x1)) (h2 : ab_get l 2 = some (.int x2)) (h3 : ab_get l 3 = some (.int x3)) (r : (Int32 × cS) ⊕ cS) (e : f69_78 E s x1 x2 x3 = some r), ab_Rn (d + 7) 69 78 l [] (ch s Z) (oI r) (ch (zI r) Z) := by
  intro s l x1 x2 x3 h0 h1 h2 h3 r e
  unfold f69_78 at e
  refine r_aload_n (pc := 78) p69 k69_78 h0 ?_
  refine c_get (i := 17) rfl (pc := 79) p69 k69_79 rfl rfl (v := .ref 11) rfl ?_
  refine c_get (i := 11) rfl (pc := 82) p69 k69_82 rfl rfl (v := .int (s.1 11 3)) rfl ?_
  by_cases c0 : (s.1 11 3) = 1
  · have e := (if_pos c0).symm.trans e
    refine r_sw (t := 128) (st' := []) (pc := 85) p69 k69_85 rfl rfl rfl (by rw [c0]; rfl) ?_
    refine r_iload_n (pc := 128) p69 k69_128 h2 ?_
    refine r_aload_n (pc := 129) p69 k69_129 h0 ?_
    rcases of_tb e with ⟨r1, er1, e⟩ | ⟨t, et, rfl⟩
    rotate_left
    · exact c_cvx (i := 17) rfl (pc := 130) p69 k69_130 rfl p71 (r := [.int x2]) rfl rfl rfl rfl rfl rfl (t71 s _ et)
    refine c_cv (i := 17) rfl (pc := 130) p69 k69_130 rfl p71 (r := [.int x2]) rfl rfl rfl rfl rfl rfl (t71 s _ er1) (w := [.int r1.1, .int x2]) rfl ?_
    refine r_imul (pc := 133) p69 k69_133 ?_
    refine r_iload_n (pc := 134) p69 k69_134 h3 ?_
    refine r_iadd (pc := 135) p69 k69_135 ?_
    obtain rfl := Option.some.inj e
    exact r_retI (pc := 136) p69 k69_136 rfl
  have e := (if_neg c0).symm.trans e
  by_cases c1 : (s.1 11 3) = 37
  · have e := (if_pos c1).symm.trans e
    refine r_sw (t := 156) (st' := []) (pc := 85) p69 k69_85 rfl rfl rfl (by rw [c1]; rfl) ?_
    refine r_aload_n (pc := 156) p69 k69_156 h0 ?_
    rcases of_tb e with ⟨r1, er1, e⟩ | ⟨t, et, rfl⟩
    rotate_left
    · exact c_cvx (i := 17) rfl (pc := 157) p69 k69_157 rfl p76 (r := []) rfl rfl rfl rfl rfl rfl (t76 s _ et)
    refine c_cv (i := 17) rfl (pc := 157) p69 k69_157 rfl p76 (r := []) rfl rfl rfl rfl rfl rfl (t76 s _ er1) (w := [.int r1.1]) rfl ?_
    refine r_istore (pc := 160) p69 k69_160 (by decide) (fun l g h4 => ?_)
    have h0 := g 0 _ (by decide) h0 (Or.inl rfl)
    have h1 := g 1 _ (by decide) h1 (Or.inl rfl)
    have h2 := g 2 _ (by decide) h2 (Or.inl rfl)
    have h3 := g 3 _ (by decide) h3 (Or.inl rfl)
    refine r_aload_n (pc := 162) p69 k69_162 h0 ?_
    refine r_iload_n (pc := 163) p69 k69_163 h1 ?_
    rcases of_tb e with ⟨r2, er2, e⟩ | ⟨t, et, rfl⟩
    rotate_left
    · exact c_cvx (i := 17) rfl (pc := 164) p69 k69_164 rfl p75 (r := []) rfl rfl rfl rfl rfl rfl (t75 E hE r1.2 x1 _ et)
    refine c_cv (i := 17) rfl (pc := 164) p69 k69_164 rfl p75 (r := []) rfl rfl rfl rfl rfl rfl (t75 E hE r1.2 x1 _ er2) (w := [.int r2.1]) rfl ?_
    refine r_istore (pc := 167) p69 k69_167 (by decide) (fun l g h5 => ?_)
    have h2 := g 2 _ (by decide) h2 (Or.inl rfl)
    have h3 := g 3 _ (by decide) h3 (Or.inl rfl)
    have h4 := g 4 _ (by decide) h4 (Or.inl rfl)
    refine r_iload_n (pc := 169) p69 k69_169 h2 ?_
    refine r_iload (pc := 170) p69 k69_170 h4 ?_
    refine r_if_eq (pc := 172) p69 k69_172 (fun c => ?_) (fun c => ?_)
    · have e := (if_pos c).symm.trans e
      refine r_iload (pc := 183) p69 k69_183 h5 ?_
      refine r_csv (pc := 185) p69 k69_185 rfl rfl p78 (r := [.int x2]) rfl rfl rfl rfl (t78 r2.1 _ rfl) (w := [.int (f78 r2.1), .int x2]) rfl ?_
      exact t69_188 E hE r2.2 l x3 (f78 r2.1) x2 h3 r e
    · have e := (if_neg c).symm.trans e
      refine r_iload (pc := 175) p69 k69_175 h5 ?_
      refine r_csv (pc := 177) p69 k69_177 rfl rfl p77 (r := [.int x2]) rfl rfl rfl rfl (t77 r2.1 _ rfl) (w := [.int (f77 r2.1), .int x2]) rfl ?_
      refine r_goto (pc := 180) p69 k69_180 ?_
      exact t69_188 E hE r2.2 l x3 (f77 r2.1) x2 h3 r e
  have e := (if_neg c1).symm.trans e
  by_cases c2 : (s.1 11 3) = 40
  · have e := (if_pos c2).symm.trans e
    refine r_sw (t := 146) (st' := []) (pc := 85) p69 k69_85 rfl rfl rfl (by rw [c2]; rfl) ?_
    refine r_iload_n (pc := 146) p69 k69_146 h2 ?_
    refine r_aload_n (pc := 147) p69 k69_147 h0 ?_
    refine r_iload_n (pc := 148) p69 k69_148 h1 ?_
    rcases of_tb e with ⟨r1, er1, e⟩ | ⟨t, et, rfl⟩
    rotate_left
    · exact c_cvx (i := 17) rfl (pc := 149) p69 k69_149 rfl p75 (r := [.int x2]) rfl rfl rfl rfl rfl rfl (t75 E hE s x1 _ et)
    refine c_cv (i := 17) rfl (pc := 149) p69 k69_149 rfl p75 (r := [.int x2]) rfl rfl rfl rfl rfl rfl (t75 E hE s x1 _ er1) (w := [.int r1.1, .int x2]) rfl ?_
    refine r_imul (pc := 152) p69 k69_152 ?_
    refine r_iload_n (pc := 153) p69 k69_153 h3 ?_
    refine r_iadd (pc := 154) p69 k69_154 ?_
    obtain rfl := Option.some.inj e
    exact r_retI (pc := 155) p69 k69_155 rfl
  have e := (if_neg c2).symm.trans e
  by_cases c3 : (s.1 11 3) = 46
  · have e := (if_pos c3).symm.trans e
    refine r_sw (t := 137) (st' := []) (pc := 85) p69 k69_85 rfl rfl rfl (by rw [c3]; rfl) ?_
    refine r_iload_n (pc := 137) p69 k69_137 h2 ?_
    refine r_aload_n (pc := 138) p69 k69_138 h0 ?_
    rcases of_tb e with ⟨r1, er1, e⟩ | ⟨t, et, rfl⟩
    rotate_left
    · exact c_cvx (i := 17) rfl (pc := 139) p69 k69_139 rfl p74 (r := [.int x2]) rfl rfl rfl rfl rfl rfl (t74 s _ et)
    refine c_cv (i := 17) rfl (pc := 139) p69 k69_139 rfl p74 (r := [.int x2]) rfl rfl rfl rfl rfl rfl (t74 s _ er1) (w := [.int r1.1, .int x2]) rfl ?_
    refine r_imul (pc := 142) p69 k69_142 ?_
    refine r_iload_n (pc := 143) p69 k69_143 h3 ?_
    refine r_iadd (pc := 144) p69 k69_144 ?_
    obtain rfl := Option.some.inj e
    exact r_retI (pc := 145) p69 k69_145 rfl
  have e := (if_neg c3).symm.trans e
  refine r_lswd (T := 192) (pc := 85) p69 k69_85 (by decide) (by decide) (by decide) (by
      intro q hq
      simp only [List.mem_cons, List.not_mem_nil, or_false] at hq
      rcases hq with rfl | rfl | rfl | rfl
      · exact fun hh => c0 (Int32.toInt_inj.mp hh.symm)
      · exact fun hh => c1 (Int32.toInt_inj.mp hh.symm)
      · exact fun hh => c2 (Int32.toInt_inj.mp hh.symm)
      · exact fun hh => c3 (Int32.toInt_inj.mp hh.symm)) ?_
  refine r_aload_n (pc := 192) p69 k69_192 h0 ?_
  refine c_get (i := 17) rfl (pc := 193) p69 k69_193 rfl rfl (v := .ref 11) rfl ?_
  refine c_get (i := 11) rfl (pc := 196) p69 k69_196 rfl rfl (v := .int (s.1 11 5)) rfl ?_
  refine r_istore (pc := 199) p69 k69_199 (by decide) (fun l g h6 => ?_)
  have h0 := g 0 _ (by decide) h0 (Or.inl rfl)
  have h2 := g 2 _ (by decide) h2 (Or.inl rfl)
  have h3 := g 3 _ (by decide) h3 (Or.inl rfl)
  refine r_aload_n (pc := 201) p69 k69_201 h0 ?_
  refine c_get (i := 17) rfl (pc := 202) p69 k69_202 rfl rfl (v := .ref 11) rfl ?_
  refine r_iconst (pc := 205) p69 k69_205 (v := (2 : Int32)) rfl ?_
  rcases of_tb e with ⟨r1, er1, e⟩ | ⟨t, et, rfl⟩
  rotate_left
  · exact c_cvx (i := 11) rfl (pc := 206) p69 k69_206 rfl p45 (r := []) rfl rfl rfl rfl rfl rfl (t45 s (2 : Int32) _ et)
  refine c_cv (i := 11) rfl (pc := 206) p69 k69_206 rfl p45 (r := []) rfl rfl rfl rfl rfl rfl (t45 s (2 : Int32) _ er1) (w := []) rfl ?_
  refine r_iload_n (pc := 209) p69 k69_209 h2 ?_
  refine r_iload (pc := 210) p69 k69_210 h6 ?_
  refine r_imul (pc := 212) p69 k69_212 ?_
  refine r_iload_n (pc := 213) p69 k69_213 h3 ?_
  refine r_iadd (pc := 214) p69 k69_214 ?_
  obtain rfl := Option.some.inj e
  exact r_retI (pc := 215) p69 k69_215 rfl
def f69_58 (E : cS → Int32 → Int32 → Option ((Int32 × cS) ⊕ cS)) (q7 : cS → Int32 → Int32 → Int32 → Int32 → Option ((Int32 × cS) ⊕ cS)) (s : cS) (x1 : Int32) (x2 : Int32) (x3 : Int32) (x4 : Int32) : Option ((Int32 × cS) ⊕ cS) := (tb (f45 s (s.1 11 3)) fun r1 => q7 r1 x1 x2 x3 (x4 + (1 : Int32)))
theorem t69_58 {d : Nat} {Z : Nat → ab_C} (E : cS → Int32 → Int32 → Option ((Int32 × cS) ⊕ cS)) (hE : ∀ (c : Nat) (s : cS) (x1 x2 : Int32) (r : (Int32 × cS) ⊕ cS) (e : E s x1 x2 = some r), ab_Rn (d + c + 5) 68 0 (lv_args 0 [.ref 17, .int x1, .int x2]) [] (ch s Z) (oI r) (ch (zI r) Z)) (q7 : cS → Int32 → Int32 → Int32 → Int32 → Option ((Int32 × cS) ⊕ cS)) (hq7 : ∀ (s : cS) (l : ab_L) (x1 : Int32) (x2 : Int32) (x3 : Int32) (x4 : Int32) (h0 : ab_get l 0 = some (.ref 17)) (h1 : ab_get l 1 = some (.int x1)) (h2 : ab_get l 2 = some (.int x2)) (h3 : ab_get l 3 = some (.int x3)) (h4 : ab_get l 4 = some (.int x4)) (r : (Int32 × cS) ⊕ cS) (e : q7 s x1 x2 x3 x4 = some r), ab_Rn (d + 7) 69 7 l [] (ch s Z) (oI r) (ch (zI r) Z)) : ∀ (s : cS) (l : ab_L) (x1 : Int32) (x2 : Int32) (x3 : Int32) (x4 : Int32) (h0 : ab_get l 0 = some (.ref 17)) (h1 : ab_get l 1 = some (.int x1)) (h2 : ab_get l 2 = some (.int x2)) (h3 : ab_get l 3 = some (.int x3)) (h4 : ab_get l 4 = some (.int x4)) (r : (Int32 × cS) ⊕ cS) (e : f69_58 E q7 s x1 x2 x3 x4 = some r), ab_Rn (d + 7) 69 58 l [] (ch s Z) (oI r) (ch (zI r) Z) := by
  intro s l x1 x2 x3 x4 h0 h1 h2 h3 h4 r e
  unfold f69_58 at e
  refine r_aload_n (pc := 58) p69 k69_58 h0 ?_
  refine c_get (i := 17) rfl (pc := 59) p69 k69_59 rfl rfl (v := .ref 11) rfl ?_
  refine r_aload_n (pc := 62) p69 k69_62 h0 ?_
  refine c_get (i := 17) rfl (pc := 63) p69 k69_63 rfl rfl (v := .ref 11) rfl ?_
  refine c_get (i := 11) rfl (pc := 66) p69 k69_66 rfl rfl (v := .int (s.1 11 3)) rfl ?_
  rcases of_tb e with ⟨r1, er1, e⟩ | ⟨t, et, rfl⟩
  rotate_left
  · exact c_cvx (i := 11) rfl (pc := 69) p69 k69_69 rfl p45 (r := []) rfl rfl rfl rfl rfl rfl (t45 s (s.1 11 3) _ et)
  refine c_cv (i := 11) rfl (pc := 69) p69 k69_69 rfl p45 (r := []) rfl rfl rfl rfl rfl rfl (t45 s (s.1 11 3) _ er1) (w := []) rfl ?_
  refine r_iinc (pc := 72) p69 k69_72 h4 (by decide) (v := (x4 + (1 : Int32))) rfl (fun l g h4 => ?_)
  have h0 := g 0 _ (by decide) h0 (Or.inl rfl)
  have h1 := g 1 _ (by decide) h1 (Or.inl rfl)
  have h2 := g 2 _ (by decide) h2 (Or.inl rfl)
  have h3 := g 3 _ (by decide) h3 (Or.inl rfl)
  refine r_goto (pc := 75) p69 k69_75 ?_
  exact hq7 r1 l x1 x2 x3 (x4 + (1 : Int32)) h0 h1 h2 h3 h4 r e
def f69_43 (E : cS → Int32 → Int32 → Option ((Int32 × cS) ⊕ cS)) (q7 : cS → Int32 → Int32 → Int32 → Int32 → Option ((Int32 × cS) ⊕ cS)) (s : cS) (x1 : Int32) (x2 : Int32) (x3 : Int32) (x4 : Int32) : Option ((Int32 × cS) ⊕ cS) := (if (s.1 11 3) = (43 : Int32) then f69_58 E q7 s x1 x2 x3 x4 else f69_58 E q7 s x1 (-x2) x3 x4)
theorem t69_43 {d : Nat} {Z : Nat → ab_C} (E : cS → Int32 → Int32 → Option ((Int32 × cS) ⊕ cS)) (hE : ∀ (c : Nat) (s : cS) (x1 x2 : Int32) (r : (Int32 × cS) ⊕ cS) (e : E s x1 x2 = some r), ab_Rn (d + c + 5) 68 0 (lv_args 0 [.ref 17, .int x1, .int x2]) [] (ch s Z) (oI r) (ch (zI r) Z)) (q7 : cS → Int32 → Int32 → Int32 → Int32 → Option ((Int32 × cS) ⊕ cS)) (hq7 : ∀ (s : cS) (l : ab_L) (x1 : Int32) (x2 : Int32) (x3 : Int32) (x4 : Int32) (h0 : ab_get l 0 = some (.ref 17)) (h1 : ab_get l 1 = some (.int x1)) (h2 : ab_get l 2 = some (.int x2)) (h3 : ab_get l 3 = some (.int x3)) (h4 : ab_get l 4 = some (.int x4)) (r : (Int32 × cS) ⊕ cS) (e : q7 s x1 x2 x3 x4 = some r), ab_Rn (d + 7) 69 7 l [] (ch s Z) (oI r) (ch (zI r) Z)) : ∀ (s : cS) (l : ab_L) (x1 : Int32) (x2 : Int32) (x3 : Int32) (x4 : Int32) (h0 : ab_get l 0 = some (.ref 17)) (h1 : ab_get l 1 = some (.int x1)) (h2 : ab_get l 2 = some (.int x2)) (h3 : ab_get l 3 = some (.int x3)) (h4 : ab_get l 4 = some (.int x4)) (r : (Int32 × cS) ⊕ cS) (e : f69_43 E q7 s x1 x2 x3 x4 = some r), ab_Rn (d + 7) 69 43 l [] (ch s Z) (oI r) (ch (zI r) Z) := by
  intro s l x1 x2 x3 x4 h0 h1 h2 h3 h4 r e
  unfold f69_43 at e
  refine r_aload_n (pc := 43) p69 k69_43 h0 ?_
  refine c_get (i := 17) rfl (pc := 44) p69 k69_44 rfl rfl (v := .ref 11) rfl ?_
  refine c_get (i := 11) rfl (pc := 47) p69 k69_47 rfl rfl (v := .int (s.1 11 3)) rfl ?_
  refine r_bipush (pc := 50) p69 k69_50 (v := (43 : Int32)) rfl ?_
  refine r_ic_eq (pc := 52) p69 k69_52 (fun c => ?_) (fun c => ?_)
  · have e := (if_pos c).symm.trans e
    exact t69_58 E hE q7 hq7 s l x1 x2 x3 x4 h0 h1 h2 h3 h4 r e
  · have e := (if_neg c).symm.trans e
    refine r_iload_n (pc := 55) p69 k69_55 h2 ?_
    refine r_ineg (pc := 56) p69 k69_56 ?_
    refine r_istore_n (pc := 57) p69 k69_57 (by decide) (fun l g h2 => ?_)
    have h0 := g 0 _ (by decide) h0 (Or.inl rfl)
    have h1 := g 1 _ (by decide) h1 (Or.inl rfl)
    have h3 := g 3 _ (by decide) h3 (Or.inl rfl)
    have h4 := g 4 _ (by decide) h4 (Or.inl rfl)
    exact t69_58 E hE q7 hq7 s l x1 (-x2) x3 x4 h0 h1 h2 h3 h4 r e
def f69_7 (E : cS → Int32 → Int32 → Option ((Int32 × cS) ⊕ cS)) : Nat → cS → Int32 → Int32 → Int32 → Int32 → Option ((Int32 × cS) ⊕ cS)
  | 0, _, _, _, _, _ => none
  | u + 1, s, x1, x2, x3, x4 => (if (65536 : Int32) ≤ x4 then f69_78 E s x1 x2 x3 else (if (f70 (s.1 11 3)) = 0 then f69_78 E s x1 x2 x3 else (if (s.1 11 3) = (126 : Int32) then f69_43 E (f69_7 E u) s x1 x2 (x3 - x2) x4 else f69_43 E (f69_7 E u) s x1 x2 x3 x4)))
theorem t69_7 {d : Nat} {Z : Nat → ab_C} (E : cS → Int32 → Int32 → Option ((Int32 × cS) ⊕ cS)) (hE : ∀ (c : Nat) (s : cS) (x1 x2 : Int32) (r : (Int32 × cS) ⊕ cS) (e : E s x1 x2 = some r), ab_Rn (d + c + 5) 68 0 (lv_args 0 [.ref 17, .int x1, .int x2]) [] (ch s Z) (oI r) (ch (zI r) Z)) : ∀ u : Nat, ∀ (s : cS) (l : ab_L) (x1 : Int32) (x2 : Int32) (x3 : Int32) (x4 : Int32) (h0 : ab_get l 0 = some (.ref 17)) (h1 : ab_get l 1 = some (.int x1)) (h2 : ab_get l 2 = some (.int x2)) (h3 : ab_get l 3 = some (.int x3)) (h4 : ab_get l 4 = some (.int x4)) (r : (Int32 × cS) ⊕ cS) (e : f69_7 E u s x1 x2 x3 x4 = some r), ab_Rn (d + 7) 69 7 l [] (ch s Z) (oI r) (ch (zI r) Z) := by
  intro u
  induction u with
  | zero => intro s l x1 x2 x3 x4 h0 h1 h2 h3 h4 r e; rw [f69_7] at e; cases e
  | succ u ih =>
    intro s l x1 x2 x3 x4 h0 h1 h2 h3 h4 r e
    rw [f69_7] at e
    refine r_iload (pc := 7) p69 k69_7 h4 ?_
    refine r_ldcI (pc := 9) p69 k69_9 (v := (65536 : Int32)) rfl ?_
    refine r_ic_ge (pc := 11) p69 k69_11 (fun c => ?_) (fun c => ?_)
    · have e := (if_pos c).symm.trans e
      exact t69_78 E hE s l x1 x2 x3 h0 h1 h2 h3 r e
    · have e := (if_neg c).symm.trans e
      refine r_aload_n (pc := 14) p69 k69_14 h0 ?_
      refine c_get (i := 17) rfl (pc := 15) p69 k69_15 rfl rfl (v := .ref 11) rfl ?_
      refine c_get (i := 11) rfl (pc := 18) p69 k69_18 rfl rfl (v := .int (s.1 11 3)) rfl ?_
      refine r_csv (pc := 21) p69 k69_21 rfl rfl p70 (r := []) rfl rfl rfl rfl (t70 (s.1 11 3) _ rfl) (w := [.int (f70 (s.1 11 3))]) rfl ?_
      refine r_if_eq (pc := 24) p69 k69_24 (fun c => ?_) (fun c => ?_)
      · have e := (if_pos c).symm.trans e
        exact t69_78 E hE s l x1 x2 x3 h0 h1 h2 h3 r e
      · have e := (if_neg c).symm.trans e
        refine r_aload_n (pc := 27) p69 k69_27 h0 ?_
        refine c_get (i := 17) rfl (pc := 28) p69 k69_28 rfl rfl (v := .ref 11) rfl ?_
        refine c_get (i := 11) rfl (pc := 31) p69 k69_31 rfl rfl (v := .int (s.1 11 3)) rfl ?_
        refine r_bipush (pc := 34) p69 k69_34 (v := (126 : Int32)) rfl ?_
        refine r_ic_ne (pc := 36) p69 k69_36 (fun c => ?_) (fun c => ?_)
        · have e := (if_neg c).symm.trans e
          exact t69_43 E hE (f69_7 E u) ih s l x1 x2 x3 x4 h0 h1 h2 h3 h4 r e
        · have e := (if_pos c).symm.trans e
          refine r_iload_n (pc := 39) p69 k69_39 h3 ?_
          refine r_iload_n (pc := 40) p69 k69_40 h2 ?_
          refine r_isub (pc := 41) p69 k69_41 ?_
          refine r_istore_n (pc := 42) p69 k69_42 (by decide) (fun l g h3 => ?_)
          have h0 := g 0 _ (by decide) h0 (Or.inl rfl)
          have h1 := g 1 _ (by decide) h1 (Or.inl rfl)
          have h2 := g 2 _ (by decide) h2 (Or.inl rfl)
          have h4 := g 4 _ (by decide) h4 (Or.inl rfl)
          exact t69_43 E hE (f69_7 E u) ih s l x1 x2 (x3 - x2) x4 h0 h1 h2 h3 h4 r e
def f69 (E : cS → Int32 → Int32 → Option ((Int32 × cS) ⊕ cS)) (s : cS) (x1 : Int32) : Option ((Int32 × cS) ⊕ cS) := f69_7 E mm_U s x1 (1 : Int32) (0 : Int32) (0 : Int32)
theorem t69 {d : Nat} {Z : Nat → ab_C} (E : cS → Int32 → Int32 → Option ((Int32 × cS) ⊕ cS)) (hE : ∀ (c : Nat) (s : cS) (x1 x2 : Int32) (r : (Int32 × cS) ⊕ cS) (e : E s x1 x2 = some r), ab_Rn (d + c + 5) 68 0 (lv_args 0 [.ref 17, .int x1, .int x2]) [] (ch s Z) (oI r) (ch (zI r) Z)) (s : cS) (x1 : Int32) (r : (Int32 × cS) ⊕ cS) (e : f69 E s x1 = some r) : ab_Rn (d + 7) 69 0 (lv_args 0 [.ref 17, .int x1]) [] (ch s Z) (oI r) (ch (zI r) Z) := by
  unfold f69 at e
  obtain ⟨l, hl⟩ : ∃ l, l = (lv_args 0 [.ref 17, .int x1]) := ⟨_, rfl⟩
  rw [← hl]
  have h0 : ab_get l 0 = some (.ref 17) := by rw [hl]; rfl
  have h1 : ab_get l 1 = some (.int x1) := by rw [hl]; rfl
  refine r_iconst (pc := 0) p69 k69_0 (v := (1 : Int32)) rfl ?_
  refine r_istore_n (pc := 1) p69 k69_1 (by decide) (fun l g h2 => ?_)
  have h0 := g 0 _ (by decide) h0 (Or.inl rfl)
  have h1 := g 1 _ (by decide) h1 (Or.inl rfl)
  refine r_iconst (pc := 2) p69 k69_2 (v := (0 : Int32)) rfl ?_
  refine r_istore_n (pc := 3) p69 k69_3 (by decide) (fun l g h3 => ?_)
  have h0 := g 0 _ (by decide) h0 (Or.inl rfl)
  have h1 := g 1 _ (by decide) h1 (Or.inl rfl)
  have h2 := g 2 _ (by decide) h2 (Or.inl rfl)
  refine r_iconst (pc := 4) p69 k69_4 (v := (0 : Int32)) rfl ?_
  refine r_istore (pc := 5) p69 k69_5 (by decide) (fun l g h4 => ?_)
  have h0 := g 0 _ (by decide) h0 (Or.inl rfl)
  have h1 := g 1 _ (by decide) h1 (Or.inl rfl)
  have h2 := g 2 _ (by decide) h2 (Or.inl rfl)
  have h3 := g 3 _ (by decide) h3 (Or.inl rfl)
  exact t69_7 E hE mm_U s l x1 (1 : Int32) (0 : Int32) (0 : Int32) h0 h1 h2 h3 h4 r e

theorem k68_0 : ab_fetch ab_c68 0 = some (.aload_n 0, 1, 0, 0) := rfl
theorem k68_1 : ab_fetch ab_c68 1 = some (.iload_n 2, 1, 0, 0) := rfl
theorem k68_2 : ab_fetch ab_c68 2 = some (.invokevirtual 19, 3, 69, 1) := rfl
theorem k68_5 : ab_fetch ab_c68 5 = some (.istore_n 3, 1, 0, 0) := rfl
theorem k68_6 : ab_fetch ab_c68 6 = some (.iconst 0, 1, 0, 0) := rfl
theorem k68_7 : ab_fetch ab_c68 7 = some (.istore 4, 2, 0, 0) := rfl
theorem k68_9 : ab_fetch ab_c68 9 = some (.iload 4, 2, 0, 0) := rfl
theorem k68_11 : ab_fetch ab_c68 11 = some (.ldc 23, 2, 65536, 0) := rfl
theorem k68_13 : ab_fetch ab_c68 13 = some (.if_icmp .ge 75, 3, 88, 0) := rfl
theorem k68_16 : ab_fetch ab_c68 16 = some (.aload_n 0, 1, 0, 0) := rfl
theorem k68_17 : ab_fetch ab_c68 17 = some (.getfield 9, 3, 1, 4) := rfl
theorem k68_20 : ab_fetch ab_c68 20 = some (.getfield 24, 3, 4, 3) := rfl
theorem k68_23 : ab_fetch ab_c68 23 = some (.istore 5, 2, 0, 0) := rfl
theorem k68_25 : ab_fetch ab_c68 25 = some (.iload 5, 2, 0, 0) := rfl
theorem k68_27 : ab_fetch ab_c68 27 = some (.invokestatic 30, 3, 79, 1) := rfl
theorem k68_30 : ab_fetch ab_c68 30 = some (.istore 6, 2, 0, 0) := rfl
theorem k68_32 : ab_fetch ab_c68 32 = some (.iload 6, 2, 0, 0) := rfl
theorem k68_34 : ab_fetch ab_c68 34 = some (.iload_n 1, 1, 0, 0) := rfl
theorem k68_35 : ab_fetch ab_c68 35 = some (.if_icmp .ge 6, 3, 41, 0) := rfl
theorem k68_38 : ab_fetch ab_c68 38 = some (.goto 50, 3, 88, 0) := rfl
theorem k68_41 : ab_fetch ab_c68 41 = some (.aload_n 0, 1, 0, 0) := rfl
theorem k68_42 : ab_fetch ab_c68 42 = some (.getfield 9, 3, 1, 4) := rfl
theorem k68_45 : ab_fetch ab_c68 45 = some (.getfield 33, 3, 4, 4) := rfl
theorem k68_48 : ab_fetch ab_c68 48 = some (.istore 7, 2, 0, 0) := rfl
theorem k68_50 : ab_fetch ab_c68 50 = some (.aload_n 0, 1, 0, 0) := rfl
theorem k68_51 : ab_fetch ab_c68 51 = some (.getfield 9, 3, 1, 4) := rfl
theorem k68_54 : ab_fetch ab_c68 54 = some (.iload 5, 2, 0, 0) := rfl
theorem k68_56 : ab_fetch ab_c68 56 = some (.invokevirtual 36, 3, 45, 1) := rfl
theorem k68_59 : ab_fetch ab_c68 59 = some (.aload_n 0, 1, 0, 0) := rfl
theorem k68_60 : ab_fetch ab_c68 60 = some (.iload 6, 2, 0, 0) := rfl
theorem k68_62 : ab_fetch ab_c68 62 = some (.iconst 1, 1, 0, 0) := rfl
theorem k68_63 : ab_fetch ab_c68 63 = some (.iadd, 1, 0, 0) := rfl
theorem k68_64 : ab_fetch ab_c68 64 = some (.iload_n 2, 1, 0, 0) := rfl
theorem k68_65 : ab_fetch ab_c68 65 = some (.invokevirtual 40, 3, 68, 2) := rfl
theorem k68_68 : ab_fetch ab_c68 68 = some (.istore 8, 2, 0, 0) := rfl
theorem k68_70 : ab_fetch ab_c68 70 = some (.aload_n 0, 1, 0, 0) := rfl
theorem k68_71 : ab_fetch ab_c68 71 = some (.iload 5, 2, 0, 0) := rfl
theorem k68_73 : ab_fetch ab_c68 73 = some (.iload_n 3, 1, 0, 0) := rfl
theorem k68_74 : ab_fetch ab_c68 74 = some (.iload 8, 2, 0, 0) := rfl
theorem k68_76 : ab_fetch ab_c68 76 = some (.iload 7, 2, 0, 0) := rfl
theorem k68_78 : ab_fetch ab_c68 78 = some (.invokevirtual 44, 3, 80, 4) := rfl
theorem k68_81 : ab_fetch ab_c68 81 = some (.istore_n 3, 1, 0, 0) := rfl
theorem k68_82 : ab_fetch ab_c68 82 = some (.iinc 4 1, 3, 0, 0) := rfl
theorem k68_85 : ab_fetch ab_c68 85 = some (.goto (-76), 3, 9, 0) := rfl
theorem k68_88 : ab_fetch ab_c68 88 = some (.iload_n 3, 1, 0, 0) := rfl
theorem k68_89 : ab_fetch ab_c68 89 = some (.ireturn, 1, 0, 0) := rfl
/- CodeSmith$Calculator expression(II)I -/
def f68b_38 (E : cS → Int32 → Int32 → Option ((Int32 × cS) ⊕ cS)) (s : cS) (x3 : Int32) : Option ((Int32 × cS) ⊕ cS) := some (.inl (x3, s))
theorem t68b_38 {d : Nat} {Z : Nat → ab_C} (E : cS → Int32 → Int32 → Option ((Int32 × cS) ⊕ cS)) (hE : ∀ (c : Nat) (s : cS) (x1 x2 : Int32) (r : (Int32 × cS) ⊕ cS) (e : E s x1 x2 = some r), ab_Rn (d + c + 5) 68 0 (lv_args 0 [.ref 17, .int x1, .int x2]) [] (ch s Z) (oI r) (ch (zI r) Z)) : ∀ (s : cS) (l : ab_L) (x3 : Int32) (h3 : ab_get l 3 = some (.int x3)) (r : (Int32 × cS) ⊕ cS) (e : f68b_38 E s x3 = some r), ab_Rn (d + 8) 68 38 l [] (ch s Z) (oI r) (ch (zI r) Z) := by
  intro s l x3 h3 r e
  unfold f68b_38 at e
  refine r_goto (pc := 38) p68 k68_38 ?_
  refine r_iload_n (pc := 88) p68 k68_88 h3 ?_
  obtain rfl := Option.some.inj e
  exact r_retI (pc := 89) p68 k68_89 rfl
def f68b_9 (E : cS → Int32 → Int32 → Option ((Int32 × cS) ⊕ cS)) : Nat → cS → Int32 → Int32 → Int32 → Int32 → Option ((Int32 × cS) ⊕ cS)
  | 0, _, _, _, _, _ => none
  | u + 1, s, x1, x2, x3, x4 => (if (65536 : Int32) ≤ x4 then some (.inl (x3, s)) else (if x1 ≤ (f79 (s.1 11 3)) then (tb (f45 s (s.1 11 3)) fun r1 => (tb (E r1 ((f79 (s.1 11 3)) + (1 : Int32)) x2) fun r2 => (tb (f80 r2.2 (s.1 11 3) x3 r2.1 (s.1 11 4)) fun r3 => f68b_9 E u r3.2 x1 x2 r3.1 (x4 + (1 : Int32))))) else f68b_38 E s x3))
theorem t68b_9 {d : Nat} {Z : Nat → ab_C} (E : cS → Int32 → Int32 → Option ((Int32 × cS) ⊕ cS)) (hE : ∀ (c : Nat) (s : cS) (x1 x2 : Int32) (r : (Int32 × cS) ⊕ cS) (e : E s x1 x2 = some r), ab_Rn (d + c + 5) 68 0 (lv_args 0 [.ref 17, .int x1, .int x2]) [] (ch s Z) (oI r) (ch (zI r) Z)) : ∀ u : Nat, ∀ (s : cS) (l : ab_L) (x1 : Int32) (x2 : Int32) (x3 : Int32) (x4 : Int32) (h0 : ab_get l 0 = some (.ref 17)) (h1 : ab_get l 1 = some (.int x1)) (h2 : ab_get l 2 = some (.int x2)) (h3 : ab_get l 3 = some (.int x3)) (h4 : ab_get l 4 = some (.int x4)) (r : (Int32 × cS) ⊕ cS) (e : f68b_9 E u s x1 x2 x3 x4 = some r), ab_Rn (d + 8) 68 9 l [] (ch s Z) (oI r) (ch (zI r) Z) := by
  intro u
  induction u with
  | zero => intro s l x1 x2 x3 x4 h0 h1 h2 h3 h4 r e; rw [f68b_9] at e; cases e
  | succ u ih =>
    intro s l x1 x2 x3 x4 h0 h1 h2 h3 h4 r e
    rw [f68b_9] at e
    refine r_iload (pc := 9) p68 k68_9 h4 ?_
    refine r_ldcI (pc := 11) p68 k68_11 (v := (65536 : Int32)) rfl ?_
    refine r_ic_ge (pc := 13) p68 k68_13 (fun c => ?_) (fun c => ?_)
    · have e := (if_pos c).symm.trans e
      refine r_iload_n (pc := 88) p68 k68_88 h3 ?_
      obtain rfl := Option.some.inj e
      exact r_retI (pc := 89) p68 k68_89 rfl
    · have e := (if_neg c).symm.trans e
      refine r_aload_n (pc := 16) p68 k68_16 h0 ?_
      refine c_get (i := 17) rfl (pc := 17) p68 k68_17 rfl rfl (v := .ref 11) rfl ?_
      refine c_get (i := 11) rfl (pc := 20) p68 k68_20 rfl rfl (v := .int (s.1 11 3)) rfl ?_
      refine r_istore (pc := 23) p68 k68_23 (by decide) (fun l g h5 => ?_)
      have h0 := g 0 _ (by decide) h0 (Or.inl rfl)
      have h1 := g 1 _ (by decide) h1 (Or.inl rfl)
      have h2 := g 2 _ (by decide) h2 (Or.inl rfl)
      have h3 := g 3 _ (by decide) h3 (Or.inl rfl)
      have h4 := g 4 _ (by decide) h4 (Or.inl rfl)
      refine r_iload (pc := 25) p68 k68_25 h5 ?_
      refine r_csv (pc := 27) p68 k68_27 rfl rfl p79 (r := []) rfl rfl rfl rfl (t79 (s.1 11 3) _ rfl) (w := [.int (f79 (s.1 11 3))]) rfl ?_
      refine r_istore (pc := 30) p68 k68_30 (by decide) (fun l g h6 => ?_)
      have h0 := g 0 _ (by decide) h0 (Or.inl rfl)
      have h1 := g 1 _ (by decide) h1 (Or.inl rfl)
      have h2 := g 2 _ (by decide) h2 (Or.inl rfl)
      have h3 := g 3 _ (by decide) h3 (Or.inl rfl)
      have h4 := g 4 _ (by decide) h4 (Or.inl rfl)
      have h5 := g 5 _ (by decide) h5 (Or.inl rfl)
      refine r_iload (pc := 32) p68 k68_32 h6 ?_
      refine r_iload_n (pc := 34) p68 k68_34 h1 ?_
      refine r_ic_ge (pc := 35) p68 k68_35 (fun c => ?_) (fun c => ?_)
      · have e := (if_pos c).symm.trans e
        refine r_aload_n (pc := 41) p68 k68_41 h0 ?_
        refine c_get (i := 17) rfl (pc := 42) p68 k68_42 rfl rfl (v := .ref 11) rfl ?_
        refine c_get (i := 11) rfl (pc := 45) p68 k68_45 rfl rfl (v := .int (s.1 11 4)) rfl ?_
        refine r_istore (pc := 48) p68 k68_48 (by decide) (fun l g h7 => ?_)
        have h0 := g 0 _ (by decide) h0 (Or.inl rfl)
        have h1 := g 1 _ (by decide) h1 (Or.inl rfl)
        have h2 := g 2 _ (by decide) h2 (Or.inl rfl)
        have h3 := g 3 _ (by decide) h3 (Or.inl rfl)
        have h4 := g 4 _ (by decide) h4 (Or.inl rfl)
        have h5 := g 5 _ (by decide) h5 (Or.inl rfl)
        have h6 := g 6 _ (by decide) h6 (Or.inl rfl)
        refine r_aload_n (pc := 50) p68 k68_50 h0 ?_
        refine c_get (i := 17) rfl (pc := 51) p68 k68_51 rfl rfl (v := .ref 11) rfl ?_
        refine r_iload (pc := 54) p68 k68_54 h5 ?_
        rcases of_tb e with ⟨r1, er1, e⟩ | ⟨t, et, rfl⟩
        rotate_left
        · exact c_cvx (i := 11) rfl (pc := 56) p68 k68_56 rfl p45 (r := []) rfl rfl rfl rfl rfl rfl (t45 s (s.1 11 3) _ et)
        refine c_cv (i := 11) rfl (pc := 56) p68 k68_56 rfl p45 (r := []) rfl rfl rfl rfl rfl rfl (t45 s (s.1 11 3) _ er1) (w := []) rfl ?_
        refine r_aload_n (pc := 59) p68 k68_59 h0 ?_
        refine r_iload (pc := 60) p68 k68_60 h6 ?_
        refine r_iconst (pc := 62) p68 k68_62 (v := (1 : Int32)) rfl ?_
        refine r_iadd (pc := 63) p68 k68_63 ?_
        refine r_iload_n (pc := 64) p68 k68_64 h2 ?_
        rcases of_tb e with ⟨r2, er2, e⟩ | ⟨t, et, rfl⟩
        rotate_left
        · exact c_cvx (i := 17) rfl (pc := 65) p68 k68_65 rfl p68 (r := []) rfl rfl rfl rfl rfl rfl (hE 2 r1 ((f79 (s.1 11 3)) + (1 : Int32)) x2 _ et)
        refine c_cv (i := 17) rfl (pc := 65) p68 k68_65 rfl p68 (r := []) rfl rfl rfl rfl rfl rfl (hE 2 r1 ((f79 (s.1 11 3)) + (1 : Int32)) x2 _ er2) (w := [.int r2.1]) rfl ?_
        refine r_istore (pc := 68) p68 k68_68 (by decide) (fun l g h8 => ?_)
        have h0 := g 0 _ (by decide) h0 (Or.inl rfl)
        have h1 := g 1 _ (by decide) h1 (Or.inl rfl)
        have h2 := g 2 _ (by decide) h2 (Or.inl rfl)
        have h3 := g 3 _ (by decide) h3 (Or.inl rfl)
        have h4 := g 4 _ (by decide) h4 (Or.inl rfl)
        have h5 := g 5 _ (by decide) h5 (Or.inl rfl)
        have h7 := g 7 _ (by decide) h7 (Or.inl rfl)
        refine r_aload_n (pc := 70) p68 k68_70 h0 ?_
        refine r_iload (pc := 71) p68 k68_71 h5 ?_
        refine r_iload_n (pc := 73) p68 k68_73 h3 ?_
        refine r_iload (pc := 74) p68 k68_74 h8 ?_
        refine r_iload (pc := 76) p68 k68_76 h7 ?_
        rcases of_tb e with ⟨r3, er3, e⟩ | ⟨t, et, rfl⟩
        rotate_left
        · exact c_cvx (i := 17) rfl (pc := 78) p68 k68_78 rfl p80 (r := []) rfl rfl rfl rfl rfl rfl (t80 r2.2 (s.1 11 3) x3 r2.1 (s.1 11 4) _ et)
        refine c_cv (i := 17) rfl (pc := 78) p68 k68_78 rfl p80 (r := []) rfl rfl rfl rfl rfl rfl (t80 r2.2 (s.1 11 3) x3 r2.1 (s.1 11 4) _ er3) (w := [.int r3.1]) rfl ?_
        refine r_istore_n (pc := 81) p68 k68_81 (by decide) (fun l g h3 => ?_)
        have h0 := g 0 _ (by decide) h0 (Or.inl rfl)
        have h1 := g 1 _ (by decide) h1 (Or.inl rfl)
        have h2 := g 2 _ (by decide) h2 (Or.inl rfl)
        have h4 := g 4 _ (by decide) h4 (Or.inl rfl)
        refine r_iinc (pc := 82) p68 k68_82 h4 (by decide) (v := (x4 + (1 : Int32))) rfl (fun l g h4 => ?_)
        have h0 := g 0 _ (by decide) h0 (Or.inl rfl)
        have h1 := g 1 _ (by decide) h1 (Or.inl rfl)
        have h2 := g 2 _ (by decide) h2 (Or.inl rfl)
        have h3 := g 3 _ (by decide) h3 (Or.inl rfl)
        refine r_goto (pc := 85) p68 k68_85 ?_
        exact ih r3.2 l x1 x2 r3.1 (x4 + (1 : Int32)) h0 h1 h2 h3 h4 r e
      · have e := (if_neg c).symm.trans e
        exact t68b_38 E hE s l x3 h3 r e
def f68b (E : cS → Int32 → Int32 → Option ((Int32 × cS) ⊕ cS)) (s : cS) (x1 : Int32) (x2 : Int32) : Option ((Int32 × cS) ⊕ cS) := (tb (f69 E s x2) fun r1 => f68b_9 E mm_U r1.2 x1 x2 r1.1 (0 : Int32))
theorem t68b {d : Nat} {Z : Nat → ab_C} (E : cS → Int32 → Int32 → Option ((Int32 × cS) ⊕ cS)) (hE : ∀ (c : Nat) (s : cS) (x1 x2 : Int32) (r : (Int32 × cS) ⊕ cS) (e : E s x1 x2 = some r), ab_Rn (d + c + 5) 68 0 (lv_args 0 [.ref 17, .int x1, .int x2]) [] (ch s Z) (oI r) (ch (zI r) Z)) (s : cS) (x1 : Int32) (x2 : Int32) (r : (Int32 × cS) ⊕ cS) (e : f68b E s x1 x2 = some r) : ab_Rn (d + 8) 68 0 (lv_args 0 [.ref 17, .int x1, .int x2]) [] (ch s Z) (oI r) (ch (zI r) Z) := by
  unfold f68b at e
  obtain ⟨l, hl⟩ : ∃ l, l = (lv_args 0 [.ref 17, .int x1, .int x2]) := ⟨_, rfl⟩
  rw [← hl]
  have h0 : ab_get l 0 = some (.ref 17) := by rw [hl]; rfl
  have h1 : ab_get l 1 = some (.int x1) := by rw [hl]; rfl
  have h2 : ab_get l 2 = some (.int x2) := by rw [hl]; rfl
  refine r_aload_n (pc := 0) p68 k68_0 h0 ?_
  refine r_iload_n (pc := 1) p68 k68_1 h2 ?_
  rcases of_tb e with ⟨r1, er1, e⟩ | ⟨t, et, rfl⟩
  rotate_left
  · exact c_cvx (i := 17) rfl (pc := 2) p68 k68_2 rfl p69 (r := []) rfl rfl rfl rfl rfl rfl (t69 E hE s x2 _ et)
  refine c_cv (i := 17) rfl (pc := 2) p68 k68_2 rfl p69 (r := []) rfl rfl rfl rfl rfl rfl (t69 E hE s x2 _ er1) (w := [.int r1.1]) rfl ?_
  refine r_istore_n (pc := 5) p68 k68_5 (by decide) (fun l g h3 => ?_)
  have h0 := g 0 _ (by decide) h0 (Or.inl rfl)
  have h1 := g 1 _ (by decide) h1 (Or.inl rfl)
  have h2 := g 2 _ (by decide) h2 (Or.inl rfl)
  refine r_iconst (pc := 6) p68 k68_6 (v := (0 : Int32)) rfl ?_
  refine r_istore (pc := 7) p68 k68_7 (by decide) (fun l g h4 => ?_)
  have h0 := g 0 _ (by decide) h0 (Or.inl rfl)
  have h1 := g 1 _ (by decide) h1 (Or.inl rfl)
  have h2 := g 2 _ (by decide) h2 (Or.inl rfl)
  have h3 := g 3 _ (by decide) h3 (Or.inl rfl)
  exact t68b_9 E hE mm_U r1.2 l x1 x2 r1.1 (0 : Int32) h0 h1 h2 h3 h4 r e

def f68v : Nat → cS → Int32 → Int32 → Option ((Int32 × cS) ⊕ cS)
  | 0 => fun _ _ _ => none
  | v + 1 => f68b (f68v v)
def f68 : cS → Int32 → Int32 → Option ((Int32 × cS) ⊕ cS) := f68v 150
theorem t68v {Z : Nat → ab_C} : ∀ (v d : Nat) (s : cS) (x1 x2 : Int32) (r : (Int32 × cS) ⊕ cS) (e : f68v v s x1 x2 = some r), ab_Rn (d + 3 * v + 5) 68 0 (lv_args 0 [.ref 17, .int x1, .int x2]) [] (ch s Z) (oI r) (ch (zI r) Z) := by
  intro v
  induction v with
  | zero => intro d s x1 x2 r e; cases e
  | succ v ih =>
    intro d s x1 x2 r e
    have h := t68b (d := d + 3 * v) (Z := Z) (f68v v) (fun c s2 y1 y2 r2 e2 => by
      have h2 := ih (d + c) s2 y1 y2 r2 e2
      have e8 : d + c + 3 * v = d + 3 * v + c := by omega
      rw [e8] at h2
      exact h2) s x1 x2 r e
    have e9 : d + 3 * v + 8 = d + 3 * (v + 1) + 5 := by omega
    rw [e9] at h
    exact h
theorem t68 {d : Nat} {Z : Nat → ab_C} (s : cS) (x1 x2 : Int32) (r : (Int32 × cS) ⊕ cS) (e : f68 s x1 x2 = some r) : ab_Rn (d + 455) 68 0 (lv_args 0 [.ref 17, .int x1, .int x2]) [] (ch s Z) (oI r) (ch (zI r) Z) := by
  have h := t68v (Z := Z) 150 d s x1 x2 r e
  have e9 : d + 3 * 150 + 5 = d + 455 := by omega
  rw [e9] at h
  exact h

theorem p83 : ab_prog[83]? = some (ab_m83, ab_c83) := rfl
theorem k83_0 : ab_fetch ab_c83 0 = some (.aload_n 0, 1, 0, 0) := rfl
theorem k83_1 : ab_fetch ab_c83 1 = some (.getfield 19, 3, 2, 2) := rfl
theorem k83_4 : ab_fetch ab_c83 4 = some (.ifCond .le 7, 3, 11, 0) := rfl
theorem k83_7 : ab_fetch ab_c83 7 = some (.iconst 2, 1, 0, 0) := rfl
theorem k83_8 : ab_fetch ab_c83 8 = some (.goto 4, 3, 12, 0) := rfl
theorem k83_11 : ab_fetch ab_c83 11 = some (.iconst 1, 1, 0, 0) := rfl
theorem k83_12 : ab_fetch ab_c83 12 = some (.istore_n 2, 1, 0, 0) := rfl
theorem k83_13 : ab_fetch ab_c83 13 = some (.bipush 52, 2, 0, 0) := rfl
theorem k83_15 : ab_fetch ab_c83 15 = some (.iload_n 2, 1, 0, 0) := rfl
theorem k83_16 : ab_fetch ab_c83 16 = some (.bipush 32, 2, 0, 0) := rfl
theorem k83_18 : ab_fetch ab_c83 18 = some (.imul, 1, 0, 0) := rfl
theorem k83_19 : ab_fetch ab_c83 19 = some (.iadd, 1, 0, 0) := rfl
theorem k83_20 : ab_fetch ab_c83 20 = some (.istore_n 3, 1, 0, 0) := rfl
theorem k83_21 : ab_fetch ab_c83 21 = some (.iload_n 1, 1, 0, 0) := rfl
theorem k83_22 : ab_fetch ab_c83 22 = some (.ifCond .ne 7, 3, 29, 0) := rfl
theorem k83_25 : ab_fetch ab_c83 25 = some (.iload_n 3, 1, 0, 0) := rfl
theorem k83_26 : ab_fetch ab_c83 26 = some (.goto 9, 3, 35, 0) := rfl
theorem k83_29 : ab_fetch ab_c83 29 = some (.iload_n 3, 1, 0, 0) := rfl
theorem k83_30 : ab_fetch ab_c83 30 = some (.aload_n 0, 1, 0, 0) := rfl
theorem k83_31 : ab_fetch ab_c83 31 = some (.getfield 15, 3, 2, 1) := rfl
theorem k83_34 : ab_fetch ab_c83 34 = some (.iadd, 1, 0, 0) := rfl
theorem k83_35 : ab_fetch ab_c83 35 = some (.ireturn, 1, 0, 0) := rfl
/- CodeSmith$Image placeOf(I)I -/
def f83_12 (x0 : Nat) (s : cS) (x1 : Int32) (y0 : Int32) : Int32 := (if x1 = 0 then ((52 : Int32) + (y0 * (32 : Int32))) else (((52 : Int32) + (y0 * (32 : Int32))) + (s.1 x0 1)))
theorem t83_12 {d : Nat} {Z : Nat → ab_C} (x0 : Nat) (hq : cQ x0) : ∀ (s : cS) (l : ab_L) (x1 : Int32) (y0 : Int32) (h0 : ab_get l 0 = some (.ref x0)) (h1 : ab_get l 1 = some (.int x1)) (r : Int32) (e : f83_12 x0 s x1 y0 = r), ab_Rn d 83 12 l [.int y0] (ch s Z) (.inl (some (.int r))) (ch s Z) := by
  intro s l x1 y0 h0 h1 r e
  unfold f83_12 at e
  refine r_istore_n (pc := 12) p83 k83_12 (by decide) (fun l g h2 => ?_)
  have h0 := g 0 _ (by decide) h0 (Or.inl rfl)
  have h1 := g 1 _ (by decide) h1 (Or.inl rfl)
  refine r_bipush (pc := 13) p83 k83_13 (v := (52 : Int32)) rfl ?_
  refine r_iload_n (pc := 15) p83 k83_15 h2 ?_
  refine r_bipush (pc := 16) p83 k83_16 (v := (32 : Int32)) rfl ?_
  refine r_imul (pc := 18) p83 k83_18 ?_
  refine r_iadd (pc := 19) p83 k83_19 ?_
  refine r_istore_n (pc := 20) p83 k83_20 (by decide) (fun l g h3 => ?_)
  have h0 := g 0 _ (by decide) h0 (Or.inl rfl)
  have h1 := g 1 _ (by decide) h1 (Or.inl rfl)
  refine r_iload_n (pc := 21) p83 k83_21 h1 ?_
  refine r_if_ne (pc := 22) p83 k83_22 (fun c => ?_) (fun c => ?_)
  · have e := (if_neg c).symm.trans e
    refine r_iload_n (pc := 29) p83 k83_29 h3 ?_
    refine r_aload_n (pc := 30) p83 k83_30 h0 ?_
    refine c_getI hq (pc := 31) p83 k83_31 (v := .int (s.1 x0 1)) rfl ?_
    refine r_iadd (pc := 34) p83 k83_34 ?_
    subst e
    exact r_retI (pc := 35) p83 k83_35 rfl
  · have e := (if_pos c).symm.trans e
    refine r_iload_n (pc := 25) p83 k83_25 h3 ?_
    refine r_goto (pc := 26) p83 k83_26 ?_
    subst e
    exact r_retI (pc := 35) p83 k83_35 rfl
def f83 (x0 : Nat) (s : cS) (x1 : Int32) : Int32 := (if (s.1 x0 2) ≤ 0 then f83_12 x0 s x1 (1 : Int32) else f83_12 x0 s x1 (2 : Int32))
theorem t83 {d : Nat} {Z : Nat → ab_C} (x0 : Nat) (hq : cQ x0) (s : cS) (x1 : Int32) (r : Int32) (e : f83 x0 s x1 = r) : ab_Rn d 83 0 (lv_args 0 [.ref x0, .int x1]) [] (ch s Z) (.inl (some (.int r))) (ch s Z) := by
  unfold f83 at e
  obtain ⟨l, hl⟩ : ∃ l, l = (lv_args 0 [.ref x0, .int x1]) := ⟨_, rfl⟩
  rw [← hl]
  have h0 : ab_get l 0 = some (.ref x0) := by rw [hl]; rfl
  have h1 : ab_get l 1 = some (.int x1) := by rw [hl]; rfl
  refine r_aload_n (pc := 0) p83 k83_0 h0 ?_
  refine c_getI hq (pc := 1) p83 k83_1 (v := .int (s.1 x0 2)) rfl ?_
  refine r_if_le (pc := 4) p83 k83_4 (fun c => ?_) (fun c => ?_)
  · have e := (if_pos c).symm.trans e
    refine r_iconst (pc := 11) p83 k83_11 (v := (1 : Int32)) rfl ?_
    exact t83_12 x0 hq s l x1 (1 : Int32) h0 h1 r e
  · have e := (if_neg c).symm.trans e
    refine r_iconst (pc := 7) p83 k83_7 (v := (2 : Int32)) rfl ?_
    refine r_goto (pc := 8) p83 k83_8 ?_
    exact t83_12 x0 hq s l x1 (2 : Int32) h0 h1 r e

theorem p84 : ab_prog[84]? = some (ab_m84, ab_c84) := rfl
theorem k84_0 : ab_fetch ab_c84 0 = some (.iconst 0, 1, 0, 0) := rfl
theorem k84_1 : ab_fetch ab_c84 1 = some (.istore 4, 2, 0, 0) := rfl
theorem k84_3 : ab_fetch ab_c84 3 = some (.iload 4, 2, 0, 0) := rfl
theorem k84_5 : ab_fetch ab_c84 5 = some (.iload_n 3, 1, 0, 0) := rfl
theorem k84_6 : ab_fetch ab_c84 6 = some (.if_icmp .ge 53, 3, 59, 0) := rfl
theorem k84_9 : ab_fetch ab_c84 9 = some (.iload_n 1, 1, 0, 0) := rfl
theorem k84_10 : ab_fetch ab_c84 10 = some (.ifCond .lt 49, 3, 59, 0) := rfl
theorem k84_13 : ab_fetch ab_c84 13 = some (.iload_n 1, 1, 0, 0) := rfl
theorem k84_14 : ab_fetch ab_c84 14 = some (.iload 4, 2, 0, 0) := rfl
theorem k84_16 : ab_fetch ab_c84 16 = some (.iadd, 1, 0, 0) := rfl
theorem k84_17 : ab_fetch ab_c84 17 = some (.aload_n 0, 1, 0, 0) := rfl
theorem k84_18 : ab_fetch ab_c84 18 = some (.getfield 26, 3, 2, 0) := rfl
theorem k84_21 : ab_fetch ab_c84 21 = some (.if_icmp .ge 38, 3, 59, 0) := rfl
theorem k84_24 : ab_fetch ab_c84 24 = some (.iload_n 1, 1, 0, 0) := rfl
theorem k84_25 : ab_fetch ab_c84 25 = some (.iload 4, 2, 0, 0) := rfl
theorem k84_27 : ab_fetch ab_c84 27 = some (.iadd, 1, 0, 0) := rfl
theorem k84_28 : ab_fetch ab_c84 28 = some (.aload_n 0, 1, 0, 0) := rfl
theorem k84_29 : ab_fetch ab_c84 29 = some (.getfield 9, 3, 2, 4) := rfl
theorem k84_32 : ab_fetch ab_c84 32 = some (.arraylength, 1, 0, 0) := rfl
theorem k84_33 : ab_fetch ab_c84 33 = some (.if_icmp .ge 26, 3, 59, 0) := rfl
theorem k84_36 : ab_fetch ab_c84 36 = some (.aload_n 0, 1, 0, 0) := rfl
theorem k84_37 : ab_fetch ab_c84 37 = some (.getfield 9, 3, 2, 4) := rfl
theorem k84_40 : ab_fetch ab_c84 40 = some (.iload_n 1, 1, 0, 0) := rfl
theorem k84_41 : ab_fetch ab_c84 41 = some (.iload 4, 2, 0, 0) := rfl
theorem k84_43 : ab_fetch ab_c84 43 = some (.iadd, 1, 0, 0) := rfl
theorem k84_44 : ab_fetch ab_c84 44 = some (.iload_n 2, 1, 0, 0) := rfl
theorem k84_45 : ab_fetch ab_c84 45 = some (.bipush 8, 2, 0, 0) := rfl
theorem k84_47 : ab_fetch ab_c84 47 = some (.iload 4, 2, 0, 0) := rfl
theorem k84_49 : ab_fetch ab_c84 49 = some (.imul, 1, 0, 0) := rfl
theorem k84_50 : ab_fetch ab_c84 50 = some (.ishr, 1, 0, 0) := rfl
theorem k84_51 : ab_fetch ab_c84 51 = some (.i2b, 1, 0, 0) := rfl
theorem k84_52 : ab_fetch ab_c84 52 = some (.bastore, 1, 0, 0) := rfl
theorem k84_53 : ab_fetch ab_c84 53 = some (.iinc 4 1, 3, 0, 0) := rfl
theorem k84_56 : ab_fetch ab_c84 56 = some (.goto (-53), 3, 3, 0) := rfl
theorem k84_59 : ab_fetch ab_c84 59 = some (.return_, 1, 0, 0) := rfl
/- CodeSmith$Image put(III)V -/
def f84_3 (x0 : Nat) : Nat → cS → Int32 → Int32 → Int32 → Int32 → Option cS
  | 0, _, _, _, _, _ => none
  | u + 1, s, x1, x2, x3, x4 => (if x3 ≤ x4 then some s else (if x1 < 0 then some s else (if (s.1 x0 0) ≤ (x1 + x4) then some s else if cA s 0 (s.2.1 x0 4) then (if (Int32.ofNat (cl s (s.2.1 x0 4))) ≤ (x1 + x4) then some s else if cB s 0 (s.2.1 x0 4) (x1 + x4) then f84_3 x0 u (cw s (s.2.1 x0 4) (x1 + x4) (x2 >>> (((8 : Int32) * x4) &&& 31)).toInt8.toInt32.toInt8.toInt32) x1 x2 x3 (x4 + (1 : Int32)) else none) else none)))
theorem t84_3 {d : Nat} {Z : Nat → ab_C} (x0 : Nat) (hq : cQ x0) : ∀ u : Nat, ∀ (s : cS) (l : ab_L) (x1 : Int32) (x2 : Int32) (x3 : Int32) (x4 : Int32) (h0 : ab_get l 0 = some (.ref x0)) (h1 : ab_get l 1 = some (.int x1)) (h2 : ab_get l 2 = some (.int x2)) (h3 : ab_get l 3 = some (.int x3)) (h4 : ab_get l 4 = some (.int x4)) (r : cS) (e : f84_3 x0 u s x1 x2 x3 x4 = some r), ab_Rn d 84 3 l [] (ch s Z) (.inl none) (ch r Z) := by
  intro u
  induction u with
  | zero => intro s l x1 x2 x3 x4 h0 h1 h2 h3 h4 r e; rw [f84_3] at e; cases e
  | succ u ih =>
    intro s l x1 x2 x3 x4 h0 h1 h2 h3 h4 r e
    rw [f84_3] at e
    refine r_iload (pc := 3) p84 k84_3 h4 ?_
    refine r_iload_n (pc := 5) p84 k84_5 h3 ?_
    refine r_ic_ge (pc := 6) p84 k84_6 (fun c => ?_) (fun c => ?_)
    · have e := (if_pos c).symm.trans e
      obtain rfl := Option.some.inj e
      exact r_retV (pc := 59) p84 k84_59 rfl
    · have e := (if_neg c).symm.trans e
      refine r_iload_n (pc := 9) p84 k84_9 h1 ?_
      refine r_if_lt (pc := 10) p84 k84_10 (fun c => ?_) (fun c => ?_)
      · have e := (if_pos c).symm.trans e
        obtain rfl := Option.some.inj e
        exact r_retV (pc := 59) p84 k84_59 rfl
      · have e := (if_neg c).symm.trans e
        refine r_iload_n (pc := 13) p84 k84_13 h1 ?_
        refine r_iload (pc := 14) p84 k84_14 h4 ?_
        refine r_iadd (pc := 16) p84 k84_16 ?_
        refine r_aload_n (pc := 17) p84 k84_17 h0 ?_
        refine c_getI hq (pc := 18) p84 k84_18 (v := .int (s.1 x0 0)) rfl ?_
        refine r_ic_ge (pc := 21) p84 k84_21 (fun c => ?_) (fun c => ?_)
        · have e := (if_pos c).symm.trans e
          obtain rfl := Option.some.inj e
          exact r_retV (pc := 59) p84 k84_59 rfl
        · have e := (if_neg c).symm.trans e
          refine r_iload_n (pc := 24) p84 k84_24 h1 ?_
          refine r_iload (pc := 25) p84 k84_25 h4 ?_
          refine r_iadd (pc := 27) p84 k84_27 ?_
          refine r_aload_n (pc := 28) p84 k84_28 h0 ?_
          refine c_getI hq (pc := 29) p84 k84_29 (v := .ref (s.2.1 x0 4)) rfl ?_
          obtain ⟨c, e⟩ := of_if e
          refine c_alen (pc := 32) p84 k84_32 (t := 0) rfl c ?_
          refine r_ic_ge (pc := 33) p84 k84_33 (fun c => ?_) (fun c => ?_)
          · have e := (if_pos c).symm.trans e
            obtain rfl := Option.some.inj e
            exact r_retV (pc := 59) p84 k84_59 rfl
          · have e := (if_neg c).symm.trans e
            refine r_aload_n (pc := 36) p84 k84_36 h0 ?_
            refine c_getI hq (pc := 37) p84 k84_37 (v := .ref (s.2.1 x0 4)) rfl ?_
            refine r_iload_n (pc := 40) p84 k84_40 h1 ?_
            refine r_iload (pc := 41) p84 k84_41 h4 ?_
            refine r_iadd (pc := 43) p84 k84_43 ?_
            refine r_iload_n (pc := 44) p84 k84_44 h2 ?_
            refine r_bipush (pc := 45) p84 k84_45 (v := (8 : Int32)) rfl ?_
            refine r_iload (pc := 47) p84 k84_47 h4 ?_
            refine r_imul (pc := 49) p84 k84_49 ?_
            refine r_ishr (pc := 50) p84 k84_50 ?_
            refine r_i2b (pc := 51) p84 k84_51 ?_
            obtain ⟨c, e⟩ := of_if e
            refine c_bst (pc := 52) p84 k84_52 c ?_
            refine r_iinc (pc := 53) p84 k84_53 h4 (by decide) (v := (x4 + (1 : Int32))) rfl (fun l g h4 => ?_)
            have h0 := g 0 _ (by decide) h0 (Or.inl rfl)
            have h1 := g 1 _ (by decide) h1 (Or.inl rfl)
            have h2 := g 2 _ (by decide) h2 (Or.inl rfl)
            have h3 := g 3 _ (by decide) h3 (Or.inl rfl)
            refine r_goto (pc := 56) p84 k84_56 ?_
            exact ih (cw s (s.2.1 x0 4) (x1 + x4) (x2 >>> (((8 : Int32) * x4) &&& 31)).toInt8.toInt32.toInt8.toInt32) l x1 x2 x3 (x4 + (1 : Int32)) h0 h1 h2 h3 h4 r e
def f84 (x0 : Nat) (s : cS) (x1 : Int32) (x2 : Int32) (x3 : Int32) : Option cS := f84_3 x0 mm_U s x1 x2 x3 (0 : Int32)
theorem t84 {d : Nat} {Z : Nat → ab_C} (x0 : Nat) (hq : cQ x0) (s : cS) (x1 : Int32) (x2 : Int32) (x3 : Int32) (r : cS) (e : f84 x0 s x1 x2 x3 = some r) : ab_Rn d 84 0 (lv_args 0 [.ref x0, .int x1, .int x2, .int x3]) [] (ch s Z) (.inl none) (ch r Z) := by
  unfold f84 at e
  obtain ⟨l, hl⟩ : ∃ l, l = (lv_args 0 [.ref x0, .int x1, .int x2, .int x3]) := ⟨_, rfl⟩
  rw [← hl]
  have h0 : ab_get l 0 = some (.ref x0) := by rw [hl]; rfl
  have h1 : ab_get l 1 = some (.int x1) := by rw [hl]; rfl
  have h2 : ab_get l 2 = some (.int x2) := by rw [hl]; rfl
  have h3 : ab_get l 3 = some (.int x3) := by rw [hl]; rfl
  refine r_iconst (pc := 0) p84 k84_0 (v := (0 : Int32)) rfl ?_
  refine r_istore (pc := 1) p84 k84_1 (by decide) (fun l g h4 => ?_)
  have h0 := g 0 _ (by decide) h0 (Or.inl rfl)
  have h1 := g 1 _ (by decide) h1 (Or.inl rfl)
  have h2 := g 2 _ (by decide) h2 (Or.inl rfl)
  have h3 := g 3 _ (by decide) h3 (Or.inl rfl)
  exact t84_3 x0 hq mm_U s l x1 x2 x3 (0 : Int32) h0 h1 h2 h3 h4 r e
