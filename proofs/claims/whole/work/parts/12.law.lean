/-! THE LAW's BODY as a run of the abstract machine: the script is the constant array 600. -/
def ab_lc : List ab_I := [(0, .new 8, 3, 5, 0), (3, .dup, 1, 0, 0), (4, .invokespecial 15, 3, 0, 0), (7, .astore_n 1, 1, 0, 0), (8, .new 16, 3, 6, 0), (11, .dup, 1, 0, 0), (12, .invokespecial 18, 3, 108, 0), (15, .astore_n 2, 1, 0, 0), (16, .iconst 1, 1, 0, 0), (17, .newarray .long, 2, 0, 0), (19, .astore_n 3, 1, 0, 0), (20, .iconst 0, 1, 0, 0), (21, .istore 4, 2, 0, 0), (23, .iload 4, 2, 0, 0), (25, .aload_n 0, 1, 0, 0), (26, .arraylength, 1, 0, 0), (27, .bipush 6, 2, 0, 0), (29, .isub, 1, 0, 0), (30, .if_icmp .gt 290, 3, 320, 0), (33, .aload_n 0, 1, 0, 0), (34, .iload 4, 2, 0, 0), (36, .iaload, 1, 0, 0), (37, .bipush 7, 2, 0, 0), (39, .iand, 1, 0, 0), (40, .tableswitch 274 0 6 #[44, 117, 142, 155, 199, 224, 249], 44, 0, 0), (84, .aload_n 1, 1, 0, 0), (85, .aload_n 0, 1, 0, 0), (86, .iload 4, 2, 0, 0), (88, .iconst 1, 1, 0, 0), (89, .iadd, 1, 0, 0), (90, .iaload, 1, 0, 0), (91, .aload_n 0, 1, 0, 0), (92, .iload 4, 2, 0, 0), (94, .iconst 2, 1, 0, 0), (95, .iadd, 1, 0, 0), (96, .iaload, 1, 0, 0), (97, .aload_n 0, 1, 0, 0), (98, .iload 4, 2, 0, 0), (100, .iconst 3, 1, 0, 0), (101, .iadd, 1, 0, 0), (102, .iaload, 1, 0, 0), (103, .aload_n 0, 1, 0, 0), (104, .iload 4, 2, 0, 0), (106, .iconst 4, 1, 0, 0), (107, .iadd, 1, 0, 0), (108, .iaload, 1, 0, 0), (109, .aload_n 0, 1, 0, 0), (110, .iload 4, 2, 0, 0), (112, .iconst 5, 1, 0, 0), (113, .iadd, 1, 0, 0), (114, .iaload, 1, 0, 0), (115, .invokevirtual 19, 3, 6, 0), (118, .aload_n 2, 1, 0, 0), (119, .aload_n 0, 1, 0, 0), (120, .iload 4, 2, 0, 0), (122, .iconst 1, 1, 0, 0), (123, .iadd, 1, 0, 0), (124, .iaload, 1, 0, 0), (125, .aload_n 0, 1, 0, 0), (126, .iload 4, 2, 0, 0), (128, .iconst 2, 1, 0, 0), (129, .iadd, 1, 0, 0), (130, .iaload, 1, 0, 0), (131, .aload_n 0, 1, 0, 0), (132, .iload 4, 2, 0, 0), (134, .iconst 3, 1, 0, 0), (135, .iadd, 1, 0, 0), (136, .iaload, 1, 0, 0), (137, .aload_n 0, 1, 0, 0), (138, .iload 4, 2, 0, 0), (140, .iconst 4, 1, 0, 0), (141, .iadd, 1, 0, 0), (142, .iaload, 1, 0, 0), (143, .aload_n 0, 1, 0, 0), (144, .iload 4, 2, 0, 0), (146, .iconst 5, 1, 0, 0), (147, .iadd, 1, 0, 0), (148, .iaload, 1, 0, 0), (149, .invokevirtual 23, 3, 110, 0), (152, .if_icmp .eq 162, 3, 314, 0), (155, .iconst 0, 1, 0, 0), (156, .ireturn, 1, 0, 0), (157, .aload_n 1, 1, 0, 0), (158, .aload_n 0, 1, 0, 0), (159, .iload 4, 2, 0, 0), (161, .iconst 1, 1, 0, 0), (162, .iadd, 1, 0, 0), (163, .iaload, 1, 0, 0), (164, .invokevirtual 24, 3, 9, 0), (167, .aload_n 2, 1, 0, 0), (168, .aload_n 0, 1, 0, 0), (169, .iload 4, 2, 0, 0), (171, .iconst 1, 1, 0, 0), (172, .iadd, 1, 0, 0), (173, .iaload, 1, 0, 0), (174, .invokevirtual 28, 3, 111, 0), (177, .if_icmp .eq 137, 3, 314, 0), (180, .iconst 0, 1, 0, 0), (181, .ireturn, 1, 0, 0), (182, .aload_n 1, 1, 0, 0), (183, .invokevirtual 29, 3, 10, 0), (186, .aload_n 2, 1, 0, 0), (187, .invokevirtual 32, 3, 112, 0), (190, .if_icmp .eq 124, 3, 314, 0), (193, .iconst 0, 1, 0, 0), (194, .ireturn, 1, 0, 0), (195, .aload_n 1, 1, 0, 0), (196, .aload_n 3, 1, 0, 0), (197, .invokestatic 33, 3, 0, 0), (200, .istore 5, 2, 0, 0), (202, .aload_n 2, 1, 0, 0), (203, .invokevirtual 38, 3, 113, 0), (206, .istore 6, 2, 0, 0), (208, .aload_n 2, 1, 0, 0), (209, .invokevirtual 39, 3, 109, 0), (212, .iload 5, 2, 0, 0), (214, .if_icmp .eq 5, 3, 219, 0), (217, .iconst 0, 1, 0, 0), (218, .ireturn, 1, 0, 0), (219, .iload 5, 2, 0, 0), (221, .ifCond .ne 15, 3, 236, 0), (224, .aload_n 3, 1, 0, 0), (225, .iconst 0, 1, 0, 0), (226, .laload, 1, 0, 0), (227, .iload 6, 2, 0, 0), (229, .i2l, 1, 0, 0), (230, .lcmp, 1, 0, 0), (231, .ifCond .eq 5, 3, 236, 0), (234, .iconst 0, 1, 0, 0), (235, .ireturn, 1, 0, 0), (236, .goto 78, 3, 314, 0), (239, .aload_n 1, 1, 0, 0), (240, .aload_n 0, 1, 0, 0), (241, .iload 4, 2, 0, 0), (243, .iconst 1, 1, 0, 0), (244, .iadd, 1, 0, 0), (245, .iaload, 1, 0, 0), (246, .invokevirtual 42, 3, 11, 0), (249, .aload_n 2, 1, 0, 0), (250, .aload_n 0, 1, 0, 0), (251, .iload 4, 2, 0, 0), (253, .iconst 1, 1, 0, 0), (254, .iadd, 1, 0, 0), (255, .iaload, 1, 0, 0), (256, .invokevirtual 46, 3, 174, 0), (259, .if_icmp .eq 55, 3, 314, 0), (262, .iconst 0, 1, 0, 0), (263, .ireturn, 1, 0, 0), (264, .aload_n 1, 1, 0, 0), (265, .aload_n 0, 1, 0, 0), (266, .iload 4, 2, 0, 0), (268, .iconst 1, 1, 0, 0), (269, .iadd, 1, 0, 0), (270, .iaload, 1, 0, 0), (271, .invokevirtual 47, 3, 12, 0), (274, .aload_n 2, 1, 0, 0), (275, .aload_n 0, 1, 0, 0), (276, .iload 4, 2, 0, 0), (278, .iconst 1, 1, 0, 0), (279, .iadd, 1, 0, 0), (280, .iaload, 1, 0, 0), (281, .invokevirtual 50, 3, 175, 0), (284, .if_icmp .eq 30, 3, 314, 0), (287, .iconst 0, 1, 0, 0), (288, .ireturn, 1, 0, 0), (289, .aload_n 1, 1, 0, 0), (290, .aload_n 0, 1, 0, 0), (291, .iload 4, 2, 0, 0), (293, .iconst 1, 1, 0, 0), (294, .iadd, 1, 0, 0), (295, .iaload, 1, 0, 0), (296, .invokevirtual 51, 3, 14, 0), (299, .aload_n 2, 1, 0, 0), (300, .aload_n 0, 1, 0, 0), (301, .iload 4, 2, 0, 0), (303, .iconst 1, 1, 0, 0), (304, .iadd, 1, 0, 0), (305, .iaload, 1, 0, 0), (306, .invokevirtual 54, 3, 176, 0), (309, .if_icmp .eq 5, 3, 314, 0), (312, .iconst 0, 1, 0, 0), (313, .ireturn, 1, 0, 0), (314, .iinc 4 6, 3, 0, 0), (317, .goto (-294), 3, 23, 0), (320, .iconst 1, 1, 0, 0), (321, .ireturn, 1, 0, 0)]
def ab_lv : List (Nat × Nat × Nat × Nat × Nat) := [(19, 6, 363, 364, 365), (23, 110, 1195, 1196, 1197), (24, 9, 389, 390, 391), (28, 111, 1199, 1200, 1201), (29, 10, 393, 394, 395), (32, 112, 1203, 1204, 1205), (38, 113, 1207, 1208, 1209), (39, 109, 1191, 1192, 1193), (42, 11, 397, 398, 399), (46, 174, 1453, 1454, 1455), (47, 12, 401, 402, 403), (50, 175, 1457, 1458, 1459), (51, 14, 409, 410, 411), (54, 176, 1461, 1462, 1463)]
def ab_li : List (Nat × Nat × Nat × Nat) := [(15, 0, 123, 124), (18, 108, 923, 924)]
def ab_ln9 : List (Nat × Nat) := [(8, 5), (16, 6)]
def ab_leok (q : ab_I) : Bool := decide (decode code q.1 = .ok (q.2.1, q.2.2.1)) && (q.2.2.1 == ab_len q.2.1 || ab_len q.2.1 == 0) && ab_tok q.2.1 q.1 q.2.2.2.1 && (match q.2.1 with
  | .invokevirtual i => ab_lv.any (fun z => z.1 == i && z.2.1 == q.2.2.2.1)
  | .invokespecial i => ab_li.any (fun z => z.1 == i && z.2.1 == q.2.2.2.1)
  | .invokestatic i => i == 33
  | .new i => ab_ln9.any (fun z => z.1 == i && z.2 == q.2.2.2.1)
  | _ => true)
set_option maxRecDepth 1000000 in
theorem ab_lc_ok : ab_lc.all ab_leok = true := by decide +kernel
def ab_lv_ok (q : Nat × Nat × Nat × Nat × Nat) : Bool := match ab_prog[q.2.1]? with
  | some P => decide (lw_tbl[q.2.2.1]? = some (.methodLink "CodeSmithLaw" q.1 P.1.2.1)) && decide (lw_tbl[q.2.2.2.1]? = some (.instanceMethod P.1.2.1)) && decide (lw_tbl[q.2.2.2.2]? = some (.selects P.1.2.1.cls P.1.2.1 P.1.2.1))
  | none => false
set_option maxRecDepth 1000000 in
theorem ab_lv_all : ab_lv.all ab_lv_ok = true := by decide +kernel
def ab_li_ok (q : Nat × Nat × Nat × Nat) : Bool := match ab_prog[q.2.1]? with
  | some P => decide (lw_tbl[q.2.2.1]? = some (.methodLink "CodeSmithLaw" q.1 P.1.2.1)) && decide (lw_tbl[q.2.2.2]? = some (.instanceMethod P.1.2.1)) && decide (P.1.2.1.name = "<init>") && decide (P.1.2.2.2.2.1 = none)
  | none => false
set_option maxRecDepth 1000000 in
theorem ab_li_all : ab_li.all ab_li_ok = true := by decide +kernel
set_option maxRecDepth 1000000 in
theorem ab_ln9_w : Cond.classLink "CodeSmithLaw" 8 "CodeSmith" ∈ lw_tbl ∧ Cond.classLink "CodeSmithLaw" 16 "CodeSmithModel" ∈ lw_tbl := by decide +kernel
def ab_lx (xs : Nat → Int32) (L : Nat) (i : Instr) (h : ab_H) (st : List Value) : Option (List Value) := match i with
  | .arraylength => match st with
    | .retAddr k :: r => if k = 600 then some (.int (Int32.ofNat L) :: r) else none
    | _ => none
  | .iaload => match st with
    | .int j :: .retAddr k :: r => if k = 600 ∧ ¬ (j < 0 ∨ L ≤ j.toNatClampNeg) then some (.int (xs j.toNatClampNeg) :: r) else none
    | _ => none
  | .laload => ab_lald h st
  | _ => none
def ab_lnw (i : Instr) (a : Nat) (h : ab_H) (st : List Value) : Option (List Value × ab_H) := match i with
  | .new _ => ab_nw a h st
  | .newarray t => ab_nwa t h st
  | _ => none
def ab_ln (xs : Nat → Int32) (L : Nat) (i : Instr) (a pc : Nat) (l : ab_L) (st : List Value) (h : ab_H) : Option (Nat × ab_L × List Value × ab_H) :=
  match ab_op i st with
  | some st' => some (pc + ab_len i, l, st', h)
  | none => match ab_ld i l with
    | some v => some (pc + ab_len i, l, v :: st, h)
    | none => match ab_sto 7 i l st with
      | some q => some (pc + ab_len i, q.1, q.2, h)
      | none => match ab_br i pc a st with
        | some q => some (q.1, l, q.2, h)
        | none => match ab_lx xs L i h st with
          | some st' => some (pc + ab_len i, l, st', h)
          | none => match ab_lnw i a h st with
            | some q => some (pc + ab_len i, l, q.1, q.2)
            | none => none
def ab_lret (i : Instr) (st : List Value) : Option Int32 := match i with
  | .ireturn => match st with
    | [.int v] => some v
    | _ => none
  | _ => none
def ab_lc2 (n d : Nat) (i : Instr) (a : Nat) (h : ab_H) (st : List Value) : Option (Option Value × List Value × ab_H) := match ab_prog[a]? with
  | none => none
  | some P2 => match ab_inv i a P2.1.2.2.2.2.2.1 P2.1.2.1.cls h st with
    | none => none
    | some z => if (lg_sl z.1).length ≤ P2.1.2.2.2.1 then (match ab_go n d a 0 (lv_args 0 z.1) [] h with
      | some (.inl v, h') => some (v, z.2, h')
      | _ => none) else none
def ab_lcs (n d : Nat) (h : ab_H) (st : List Value) : Option (Option Value × List Value × ab_H) := match st with
  | .ref o :: .ref x :: r => match h[x]? with
    | some (.inr ob) => if ob.1 = 5 ∧ ab_cat r ≤ 8 then (match ab_la n d h x o with
      | some z => some (some (.int z.1), r, z.2)
      | none => none) else none
    | _ => none
  | _ => none
def ab_lcl (n d : Nat) (i : Instr) (a : Nat) (h : ab_H) (st : List Value) : Option (Option Value × List Value × ab_H) := match i with
  | .invokestatic _ => ab_lcs n d h st
  | .invokevirtual _ => ab_lc2 n d i a h st
  | .invokespecial _ => ab_lc2 n d i a h st
  | _ => none
def ab_law (xs : Nat → Int32) (L : Nat) : Nat → Nat → Nat → ab_L → List Value → ab_H → Option (Int32 × ab_H)
  | 0, _, _, _, _, _ => none
  | n + 1, d, pc, l, st, h => match ab_fetch ab_lc pc with
    | none => none
    | some q => match ab_ln xs L q.1 q.2.2.1 pc l st h with
      | some z => ab_law xs L n d z.1 z.2.1 z.2.2.1 z.2.2.2
      | none => match ab_lret q.1 st with
        | some v => some (v, h)
        | none => match ab_lcl n d q.1 q.2.2.1 h st with
          | none => none
          | some z => ab_law xs L n d (pc + 3) l (z.1.toList ++ z.2.1) z.2.2
