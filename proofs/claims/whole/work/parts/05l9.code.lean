def ab_c108_15 : List ab_I := [(1077, .iconst 4, 1, 0, 0), (1078, .iastore, 1, 0, 0), (1079, .dup, 1, 0, 0), (1080, .bipush 50, 2, 0, 0), (1082, .iconst 5, 1, 0, 0), (1083, .iastore, 1, 0, 0), (1084, .putfield 248, 3, 6, 2), (1087, .aload_n 0, 1, 0, 0), (1088, .ldc 252, 2, 65536, 0), (1090, .newarray .byte, 2, 0, 0), (1092, .putfield 253, 3, 6, 4), (1095, .aload_n 0, 1, 0, 0), (1096, .ldc 252, 2, 65536, 0), (1098, .newarray .byte, 2, 0, 0), (1100, .putfield 257, 3, 6, 6), (1103, .aload_n 0, 1, 0, 0), (1104, .ldc 252, 2, 65536, 0), (1106, .newarray .byte, 2, 0, 0), (1108, .putfield 260, 3, 6, 25), (1111, .aload_n 0, 1, 0, 0), (1112, .sipush 17500, 3, 0, 0), (1115, .newarray .int, 2, 0, 0), (1117, .putfield 263, 3, 6, 27), (1120, .aload_n 0, 1, 0, 0), (1121, .sipush 17500, 3, 0, 0), (1124, .newarray .int, 2, 0, 0), (1126, .putfield 266, 3, 6, 28), (1129, .aload_n 0, 1, 0, 0), (1130, .sipush 17500, 3, 0, 0), (1133, .newarray .int, 2, 0, 0), (1135, .putfield 269, 3, 6, 29), (1138, .aload_n 0, 1, 0, 0), (1139, .sipush 17500, 3, 0, 0), (1142, .newarray .int, 2, 0, 0), (1144, .putfield 272, 3, 6, 30), (1147, .aload_n 0, 1, 0, 0), (1148, .sipush 17500, 3, 0, 0), (1151, .newarray .int, 2, 0, 0), (1153, .putfield 275, 3, 6, 31), (1156, .aload_n 0, 1, 0, 0), (1157, .iconst 2, 1, 0, 0), (1158, .newarray .int, 2, 0, 0), (1160, .putfield 278, 3, 6, 35), (1163, .aload_n 0, 1, 0, 0), (1164, .ldc_w 281, 3, 130840, 0)]
set_option maxRecDepth 1000000 in
theorem ab_c108_15_ok : ab_c108_15.all (ab_eok 10 prog_9_method_1_code) = true := by decide +kernel
def ab_c108_16 : List ab_I := [(1167, .newarray .byte, 2, 0, 0), (1169, .putfield 282, 3, 6, 36), (1172, .aload_n 0, 1, 0, 0), (1173, .sipush 160, 3, 0, 0), (1176, .newarray .int, 2, 0, 0), (1178, .putfield 285, 3, 6, 42), (1181, .aload_n 0, 1, 0, 0), (1182, .sipush 160, 3, 0, 0), (1185, .newarray .int, 2, 0, 0), (1187, .putfield 288, 3, 6, 43), (1190, .aload_n 0, 1, 0, 0), (1191, .sipush 160, 3, 0, 0), (1194, .newarray .int, 2, 0, 0), (1196, .putfield 291, 3, 6, 44), (1199, .aload_n 0, 1, 0, 0), (1200, .sipush 160, 3, 0, 0), (1203, .newarray .int, 2, 0, 0), (1205, .putfield 294, 3, 6, 45), (1208, .aload_n 0, 1, 0, 0), (1209, .sipush 160, 3, 0, 0), (1212, .newarray .int, 2, 0, 0), (1214, .putfield 297, 3, 6, 46), (1217, .return_, 1, 0, 0)]
set_option maxRecDepth 1000000 in
theorem ab_c108_16_ok : ab_c108_16.all (ab_eok 10 prog_9_method_1_code) = true := by decide +kernel
/-- CodeSmithModel.<init>()V -/
def ab_c108 : List ab_I := ab_c108_0 ++ (ab_c108_1 ++ (ab_c108_2 ++ (ab_c108_3 ++ (ab_c108_4 ++ (ab_c108_5 ++ (ab_c108_6 ++ (ab_c108_7 ++ (ab_c108_8 ++ (ab_c108_9 ++ (ab_c108_10 ++ (ab_c108_11 ++ (ab_c108_12 ++ (ab_c108_13 ++ (ab_c108_14 ++ (ab_c108_15 ++ (ab_c108_16))))))))))))))))
def ab_pr11 : List (ab_M × List ab_I) := [(ab_m108, ab_c108)]
set_option maxRecDepth 1000000 in
theorem ab_m108_w : lw_tbl[925]? = some (.code ({ cls := "CodeSmithModel", name := "<init>", desc := "()V" } : Jvm.MethodName) prog_9_method_1_code 1 (Option.none : Option Jvm.ClassFile.FieldType)) := rfl
set_option maxRecDepth 1000000 in
theorem ab_m108_h : ab_hok ab_m108 = true := by
  have h : decide (lw_tbl[ab_m108.2.2.2.2.2.2]? = some (.code ab_m108.2.1 ab_m108.2.2.1 ab_m108.2.2.2.1 ab_m108.2.2.2.2.1)) = true := decide_eq_true ab_m108_w
  unfold ab_hok
  rw [h]
  decide +kernel
theorem ab_c108_all : ab_c108.all (ab_eok 10 prog_9_method_1_code) = true := by
  simp only [ab_c108, List.all_append, ab_c108_0_ok, ab_c108_1_ok, ab_c108_2_ok, ab_c108_3_ok, ab_c108_4_ok, ab_c108_5_ok, ab_c108_6_ok, ab_c108_7_ok, ab_c108_8_ok, ab_c108_9_ok, ab_c108_10_ok, ab_c108_11_ok, ab_c108_12_ok, ab_c108_13_ok, ab_c108_14_ok, ab_c108_15_ok, ab_c108_16_ok, Bool.and_self]
theorem ab_pr11_ok : ab_pr11.all ab_mok = true := by
  show ((ab_hok ab_m108 && ab_c108.all (ab_eok 10 prog_9_method_1_code)) && true) = true
  rw [ab_m108_h, ab_c108_all]
  rfl
