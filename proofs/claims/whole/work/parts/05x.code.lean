/-- CodeSmithModel.far(II)V -/
def ab_c166 : List ab_I := [(0, .aload_n 0, 1, 0, 0), (1, .iload_n 2, 1, 0, 0), (2, .invokestatic 470, 3, 157, 1), (5, .bipush 12, 2, 0, 0), (7, .ishl, 1, 0, 0), (8, .iload_n 1, 1, 0, 0), (9, .bipush 7, 2, 0, 0), (11, .ishl, 1, 0, 0), (12, .ior, 1, 0, 0), (13, .bipush 55, 2, 0, 0), (15, .ior, 1, 0, 0), (16, .iconst 4, 1, 0, 0), (17, .invokevirtual 486, 3, 144, 2), (20, .aload_n 0, 1, 0, 0), (21, .iload_n 2, 1, 0, 0), (22, .invokestatic 427, 3, 158, 1), (25, .iload_n 1, 1, 0, 0), (26, .iconst 0, 1, 0, 0), (27, .iload_n 1, 1, 0, 0), (28, .bipush 19, 2, 0, 0), (30, .invokestatic 508, 3, 160, 5), (33, .iconst 4, 1, 0, 0), (34, .invokevirtual 486, 3, 144, 2), (37, .return_, 1, 0, 0)]
abbrev ab_m166 : ab_M := (10, ({ cls := "CodeSmithModel", name := "far", desc := "(II)V" } : Jvm.MethodName), prog_9_method_53_code, 3, (Option.none : Option Jvm.ClassFile.FieldType), 2, 1419)
def ab_pr23 : List (ab_M × List ab_I) := [(ab_m166, ab_c166)]
set_option maxRecDepth 1000000 in
theorem ab_pr23_ok : ab_pr23.all ab_mok = true := by decide +kernel
