/-- CodeSmithModel.other(I)V -/
def ab_c165 : List ab_I := ab_c165_0 ++ (ab_c165_1 ++ (ab_c165_2 ++ (ab_c165_3 ++ (ab_c165_4))))
def ab_pr22 : List (ab_M × List ab_I) := [(ab_m165, ab_c165)]
set_option maxRecDepth 1000000 in
theorem ab_m165_w : lw_tbl[1415]? = some (.code ({ cls := "CodeSmithModel", name := "other", desc := "(I)V" } : Jvm.MethodName) prog_9_method_55_code 6 (Option.none : Option Jvm.ClassFile.FieldType)) := rfl
set_option maxRecDepth 1000000 in
theorem ab_m165_h : ab_hok ab_m165 = true := by
  have h : decide (lw_tbl[ab_m165.2.2.2.2.2.2]? = some (.code ab_m165.2.1 ab_m165.2.2.1 ab_m165.2.2.2.1 ab_m165.2.2.2.2.1)) = true := decide_eq_true ab_m165_w
  unfold ab_hok
  rw [h]
  decide +kernel
theorem ab_c165_all : ab_c165.all (ab_eok 10 prog_9_method_55_code) = true := by
  simp only [ab_c165, List.all_append, ab_c165_0_ok, ab_c165_1_ok, ab_c165_2_ok, ab_c165_3_ok, ab_c165_4_ok, Bool.and_self]
theorem ab_pr22_ok : ab_pr22.all ab_mok = true := by
  show ((ab_hok ab_m165 && ab_c165.all (ab_eok 10 prog_9_method_55_code)) && true) = true
  rw [ab_m165_h, ab_c165_all]
  rfl
