def ab_c138_5 : List ab_I := [(424, .isub, 1, 0, 0), (425, .invokevirtual 401, 3, 134, 2), (428, .ifCond .lt 10, 3, 438, 0), (431, .aload_n 0, 1, 0, 0), (432, .invokevirtual 512, 3, 139, 0), (435, .goto 4, 3, 439, 0), (438, .iconst 1, 1, 0, 0), (439, .istore_n 3, 1, 0, 0), (440, .aload_n 0, 1, 0, 0), (441, .iload_n 3, 1, 0, 0), (442, .aload_n 0, 1, 0, 0), (443, .invokevirtual 502, 3, 145, 0), (446, .invokevirtual 526, 3, 164, 2), (449, .goto 151, 3, 600, 0), (452, .iload_n 1, 1, 0, 0), (453, .bipush 54, 2, 0, 0), (455, .if_icmp .ne 86, 3, 541, 0), (458, .aload_n 0, 1, 0, 0), (459, .invokevirtual 491, 3, 140, 0), (462, .istore_n 3, 1, 0, 0), (463, .aload_n 0, 1, 0, 0), (464, .bipush 44, 2, 0, 0), (466, .invokevirtual 384, 3, 142, 1), (469, .ifCond .ne 7, 3, 476, 0), (472, .iconst 1, 1, 0, 0), (473, .goto 4, 3, 477, 0), (476, .iconst 0, 1, 0, 0), (477, .istore 4, 2, 0, 0), (479, .iload 4, 2, 0, 0), (481, .ifCond .ne 7, 3, 488, 0), (484, .aload_n 0, 1, 0, 0), (485, .invokevirtual 387, 3, 117, 0), (488, .iload 4, 2, 0, 0), (490, .ifCond .eq 7, 3, 497, 0), (493, .iconst 0, 1, 0, 0), (494, .goto 7, 3, 501, 0), (497, .aload_n 0, 1, 0, 0), (498, .invokevirtual 518, 3, 161, 0), (501, .istore 5, 2, 0, 0), (503, .aload_n 0, 1, 0, 0), (504, .iload 4, 2, 0, 0), (506, .ifCond .eq 15, 3, 521, 0), (509, .iconst 0, 1, 0, 0), (510, .iload_n 3, 1, 0, 0), (511, .iconst 0, 1, 0, 0)]
set_option maxRecDepth 1000000 in
theorem ab_c138_5_ok : ab_c138_5.all (ab_eok 10 prog_9_method_54_code) = true := by decide +kernel
def ab_c138_6 : List ab_I := [(512, .iconst 1, 1, 0, 0), (513, .bipush 103, 2, 0, 0), (515, .invokestatic 508, 3, 160, 5), (518, .goto 16, 3, 534, 0), (521, .iload 5, 2, 0, 0), (523, .aload_n 0, 1, 0, 0), (524, .getfield 505, 3, 6, 47), (527, .iconst 0, 1, 0, 0), (528, .iload_n 3, 1, 0, 0), (529, .bipush 103, 2, 0, 0), (531, .invokestatic 508, 3, 160, 5), (534, .iconst 4, 1, 0, 0), (535, .invokevirtual 486, 3, 144, 2), (538, .goto 62, 3, 600, 0), (541, .aload_n 0, 1, 0, 0), (542, .iload_n 1, 1, 0, 0), (543, .bipush 55, 2, 0, 0), (545, .if_icmp .ne 8, 3, 553, 0), (548, .bipush 15, 2, 0, 0), (550, .goto 46, 3, 596, 0), (553, .iload_n 1, 1, 0, 0), (554, .bipush 56, 2, 0, 0), (556, .if_icmp .ne 8, 3, 564, 0), (559, .bipush 115, 2, 0, 0), (561, .goto 35, 3, 596, 0), (564, .iload_n 1, 1, 0, 0), (565, .bipush 57, 2, 0, 0), (567, .if_icmp .ne 9, 3, 576, 0), (570, .ldc_w 529, 3, 1048691, 0), (573, .goto 23, 3, 596, 0), (576, .iload_n 1, 1, 0, 0), (577, .bipush 58, 2, 0, 0), (579, .if_icmp .ne 8, 3, 587, 0), (582, .bipush 19, 2, 0, 0), (584, .goto 12, 3, 596, 0), (587, .iconst 0, 1, 0, 0), (588, .iconst 1, 1, 0, 0), (589, .iconst 0, 1, 0, 0), (590, .iconst 0, 1, 0, 0), (591, .bipush 103, 2, 0, 0), (593, .invokestatic 508, 3, 160, 5), (596, .iconst 4, 1, 0, 0), (597, .invokevirtual 486, 3, 144, 2), (600, .return_, 1, 0, 0)]
set_option maxRecDepth 1000000 in
theorem ab_c138_6_ok : ab_c138_6.all (ab_eok 10 prog_9_method_54_code) = true := by decide +kernel
/-- CodeSmithModel.instruction(I)V -/
def ab_c138 : List ab_I := ab_c138_0 ++ (ab_c138_1 ++ (ab_c138_2 ++ (ab_c138_3 ++ (ab_c138_4 ++ (ab_c138_5 ++ (ab_c138_6))))))
def ab_pr16 : List (ab_M × List ab_I) := [(ab_m138, ab_c138)]
set_option maxRecDepth 1000000 in
theorem ab_m138_w : lw_tbl[1306]? = some (.code ({ cls := "CodeSmithModel", name := "instruction", desc := "(I)V" } : Jvm.MethodName) prog_9_method_54_code 6 (Option.none : Option Jvm.ClassFile.FieldType)) := rfl
set_option maxRecDepth 1000000 in
theorem ab_m138_h : ab_hok ab_m138 = true := by
  have h : decide (lw_tbl[ab_m138.2.2.2.2.2.2]? = some (.code ab_m138.2.1 ab_m138.2.2.1 ab_m138.2.2.2.1 ab_m138.2.2.2.2.1)) = true := decide_eq_true ab_m138_w
  unfold ab_hok
  rw [h]
  decide +kernel
theorem ab_c138_all : ab_c138.all (ab_eok 10 prog_9_method_54_code) = true := by
  simp only [ab_c138, List.all_append, ab_c138_0_ok, ab_c138_1_ok, ab_c138_2_ok, ab_c138_3_ok, ab_c138_4_ok, ab_c138_5_ok, ab_c138_6_ok, Bool.and_self]
theorem ab_pr16_ok : ab_pr16.all ab_mok = true := by
  show ((ab_hok ab_m138 && ab_c138.all (ab_eok 10 prog_9_method_54_code)) && true) = true
  rw [ab_m138_h, ab_c138_all]
  rfl
