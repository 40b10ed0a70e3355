/-! THE ABSTRACT MACHINE, the constant objects. '.retAddr k': k < 106 the string k, 200 + k its byte array, 400 + e the enum's constant e, 500 the array of these. -/
def ab_strs : List (List Int32) := [[116, 104, 101, 32, 116, 101, 120, 116, 32, 104, 97, 115, 32, 97, 110, 32, 101, 114, 114, 111, 114], [122, 101, 114, 111], [114, 97], [115, 116, 97, 114, 116], [104, 105], [108, 111], [101], [97], [106, 97, 108], [100, 44, 101], [106, 97, 108, 114], [100, 44, 101, 40, 97, 41], [108, 117, 105], [97, 100, 100, 105], [100, 44, 97, 44, 101], [46, 97, 108, 105, 103, 110], [101], [46, 97, 115, 99, 105, 105], [], [46, 97, 115, 99, 105, 122], [46, 98, 121, 116, 101], [46, 100, 97, 116, 97], [46, 101, 113, 117], [46, 103, 108, 111, 98, 108], [110], [46, 104, 97, 108, 102], [46, 115, 112, 97, 99, 101], [46, 116, 101, 120, 116], [46, 119, 111, 114, 100], [97, 100, 100], [100, 44, 97, 44, 98], [97, 110, 100], [97, 110, 100, 105], [97, 117, 105, 112, 99], [98, 101, 113], [97, 44, 98, 44, 101], [98, 101, 113, 122], [97, 44, 101], [98, 103, 101], [98, 103, 101, 117], [98, 103, 101, 122], [98, 103, 116], [98, 44, 97, 44, 101], [98, 103, 116, 117], [98, 103, 116, 122], [98, 44, 101], [98, 108, 101], [98, 108, 101, 117], [98, 108, 101, 122], [98, 108, 116], [98, 108, 116, 117], [98, 108, 116, 122], [98, 110, 101], [98, 110, 101, 122], [99, 97, 108, 108], [100, 105, 118], [100, 105, 118, 117], [101, 98, 114, 101, 97, 107], [101, 99, 97, 108, 108], [102, 101, 110, 99, 101], [106], [106, 114], [97], [108, 97], [108, 98], [108, 98, 117], [108, 104], [108, 104, 117], [108, 105], [108, 119], [109, 117, 108], [109, 117, 108, 104], [109, 117, 108, 104, 115, 117], [109, 117, 108, 104, 117], [109, 118], [100, 44, 97], [110, 101, 103], [100, 44, 98], [110, 111, 112], [110, 111, 116], [111, 114], [111, 114, 105], [114, 101, 109], [114, 101, 109, 117], [114, 101, 116], [115, 98], [98, 44, 101, 40, 97, 41], [115, 101, 113, 122], [115, 103, 116, 122], [115, 104], [115, 108, 108], [115, 108, 108, 105], [115, 108, 116], [115, 108, 116, 105], [115, 108, 116, 105, 117], [115, 108, 116, 117], [115, 108, 116, 122], [115, 110, 101, 122], [115, 114, 97], [115, 114, 97, 105], [115, 114, 108], [115, 114, 108, 105], [115, 117, 98], [115, 119], [120, 111, 114], [120, 111, 114, 105]]
/-- spelling, pattern, form, code -/
def ab_enm : List (Nat × Nat × Int32 × Int32) := [(15, 16, 5, 0), (17, 18, 3, 0), (19, 18, 3, 1), (20, 18, 2, 1), (21, 18, 1, 1), (22, 18, 6, 0), (23, 24, 0, 0), (25, 18, 2, 2), (26, 16, 4, 0), (27, 18, 1, 0), (28, 18, 2, 4), (29, 30, 7, 51), (13, 14, 8, 19), (31, 30, 7, 28723), (32, 14, 8, 28691), (33, 9, 12, 23), (34, 35, 11, 99), (36, 37, 11, 99), (38, 35, 11, 20579), (39, 35, 11, 28771), (40, 37, 11, 20579), (41, 42, 11, 16483), (43, 42, 11, 24675), (44, 45, 11, 16483), (46, 42, 11, 20579), (47, 42, 11, 28771), (48, 45, 11, 20579), (49, 35, 11, 16483), (50, 35, 11, 24675), (51, 37, 11, 16483), (52, 35, 11, 4195), (53, 37, 11, 4195), (54, 16, 13, 239), (55, 30, 7, 33570867), (56, 30, 7, 33574963), (57, 18, 7, 1048691), (58, 18, 7, 115), (59, 18, 7, 15), (60, 16, 13, 111), (8, 9, 13, 111), (10, 11, 8, 103), (61, 62, 7, 103), (63, 9, 14, 0), (64, 11, 8, 3), (65, 11, 8, 16387), (66, 11, 8, 4099), (67, 11, 8, 20483), (68, 9, 15, 0), (12, 9, 12, 55), (69, 11, 8, 8195), (70, 30, 7, 33554483), (71, 30, 7, 33558579), (72, 30, 7, 33562675), (73, 30, 7, 33566771), (74, 75, 7, 19), (76, 77, 7, 1073741875), (78, 18, 7, 19), (79, 75, 7, -1032173), (80, 30, 7, 24627), (81, 14, 8, 24595), (82, 30, 7, 33579059), (83, 30, 7, 33583155), (84, 18, 7, 32871), (85, 86, 10, 35), (87, 75, 7, 1060883), (88, 77, 7, 8243), (89, 86, 10, 4131), (90, 30, 7, 4147), (91, 14, 9, 4115), (92, 30, 7, 8243), (93, 14, 8, 8211), (94, 14, 8, 12307), (95, 30, 7, 12339), (96, 75, 7, 8243), (97, 77, 7, 12339), (98, 30, 7, 1073762355), (99, 14, 9, 1073762323), (100, 30, 7, 20531), (101, 14, 9, 20499), (102, 30, 7, 1073741875), (103, 86, 10, 8227), (104, 30, 7, 16435), (105, 14, 8, 16403)]
def ab_sfv (b k : Nat) : Option Value := match b with
  | 0 => if k < 106 then some (.retAddr (200 + k)) else none
  | 1 => if k < 106 then some (.int 0) else none
  | 2 => if 400 ≤ k then (match ab_enm[k - 400]? with | some q => some (.retAddr q.1) | none => none) else none
  | 3 => if 400 ≤ k then (match ab_enm[k - 400]? with | some q => some (.retAddr q.2.1) | none => none) else none
  | 4 => if 400 ≤ k then (match ab_enm[k - 400]? with | some q => some (.int q.2.2.1) | none => none) else none
  | 5 => if 400 ≤ k then (match ab_enm[k - 400]? with | some q => some (.int q.2.2.2) | none => none) else none
  | _ => none
def ab_sfget (b : Nat) (st : List Value) : Option (List Value) := match st with
  | .retAddr k :: r => match ab_sfv b k with
    | some v => some (v :: r)
    | none => none
  | _ => none
def ab_slen (st : List Value) : Option (List Value) := match st with
  | .retAddr k :: r => if k = 500 then some (.int 83 :: r) else if 200 ≤ k then (match ab_strs[k - 200]? with | some s => some (.int (Int32.ofNat s.length) :: r) | none => none) else none
  | _ => none
def ab_sbld (st : List Value) : Option (List Value) := match st with
  | .int j :: .retAddr k :: r => if 200 ≤ k then (match ab_strs[k - 200]? with | some s => if ¬ (j < 0 ∨ s.length ≤ j.toNatClampNeg) then some (.int (s.getD j.toNatClampNeg 0) :: r) else none | none => none) else none
  | _ => none
def ab_sald (st : List Value) : Option (List Value) := match st with
  | .int j :: .retAddr k :: r => if k = 500 ∧ ¬ (j < 0 ∨ 83 ≤ j.toNatClampNeg) then some (.retAddr (400 + j.toNatClampNeg) :: r) else none
  | _ => none
/-- constants, statics, and what constant objects hold -/
def ab_con (i : Instr) (a b : Nat) (st : List Value) : Option (List Value) := match i with
  | .ldc _ => if b = 0 then some (.int (Int32.ofNat a) :: st) else some (.retAddr a :: st)
  | .ldc_w _ => if b = 0 then some (.int (Int32.ofNat a) :: st) else none
  | .ldc2_w _ => some (.long (Int64.ofNat a) :: st)
  | .getstatic _ => if b = 1 then some (.int (Int32.ofNat a) :: st) else if b = 2 then some (.float 1 :: st) else some (.retAddr a :: st)
  | .getfield _ => if a = 100 then ab_sfget b st else none
  | .arraylength => ab_slen st
  | .baload => ab_sbld st
  | .aaload => ab_sald st
  | _ => none
def ab_acmp (i : Instr) (pc tgt : Nat) (st : List Value) : Option (Nat × List Value) := match i with
  | .if_acmp .ne _ => match st with
    | .retAddr y :: .retAddr x :: r => if (400 ≤ x ∧ x < 483) ∧ (400 ≤ y ∧ y < 483) then some (bif x == y then pc + 3 else tgt, r) else none
    | _ => none
  | _ => none
def ab_sfn : List (String × String × String) := [("java/lang/String", "value", "[B"), ("java/lang/String", "coder", "B"), ("CodeSmith$Statement", "spelling", "Ljava/lang/String;"), ("CodeSmith$Statement", "pattern", "Ljava/lang/String;"), ("CodeSmith$Statement", "form", "I"), ("CodeSmith$Statement", "code", "I")]
def ab_gsn : List (Nat × String × String) := [(439, "JAL", "LCodeSmith$Statement;"), (440, "JALR", "LCodeSmith$Statement;"), (412, "ADDI", "LCodeSmith$Statement;"), (448, "LUI", "LCodeSmith$Statement;")]
def ab_srn : List (String × Nat × String × Nat) := [("CodeSmith$Tokens", 67, "the text has an error", 0), ("CodeSmith$Tokens", 176, "zero", 1), ("CodeSmith$Tokens", 182, "ra", 2), ("CodeSmith$Assembler", 158, "start", 3), ("CodeSmith$Calculator", 79, "hi", 4), ("CodeSmith$Calculator", 85, "lo", 5), ("CodeSmith$Assembler", 229, "e", 6), ("CodeSmith$Assembler", 234, "a", 7)]
def ab_nst : List (String × Nat × MethodName × String) := [("CodeSmith", 15, ⟨"CodeSmith$Symbols", "<init>", "()V"⟩, "CodeSmith"), ("CodeSmith", 18, ⟨"CodeSmith$Tokens", "<init>", "()V"⟩, "CodeSmith"), ("CodeSmith$Assembler", 11, ⟨"CodeSmith$Image", "<init>", "()V"⟩, "CodeSmith")]
def ab_nwl : List Cond := [.castable "java/lang/IllegalArgumentException" "java/lang/IllegalArgumentException", .declares ⟨"java/lang/RuntimeException", "<init>", "(Ljava/lang/String;)V"⟩, .declares ⟨"java/lang/Exception", "<init>", "(Ljava/lang/String;)V"⟩, .declares ⟨"java/lang/Throwable", "<init>", "(Ljava/lang/String;)V"⟩]
theorem ab_nwl_warm {s U : State} {w : Cond} (hW : s.WarmedH U.vm) (hw : w ∈ ab_nwl) (h : va_Nw w s) : va_Nw w U := by
  simp only [ab_nwl, List.mem_cons, List.not_mem_nil, or_false] at hw
  rcases hw with rfl | rfl | rfl | rfl
  · exact h.warmC hW
  · exact h.warmD hW
  · exact h.warmD hW
  · exact h.warmD hW
/-- what the statement gives of the constant objects -/
def ab_SW (N0 : Nat) (adS : Nat → Nat) (U : State) (H : Heap) : Prop :=
  (∀ k : Nat, k < 106 → va_O "java/lang/String" (adS k) (ab_A N0) U H ∧ va_T .byte (adS (200 + k)) ((ab_strs.getD k []).length) (fun j => .int ((ab_strs.getD k []).getD j 0)) (ab_A N0) U H) ∧
  (∀ b k : Nat, ∀ v : Value, ab_sfv b k = some v → ∀ f, ab_sfn[b]? = some f → va_OF f.1 f.2.1 f.2.2 (ab_rv N0 adS v) (adS k) (ab_A N0) U H) ∧
  va_T (.object "CodeSmith$Statement") (adS 500) 83 (fun j => .ref (adS (400 + j))) (ab_A N0) U H ∧
  (∀ q ∈ ab_gsn, va_Z "CodeSmith$Statement" q.2.1 q.2.2 (.ref (adS q.1)) (ab_A N0) U H) ∧
  va_Z "CodeSmith" "STATEMENTS" "[LCodeSmith$Statement;" (.ref (adS 500)) (ab_A N0) U H ∧
  (va_Z "java/lang/String" "COMPACT_STRINGS" "Z" (.int 1) (ab_A N0) U H ∧ va_Z "jdk/internal/util/Preconditions" "SIOOBE_FORMATTER" "Ljava/util/function/BiFunction;" (ab_rv N0 adS (.float 1)) (ab_A N0) U H) ∧
  (∀ q ∈ ab_srn, vk_R q.1 q.2.1 q.2.2.1 (adS q.2.2.2) U) ∧
  (∀ i j : Nat, i < 83 → j < 83 → adS (400 + i) = adS (400 + j) → i = j) ∧
  (vx_Zq Bundle.tN "UNASSIGNED_STACK" Bundle.steD (ab_A N0) U H ∧ (∀ w ∈ ab_nwl, va_Nw w U)) ∧ vx_Zq Bundle.tN "SUPPRESSED_SENTINEL" Bundle.listD (ab_A N0) U H ∧
  va_Nw (.fieldLinkNest "CodeSmith$Assembler" 179 "CodeSmith" "STATEMENTS" "[LCodeSmith$Statement;" "CodeSmith") U ∧
  (∀ q ∈ ab_nst, va_Nw (.methodLinkNest q.1 q.2.1 q.2.2.1 q.2.2.2) U)
theorem ab_SW.go {N0 : Nat} {adS : Nat → Nat} {s U : State} {H H1 : Heap} (hW : s.WarmedH U.vm) (hq : ∀ a : Nat, a < H.size → ¬ ab_A N0 a → H1[a]? = H[a]?) (h : ab_SW N0 adS s H) : ab_SW N0 adS U H1 := by
  obtain ⟨h1, h2, h3, h4, h5, h6, h7, h8, h9, h10, h11, h12⟩ := h
  exact ⟨fun k hk => ⟨((h1 k hk).1.moved hW.alike).kept hq, ((h1 k hk).2.moved hW.alike).kept hq⟩, fun b k v hv f hf => ((h2 b k v hv f hf).moved hW.alike).kept hq, (h3.moved hW.alike).kept hq, fun q hq9 => ((h4 q hq9).moved hW.alike).kept hq, (h5.moved hW.alike).kept hq, ⟨(h6.1.moved hW.alike).kept hq, (h6.2.moved hW.alike).kept hq⟩, fun q hq9 => (h7 q hq9).warm hW, h8, ⟨(h9.1.moved hW.alike).kept hq, fun w hw => ab_nwl_warm hW hw (h9.2 w hw)⟩, (h10.moved hW.alike).kept hq, h11.warmF hW, fun q hq9 => (h12 q hq9).warmM hW⟩
theorem ab_SW.same {N0 : Nat} {adS : Nat → Nat} {s U : State} {H : Heap} (hv : U.vm = s.vm) (h : ab_SW N0 adS s H) : ab_SW N0 adS U H := by
  refine ab_SW.go (s := s) ?_ (fun _ _ _ => rfl) h
  rw [hv]; exact State.WarmedH.refl s
def ab_pF2_ok (q : Nat × Nat × Nat × Nat) : Bool := match ab_own[q.1]?, ab_sfn[q.2.2.1]? with
  | some O, some f => decide (lw_tbl[q.2.2.2]? = some (.fieldLink O q.2.1 f.1 f.2.1 f.2.2))
  | _, _ => false
set_option maxRecDepth 1000000 in
theorem ab_pF2_all : ab_pF2.all ab_pF2_ok = true := by decide +kernel
theorem ab_pF2_use {o i b : Nat} {own : String} (ho : ab_own[o]? = some own) (h : ab_pF2.any (fun z => z.1 == o && z.2.1 == i && z.2.2.1 == b) = true) : ∃ f, ab_sfn[b]? = some f ∧ Cond.fieldLink own i f.1 f.2.1 f.2.2 ∈ ab_T := by
  obtain ⟨z, hz, hq⟩ := List.any_eq_true.mp h
  have h1 := List.all_eq_true.mp ab_pF2_all z hz
  simp only [Bool.and_eq_true, beq_iff_eq] at hq
  obtain ⟨⟨e1, e2⟩, e3⟩ := hq
  unfold ab_pF2_ok at h1
  rw [e1, ho, e3] at h1
  cases hC : ab_sfn[b]? with
  | none => rw [hC] at h1; cases h1
  | some C =>
    rw [hC] at h1
    rw [e2] at h1
    exact ⟨C, rfl, ab_T_in (of_decide_eq_true h1) rfl⟩
def ab_pK_ok (q : Nat × Nat × Nat × Nat) : Bool := match ab_own[q.1]? with
  | some O => decide (lw_tbl[q.2.2.2]? = some (.constant O q.2.1 (Int32.ofNat q.2.2.1)))
  | _ => false
set_option maxRecDepth 1000000 in
theorem ab_pK_all : ab_pK.all ab_pK_ok = true := by decide +kernel
theorem ab_pK_use {o i a : Nat} {own : String} (ho : ab_own[o]? = some own) (h : ab_pK.any (fun z => z.1 == o && z.2.1 == i && z.2.2.1 == a) = true) : Cond.constant own i (Int32.ofNat a) ∈ lw_tbl := by
  obtain ⟨z, hz, hq⟩ := List.any_eq_true.mp h
  have h1 := List.all_eq_true.mp ab_pK_all z hz
  simp only [Bool.and_eq_true, beq_iff_eq] at hq
  obtain ⟨⟨e1, e2⟩, e3⟩ := hq
  unfold ab_pK_ok at h1
  rw [e1, ho, e2, e3] at h1
  exact List.mem_of_getElem? (of_decide_eq_true h1)
def ab_pL_ok (q : Nat × Nat × Nat × Nat) : Bool := match ab_own[q.1]? with
  | some O => decide (lw_tbl[q.2.2.2]? = some (.constantLong O q.2.1 (Int64.ofNat q.2.2.1)))
  | _ => false
set_option maxRecDepth 1000000 in
theorem ab_pL_all : ab_pL.all ab_pL_ok = true := by decide +kernel
theorem ab_pL_use {o i a : Nat} {own : String} (ho : ab_own[o]? = some own) (h : ab_pL.any (fun z => z.1 == o && z.2.1 == i && z.2.2.1 == a) = true) : Cond.constantLong own i (Int64.ofNat a) ∈ lw_tbl := by
  obtain ⟨z, hz, hq⟩ := List.any_eq_true.mp h
  have h1 := List.all_eq_true.mp ab_pL_all z hz
  simp only [Bool.and_eq_true, beq_iff_eq] at hq
  obtain ⟨⟨e1, e2⟩, e3⟩ := hq
  unfold ab_pL_ok at h1
  rw [e1, ho, e2, e3] at h1
  exact List.mem_of_getElem? (of_decide_eq_true h1)
theorem ab_goodc (own : String) (i : Nat) (v : Int32) : goodWord (.constant own i v) = true := rfl
theorem ab_goodl (own : String) (i : Nat) (v : Int64) : goodWord (.constantLong own i v) = true := rfl
def ab_pT_ok (q : Nat × Nat × Nat × Nat) : Bool := match ab_own[q.1]? with
  | some O => ab_srn.any (fun z => z.1 == O && z.2.1 == q.2.1 && z.2.2.2 == q.2.2.1)
  | _ => false
theorem ab_pT_all : ab_pT.all ab_pT_ok = true := by decide +kernel
theorem ab_pT_use {o i a : Nat} {own : String} (ho : ab_own[o]? = some own) (h : ab_pT.any (fun z => z.1 == o && z.2.1 == i && z.2.2.1 == a) = true) : ∃ tx, (own, i, tx, a) ∈ ab_srn := by
  obtain ⟨z, hz, hq⟩ := List.any_eq_true.mp h
  have h1 := List.all_eq_true.mp ab_pT_all z hz
  simp only [Bool.and_eq_true, beq_iff_eq] at hq
  obtain ⟨⟨e1, e2⟩, e3⟩ := hq
  unfold ab_pT_ok at h1
  rw [e1, ho, e2, e3] at h1
  obtain ⟨y, hy, hy2⟩ := List.any_eq_true.mp h1
  simp only [Bool.and_eq_true, beq_iff_eq] at hy2
  obtain ⟨⟨g1, g2⟩, g3⟩ := hy2
  obtain ⟨y1, y2, y3, y4⟩ := y
  simp only at g1 g2 g3
  subst g1; subst g2; subst g3
  exact ⟨y3, hy⟩
def ab_pG_ok (q : Nat × Nat × Nat × Nat × Nat) : Bool := match ab_own[q.1]? with
  | some O => (q.2.2.2.1 == 0 && ab_gsn.any (fun z => z.1 == q.2.2.1 && decide (lw_tbl[q.2.2.2.2]? = some (.fieldLink O q.2.1 "CodeSmith$Statement" z.2.1 z.2.2)))) || (q.2.2.2.1 == 1 && q.2.2.1 == 1 && decide (lw_tbl[q.2.2.2.2]? = some (.fieldLink O q.2.1 "java/lang/String" "COMPACT_STRINGS" "Z"))) || (q.2.2.2.1 == 2 && q.2.2.1 == 500 && O == "CodeSmith$Assembler" && q.2.1 == 179) || (q.2.2.2.1 == 3 && decide (lw_tbl[q.2.2.2.2]? = some (.fieldLink O q.2.1 "jdk/internal/util/Preconditions" "SIOOBE_FORMATTER" "Ljava/util/function/BiFunction;")))
  | _ => false
set_option maxRecDepth 1000000 in
theorem ab_pG_all : ab_pG.all ab_pG_ok = true := by decide +kernel
