/-! THE MACHINE FOLLOWS THE ABSTRACT MACHINE. First: what the tables say of a call. -/
def ab_pV_ok (q : Nat × Nat × Nat × Nat × Nat × Nat) : Bool := match ab_own[q.1]?, ab_prog[q.2.2.1]? with
  | some O, some P => decide (lw_tbl[q.2.2.2.1]? = some (.methodLink O q.2.1 P.1.2.1)) && decide (lw_tbl[q.2.2.2.2.1]? = some (.instanceMethod P.1.2.1)) && decide (lw_tbl[q.2.2.2.2.2]? = some (.selects P.1.2.1.cls P.1.2.1 P.1.2.1))
  | _, _ => false
set_option maxRecDepth 1000000 in
theorem ab_pV_all : ab_pV.all ab_pV_ok = true := by decide +kernel
def ab_pS_ok (q : Nat × Nat × Nat × Nat × Nat) : Bool := match ab_own[q.1]? with
  | some O => if q.2.2.1 = 999 then decide (lw_tbl[q.2.2.2.1]? = some (.methodLink O q.2.1 arraycopyName)) else if q.2.2.1 = 997 then decide (lw_tbl[q.2.2.2.1]? = some (.methodLink O q.2.1 Lib.Math.min.name)) else if q.2.2.1 = 996 then decide (lw_tbl[q.2.2.2.1]? = some (.methodLink O q.2.1 Lib.Math.max.name)) else (match ab_prog[q.2.2.1]? with
    | some P => decide (lw_tbl[q.2.2.2.1]? = some (.methodLink O q.2.1 P.1.2.1)) && decide (lw_tbl[q.2.2.2.2]? = some (.static P.1.2.1))
    | none => false)
  | _ => false
set_option maxRecDepth 1000000 in
theorem ab_pS_all : ab_pS.all ab_pS_ok = true := by decide +kernel
def ab_pI_ok (q : Nat × Nat × Nat × Nat × Nat) : Bool := match ab_own[q.1]? with
  | some O => if q.2.2.1 = 998 then decide (lw_tbl[q.2.2.2.1]? = some (.methodLink O q.2.1 Lib.objectInit)) else (match ab_prog[q.2.2.1]? with
    | some P => (decide (lw_tbl[q.2.2.2.1]? = some (.methodLink O q.2.1 P.1.2.1)) || ab_nst.any (fun z => decide (z.1 = O) && decide (z.2.1 = q.2.1) && decide (z.2.2.1 = P.1.2.1))) && decide (lw_tbl[q.2.2.2.2]? = some (.instanceMethod P.1.2.1)) && decide (P.1.2.1.name = "<init>") && decide (P.1.2.2.2.2.1 = none)
    | none => false)
  | _ => false
set_option maxRecDepth 1000000 in
theorem ab_pI_all : ab_pI.all ab_pI_ok = true := by decide +kernel
set_option maxRecDepth 1000000 in
theorem ab_own_ini : ab_own.all (fun O => decide (Cond.initialized O ∈ lw_tbl)) = true := by decide +kernel
set_option maxRecDepth 1000000 in
theorem ab_natw : Cond.native arraycopyName ∈ lw_tbl ∧ Cond.static arraycopyName ∈ lw_tbl ∧ Cond.initialized "java/lang/System" ∈ lw_tbl ∧ Cond.static Lib.Math.min.name ∈ lw_tbl ∧ Cond.static Lib.Math.max.name ∈ lw_tbl ∧ Cond.initialized "java/lang/Math" ∈ lw_tbl ∧ Cond.code Lib.Math.min.name Lib.Math.min.code 2 (some .int) ∈ lw_tbl ∧ Cond.code Lib.Math.max.name Lib.Math.max.code 2 (some .int) ∈ lw_tbl ∧ Cond.instanceMethod Lib.objectInit ∈ lw_tbl ∧ Cond.code Lib.objectInit ⟨#[0xb1]⟩ 1 none ∈ lw_tbl := by decide +kernel
theorem ab_prog_at {mi : Nat} {P : ab_M × List ab_I} (h : ab_prog[mi]? = some P) : ab_hok P.1 = true ∧ P.2.all (ab_eok P.1.1 P.1.2.2.1) = true := by
  have h1 := List.all_eq_true.mp ab_prog_ok P (List.mem_of_getElem? h)
  unfold ab_mok at h1
  rw [Bool.and_eq_true] at h1
  exact h1
theorem ab_hok_at {M : ab_M} (h : ab_hok M = true) : Cond.code M.2.1 M.2.2.1 M.2.2.2.1 M.2.2.2.2.1 ∈ ab_T ∧ ab_own[M.1]? = some M.2.1.cls ∧ Jvm.plainName M.2.1.cls = true ∧ (parseMethodDescriptor M.2.1.desc).map (fun d => d.parameters.length) = some M.2.2.2.2.2.1 ∧ (M.2.1.cls ≠ "java/lang/invoke/MethodHandle" ∧ M.2.1.cls ≠ "java/lang/invoke/VarHandle") ∧ M.2.2.2.1 ≤ 20 := by
  unfold ab_hok at h
  simp only [Bool.and_eq_true, decide_eq_true_eq] at h
  obtain ⟨⟨⟨⟨⟨h1, h2⟩, h3⟩, h4⟩, h5⟩, h6⟩ := h
  exact ⟨ab_T_in h1 rfl, h2, h3, h4, h5, h6⟩
theorem ab_own_T {o : Nat} {O : String} (h : ab_own[o]? = some O) : Cond.initialized O ∈ ab_T := List.mem_filter.mpr ⟨of_decide_eq_true (List.all_eq_true.mp ab_own_ini O (List.mem_of_getElem? h)), rfl⟩
theorem ab_fetch_ok {o : Nat} {cc : ByteArray} {code : List ab_I} {pc : Nat} {q : Instr × Nat × Nat × Nat} (h : code.all (ab_eok o cc) = true) (e : ab_fetch code pc = some q) : ab_eok o cc (pc, q) = true := by
  unfold ab_fetch at e
  split at e
  · rename_i z hz
    cases e
    have h1 : z.1 = pc := by simpa using List.find?_some hz
    have h2 := List.all_eq_true.mp h z (List.mem_of_find?_eq_some hz)
    rw [← h1]
    exact h2
  · cases e
theorem ab_rl_args (N0 : Nat) (adS : Nat → Nat) : ∀ (vs : List Value) (i : Nat), lv_args i (vs.map (ab_rv N0 adS)) = ab_rl N0 adS (lv_args i vs) := by
  intro vs
  induction vs with
  | nil => intro i; rfl
  | cons v vs ih =>
    intro i
    show (i, ab_rv N0 adS v) :: lv_args (if (ab_rv N0 adS v).category = 2 then i + 2 else i + 1) (vs.map (ab_rv N0 adS)) = ab_rl N0 adS ((i, v) :: lv_args (if v.category = 2 then i + 2 else i + 1) vs)
    rw [ih, ab_rv_cat]
    rfl
theorem ab_lg_len (N0 : Nat) (adS : Nat → Nat) : ∀ vs : List Value, (lg_sl (vs.map (ab_rv N0 adS))).length = (lg_sl vs).length := by
  intro vs
  induction vs with
  | nil => rfl
  | cons v vs ih =>
    simp only [lg_sl, List.map_cons, List.flatMap_cons, List.length_append] at ih ⊢
    rw [ih, ab_rv_cat]
    congr 1
    split <;> rfl
theorem ab_cat_rv (N0 : Nat) (adS : Nat → Nat) (r : List Value) : ((r.map (ab_rv N0 adS)).map fun v => v.category).sum = ab_cat r := by
  unfold ab_cat
  rw [List.map_map]
  congr 1
  apply List.map_congr_left
  intro v _
  exact ab_rv_cat N0 adS v
/-- a callee that doesn't throw -/
theorem ab_toMet {l : Launch} {y : MethodName} {ws : List Cond} {rm : Room} {Pc : Array Value → State → Prop} {Qc : Array Value → State → Outcome → State → Prop} {XC : String → State → State → Prop} {mc ms : Nat} {free : Addr → Prop} (hX : ∀ E st t, ¬ XC E st t) (h : vx_Met l y ws rm Pc Qc XC mc ms free) : Met l y ws rm Pc Qc mc ms free := by
  intro p e ha hc hk s m args below hf happ hP hK
  obtain ⟨n, o, h1, h2, h3, h4⟩ := h p e ha hc hk s m args below hf happ hP hK
  refine ⟨n, o, h1, h2, h3, ?_⟩
  rcases h4 with h4 | ⟨q, -, E, ce, L, hx, -⟩
  · exact h4
  · exact absurd hx (hX _ _ _)
def ab_Q (D : va_G) (cA : Nat → ClassId) (N0 : Nat) (adS : Nat → Nat) (o : Option Value ⊕ Unit) (h' : ab_H) : Array Value → State → Outcome → State → Prop := fun _ st oc t => ∃ v, o = .inl v ∧ oc = .returned (v.map (ab_rv N0 adS)) ∧ ab_Wd D cA N0 adS h' t.heap ∧ va_F (ab_A N0) st t
def ab_X (D : va_G) (cA : Nat → ClassId) (N0 : Nat) (adS : Nat → Nat) (o : Option Value ⊕ Unit) (h' : ab_H) : String → State → State → Prop := fun E st t => o = .inr () ∧ E = "java/lang/IllegalArgumentException" ∧ ab_Wd D cA N0 adS h' t.heap ∧ va_F (ab_A N0) st t
def ab_P (D : va_G) (cA : Nat → ClassId) (N0 : Nat) (adS : Nat → Nat) (vs : List Value) (h : ab_H) : Array Value → State → Prop := va_Pc (vs.map (ab_rv N0 adS)) (fun U => va_K D ab_cl (ab_tys cA) U ∧ ab_Wd D cA N0 adS h U.heap ∧ U.heap.size = N0 + h.length ∧ ab_SW N0 adS U U.heap)
theorem ab_P_blind (D : va_G) (cA : Nat → ClassId) (N0 : Nat) (adS : Nat → Nat) (vs : List Value) (h : ab_H) : FrameBlind (ab_P D cA N0 adS vs h) := by
  intro a U g mk q
  obtain ⟨q1, q2, q3, q4, q5⟩ := q
  exact ⟨q1, va_K.moved (u := U) (U := U.calling g mk a) (Vm.Alike.refl U.vm) q2, q3, q4, ab_SW.same (s := U) (U := U.calling g mk a) rfl q5⟩
abbrev ab_wm (M : ab_M) : List Cond := .code M.2.1 M.2.2.1 M.2.2.2.1 M.2.2.2.2.1 :: ab_T
def ab_rm (d mc ms : Nat) : Room := { frames := d + 10, cells := mc, slots := ms, locals := 40 * d + 200 }
/-- what holds all along a method's body -/
def ab_Cx (p : Program) (l : Launch) (s : State) (m : MethodId) (args : Array Value) (meth : Method) (c : Code) (M : ab_M) : Prop :=
  p.tables.exec = Jvm.exec ∧ c.code = M.2.2.1 ∧ c.maxLocals = M.2.2.2.1 ∧ s.vm.findClass M.2.1.cls = some m.cls ∧ (∀ w ∈ ab_wm M, w.before args s = true) ∧ meth.sig.returnType = M.2.2.2.2.1 ∧ meth.locks = false ∧ (∀ x ∈ c.exceptionTable.toList, False) ∧ meth.name = M.2.1.name ∧ l.stackTraces = false
