/-! What the tables say of the classes, the pools' rows, and: the machine follows the heap steps. -/
def ab_clw : Bool := ab_cl.all (fun C => (u_ws C.1 C.2.1 C.2.2).all (fun w => decide (w ∈ lw_tbl) && goodWord w))
set_option maxRecDepth 1000000 in
theorem ab_clw_ok : ab_clw = true := by decide +kernel
theorem ab_cl_in {ci : Nat} {C : vw_C} (h : ab_cl[ci]? = some C) : ∀ w ∈ u_ws C.1 C.2.1 C.2.2, w ∈ ab_T := by
  intro w hw
  have h1 := List.all_eq_true.mp ab_clw_ok C (List.mem_of_getElem? h)
  have h2 := List.all_eq_true.mp h1 w hw
  rw [Bool.and_eq_true] at h2
  exact List.mem_filter.mpr ⟨of_decide_eq_true h2.1, h2.2⟩
theorem ab_cl_nm {ci : Nat} {C : vw_C} (h : ab_cl[ci]? = some C) : ∀ a, a < C.2.2 → ∀ b, b < C.2.2 → a ≠ b → (C.2.1 a).2.1 ≠ (C.2.1 b).2.1 := by
  match ci, h with
  | 0, h => cases h; exact nmX0
  | 1, h => cases h; exact nmX1
  | 2, h => cases h; exact nmX2
  | 3, h => cases h; exact nmX4
  | 4, h => cases h; exact nmX5
  | 5, h => cases h; exact nmX6
  | 6, h => cases h; exact nmX7
  | 7, h => cases h; exact fun a ha => absurd ha (Nat.not_lt_zero _)
  | n + 8, h => simp at h
theorem ab_cl_ty {ci : Nat} {C : vw_C} (h : ab_cl[ci]? = some C) : ∀ k, k < C.2.2 → parseFieldDescriptor (C.2.1 k).2.2.1 = some (ab_ty ci k) := by
  match ci, h with
  | 0, h => cases h; exact tyX0_ok
  | 1, h => cases h; exact tyX1_ok
  | 2, h => cases h; exact tyX2_ok
  | 3, h => cases h; exact tyX4_ok
  | 4, h => cases h; exact tyX5_ok
  | 5, h => cases h; exact tyX6_ok
  | 6, h => cases h; exact tyX7_ok
  | 7, h => cases h; exact fun a ha => absurd ha (Nat.not_lt_zero _)
  | n + 8, h => simp at h
theorem ab_dcw : ab_cl.all (fun C => (List.range C.2.2).all (fun k => decide ((C.2.1 k).1 = C.1))) = true := by decide +kernel
theorem ab_cl_dc {ci : Nat} {C : vw_C} (h : ab_cl[ci]? = some C) (k : Nat) (hk : k < C.2.2) : (C.2.1 k).1 = C.1 := by
  have h1 := List.all_eq_true.mp ab_dcw C (List.mem_of_getElem? h)
  exact of_decide_eq_true (List.all_eq_true.mp h1 k (List.mem_range.mpr hk))
def ab_insw : Bool := (List.range 7).all (fun ci => match ab_cl[ci]? with
  | some C => decide (Cond.instantiable C.1 C.2.2 ∈ lw_tbl) && decide (Cond.initialized C.1 ∈ lw_tbl) && goodWord (Cond.instantiable C.1 C.2.2) && goodWord (Cond.initialized C.1)
  | none => false)
set_option maxRecDepth 1000000 in
theorem ab_insw_ok : ab_insw = true := by decide +kernel
theorem ab_cl_ins {ci : Nat} {C : vw_C} (hc : ci < 7) (h : ab_cl[ci]? = some C) : Cond.instantiable C.1 C.2.2 ∈ ab_T ∧ Cond.initialized C.1 ∈ ab_T := by
  have h1 := List.all_eq_true.mp ab_insw_ok ci (List.mem_range.mpr hc)
  rw [h] at h1
  simp only [Bool.and_eq_true, decide_eq_true_eq] at h1
  exact ⟨List.mem_filter.mpr ⟨h1.1.1.1, h1.1.2⟩, List.mem_filter.mpr ⟨h1.1.1.2, h1.2⟩⟩
set_option maxRecDepth 1000000 in
theorem ab_arrw : (Cond.arrayClass .byte) ∈ lw_tbl ∧ (Cond.arrayClass .int) ∈ lw_tbl ∧ (Cond.arrayClass .long) ∈ lw_tbl := by decide +kernel
/-- the row of an instruction that names a field -/
theorem ab_pf_use {o i a b : Nat} {own : String} (ho : ab_own[o]? = some own) (h : ab_pf.any (fun z => z.1 == o && z.2.1 == i && z.2.2.1 == a && z.2.2.2.1 == b) = true) :
    ∃ C : vw_C, ab_cl[a]? = some C ∧ b < C.2.2 ∧ Cond.fieldLink own i (C.2.1 b).1 (C.2.1 b).2.1 (C.2.1 b).2.2.1 ∈ ab_T := by
  obtain ⟨z, hz, hq⟩ := List.any_eq_true.mp h
  have h1 := List.all_eq_true.mp ab_pf_all z hz
  simp only [Bool.and_eq_true, beq_iff_eq] at hq
  obtain ⟨⟨⟨e1, e2⟩, e3⟩, e4⟩ := hq
  unfold ab_pf_ok at h1
  rw [e1, ho, e3] at h1
  cases hC : ab_cl[a]? with
  | none => rw [hC] at h1; cases h1
  | some C =>
    rw [hC] at h1
    simp only [Bool.and_eq_true, decide_eq_true_eq] at h1
    rw [e2, e4] at h1
    exact ⟨C, rfl, h1.2, ab_T_in h1.1 rfl⟩
def ab_pN_ok (q : Nat × Nat × Nat × Nat) : Bool := match ab_own[q.1]?, ab_cl[q.2.2.1]? with
  | some O, some C => decide (lw_tbl[q.2.2.2]? = some (.classLink O q.2.1 C.1))
  | _, _ => false
set_option maxRecDepth 1000000 in
theorem ab_pN_all : ab_pN.all ab_pN_ok = true := by decide +kernel
theorem ab_pN_use {o i a : Nat} {own : String} (ho : ab_own[o]? = some own) (h : ab_pN.any (fun z => z.1 == o && z.2.1 == i && z.2.2.1 == a) = true) : ∃ C : vw_C, ab_cl[a]? = some C ∧ Cond.classLink own i C.1 ∈ ab_T := by
  obtain ⟨z, hz, hq⟩ := List.any_eq_true.mp h
  have h1 := List.all_eq_true.mp ab_pN_all z hz
  simp only [Bool.and_eq_true, beq_iff_eq] at hq
  obtain ⟨⟨e1, e2⟩, e3⟩ := hq
  unfold ab_pN_ok at h1
  rw [e1, ho, e3] at h1
  cases hC : ab_cl[a]? with
  | none => rw [hC] at h1; cases h1
  | some C =>
    rw [hC] at h1
    rw [e2] at h1
    exact ⟨C, rfl, ab_T_in (of_decide_eq_true h1) rfl⟩
theorem ab_sz_set {h : ab_H} {i : Nat} {x y : ab_C} (e : h[i]? = some x) (hz : ab_sz1 y = ab_sz1 x) : ab_sz (h.set i y) = ab_sz h := by
  unfold ab_sz
  rw [List.map_set, hz]
  congr 1
  apply List.ext_getElem?
  intro j
  rw [List.getElem?_set]
  by_cases hj : i = j
  · subst hj
    obtain ⟨hlt, hxe⟩ := List.getElem?_eq_some_iff.mp e
    simp [hlt, hxe]
  · simp [hj]
theorem ab_sz_push (h : ab_H) (x : ab_C) : ab_sz (h ++ [x]) = ab_sz h + ab_sz1 x := by
  simp [ab_sz]
theorem ab_dfl_len {ci : Nat} {C : vw_C} (h : ab_cl[ci]? = some C) : (ab_dfl ci).length = C.2.2 := by
  unfold ab_dfl
  rw [h]
  simp
section AB7
variable {p : Program} {l : Launch} {e : Env} {R : Room} {s : State} {m : MethodId} {args : Array Value} {below : List Frame} {meth : Method} {c : Code} {H : Heap} {locs : List Loc} {cells slots : Nat} {Q : State → Prop} {cc : ByteArray} {pc : Nat} {ls : Array Slot} {N0 : Nat} {adS : Nat → Nat} {D : va_G} {cA : Nat → ClassId} {h h' : ab_H} {own : String} {Ts : List Cond} {st st' : List Value} {o a b idx : Nat} {ini : Bool}
/-- what comes behind a heap step -/
def ab_kk (p : Program) (l : Launch) (e : Env) (R : Room) (s : State) (m : MethodId) (args : Array Value) (below : List Frame) (meth : Method) (c : Code) (cells slots : Nat) (Q : State → Prop) (D : va_G) (cA : Nat → ClassId) (N0 : Nat) (adS : Nat → Nat) (h h' : ab_H) (g : JFrame) : Prop :=
  ∀ (H' : Heap) (locs' : List Loc) (cells' slots' : Nat), ab_Wd D cA N0 adS h' H' → va_S (ab_A N0) s.heap H' locs' → cells' + h.length = cells + h'.length → slots' + ab_sz h = slots + ab_sz h' → W p l e R s m args below meth c H' locs' cells' slots' Q g
/-- how large the heap is: the machine's own book says it -/
theorem ab_size {g : JFrame} {n0 : Nat} (hs : s.heap.size = N0 + n0) (hc : cells + n0 = h.length) (hW : ab_Wd D cA N0 adS h H) (k : H.size = N0 + h.length → W p l e R s m args below meth c H locs cells slots Q g) : W p l e R s m args below meth c H locs cells slots Q g := by
  intro T hT X
  refine k ?_ T hT X
  have h1 : s.heap.size ≤ T.heap.size := X.same.2.1
  have h2 : T.heap.size ≤ s.heap.size + cells := X.same.2.2.1
  rw [hT] at h1 h2
  cases hl : h.length with
  | zero => omega
  | succ n =>
    obtain ⟨x, hx⟩ : ∃ x, h[n]? = some x := ⟨h[n]'(by omega), List.getElem?_eq_getElem _⟩
    have h3 := (hW n _ (ab_ws_at hx)).lt
    have h3 : N0 + n < H.size := h3
    omega
theorem ab_get_sim (hx : p.tables.exec = Jvm.exec) (hb : c.code = cc) (hown : s.vm.findClass own = some m.cls) (hts : ∀ w ∈ Ts, w.before args s = true) (hT : ∀ w ∈ ab_T, w ∈ Ts) (hK : va_K D ab_cl (ab_tys cA) s) (hW : ab_Wd D cA N0 adS h H)
    (ho : ab_own[o]? = some own) (hp : a < 7 → ab_pf.any (fun z => z.1 == o && z.2.1 == idx && z.2.2.1 == a && z.2.2.2.1 == b) = true) (hd : decode cc pc = .ok (.getfield idx, 3)) (hh : ab_fget a b h st = some st')
    (k : W p l e R s m args below meth c H locs cells slots Q (F0 m (pc + 3) ls (st'.map (ab_rv N0 adS)))) : W p l e R s m args below meth c H locs cells slots Q (F0 m pc ls (st.map (ab_rv N0 adS))) := by
  unfold ab_fget at hh
  split at hh
  · rename_i i r
    split at hh
    · rename_i ob hob
      split at hh
      · rename_i hc
        split at hh
        · rename_i v hv
          cases hh
          obtain ⟨hc1, hc2⟩ := hc
          obtain ⟨C, hC, hbC, hlk⟩ := ab_pf_use ho (hp hc2)
          subst hc1
          have hi := ab_ws_at (cA := cA) (N0 := N0) (adS := adS) hob
          exact va_get (T := C.2.1) (N := C.2.2) (C := C.1) (ref := (C.2.1 b).1) hx hb hts (fun w hw => hT w (ab_cl_in hC w hw)) hown hK hW i hi hC b hbC (hts _ (hT _ hlk)) (fun _ q => q) (v := ab_rv N0 adS v) (by rw [List.getElem?_map, hv]; rfl) hd k
        · cases hh
      · cases hh
    · cases hh
  · cases hh
theorem ab_put_sim (hx : p.tables.exec = Jvm.exec) (hb : c.code = cc) (hown : s.vm.findClass own = some m.cls) (hts : ∀ w ∈ Ts, w.before args s = true) (hT : ∀ w ∈ ab_T, w ∈ Ts) (hK : va_K D ab_cl (ab_tys cA) s) (hW : ab_Wd D cA N0 adS h H) (hS : va_S (ab_A N0) s.heap H locs)
    (ho : ab_own[o]? = some own) (hini : ini = true → meth.name = "<init>") (hp : ab_pf.any (fun z => z.1 == o && z.2.1 == idx && z.2.2.1 == a && z.2.2.2.1 == b) = true) (hd : decode cc pc = .ok (.putfield idx, 3)) (hh : ab_fput ini own a b h st = some (st', h'))
    (k : ab_kk p l e R s m args below meth c cells slots Q D cA N0 adS h h' (F0 m (pc + 3) ls (st'.map (ab_rv N0 adS)))) : W p l e R s m args below meth c H locs cells slots Q (F0 m pc ls (st.map (ab_rv N0 adS))) := by
  unfold ab_fput at hh
  split at hh
  · rename_i v i r
    split at hh
    · rename_i ob hob
      split at hh
      · rename_i hc
        cases hh
        obtain ⟨hc1, hc2, hbl, hf, hfin⟩ := hc
        obtain ⟨C, hC, hbC, hlk⟩ := ab_pf_use ho hp
        subst hc1
        have hi := ab_ws_at (cA := cA) (N0 := N0) (adS := adS) hob
        obtain ⟨hf1, hf2⟩ := ab_fit_ok (N0 := N0) (adS := adS) hf
        have kk : ∀ (H1 : Heap) (locs1 : List Loc), va_P D ab_cl ((ab_ws cA N0 adS h).set i (N0 + i, .inr (ob.1, (ob.2.map (ab_rv N0 adS)).set b (ab_rv N0 adS v)))) H1 → va_D (ab_A N0) ((ab_ws cA N0 adS h).set i (N0 + i, .inr (ob.1, (ob.2.map (ab_rv N0 adS)).set b (ab_rv N0 adS v)))) → va_S (ab_A N0) s.heap H1 locs1 → W p l e R s m args below meth c H1 locs1 cells slots Q (F0 m (pc + 3) ls (st'.map (ab_rv N0 adS))) := by
          intro H1 locs1 h1 _ h3
          have e1 : ((ab_ws cA N0 adS h).set i (N0 + i, .inr (ob.1, (ob.2.map (ab_rv N0 adS)).set b (ab_rv N0 adS v)))) = ab_ws cA N0 adS (h.set i (.inr (ob.1, ob.2.set b v))) := by
            rw [← ab_ws_set]
            show _ = (ab_ws cA N0 adS h).set i (N0 + i, .inr (ob.1, (ob.2.set b v).map (ab_rv N0 adS)))
            rw [List.map_set]
          rw [e1] at h1
          exact k H1 locs1 cells slots h1 h3 (by rw [List.length_set]) (by rw [ab_sz_set hob (by simp [ab_sz1])])
        have hty := ab_cl_ty hC
        by_cases hfb : (C.2.1 b).2.2.2 = false
        · exact va_put (T := C.2.1) (N := C.2.2) (C := C.1) (ref := (C.2.1 b).1) hx hb hts (fun w hw => hT w (ab_cl_in hC w hw)) (ab_ty ob.1) hty (ab_cl_nm hC) hown hK hW (ab_ws_D cA N0 adS h) hS i hi hC b hbC (hts _ (hT _ hlk)) (fun _ q => q) hfb (hty b hbC) hf1 hf2 (by rw [List.length_map]; exact hbl) hd kk
        · have hfb' : (C.2.1 b).2.2.2 = true := by simpa using hfb
          have h9 : ab_fin ob.1 b = true := by unfold ab_fin; rw [hC]; exact hfb'
          rcases hfin with h8 | ⟨h8, h7⟩
          · rw [h9] at h8; cases h8
          · have h6 : (C.2.1 b).1 = own := by
              have h5 : ab_cn ob.1 = C.1 := by unfold ab_cn; rw [hC]
              rw [← h7, h5]
              exact ab_cl_dc hC b hbC
            exact va_putF (T := C.2.1) (N := C.2.2) (C := C.1) (ref := (C.2.1 b).1) hx hb hts (fun w hw => hT w (ab_cl_in hC w hw)) (ab_ty ob.1) hty (ab_cl_nm hC) hown hK hW (ab_ws_D cA N0 adS h) hS i hi hC b hbC (hts _ (hT _ hlk)) (fun _ q => q) hfb' (hini h8) h6 (hty b hbC) hf1 hf2 (by rw [List.length_map]; exact hbl) hd kk
      · cases hh
    · cases hh
  · cases hh
theorem ab_tys_at {cA : Nat → ClassId} {t : Nat} (ht : t < 3) : (ab_tys cA)[t]? = some (cA t, (if t = 0 then .byte else if t = 1 then .int else .long : FieldType)) := by
  match t, ht with
  | 0, _ => rfl
  | 1, _ => rfl
  | 2, _ => rfl
theorem ab_alen_sim (hx : p.tables.exec = Jvm.exec) (hb : c.code = cc) (hK : va_K D ab_cl (ab_tys cA) s) (hW : ab_Wd D cA N0 adS h H) (hd : decode cc pc = .ok (.arraylength, 1)) (hh : ab_alen h st = some st')
    (k : W p l e R s m args below meth c H locs cells slots Q (F0 m (pc + 1) ls (st'.map (ab_rv N0 adS)))) : W p l e R s m args below meth c H locs cells slots Q (F0 m pc ls (st.map (ab_rv N0 adS))) := by
  unfold ab_alen at hh
  split at hh
  · rename_i i r
    split at hh
    · rename_i ob hob
      split at hh
      · rename_i hc
        cases hh
        exact va_alen hx hb hK hW i ob.1 (ab_ws_at (cA := cA) (N0 := N0) (adS := adS) hob) (ab_tys_at hc) rfl hd k
      · cases hh
    · cases hh
  · cases hh
theorem ab_ald_sim {ty : Instr} {t : Nat} (ht : (ty = .baload ∧ t = 0) ∨ (ty = .iaload ∧ t = 1)) (hx : p.tables.exec = Jvm.exec) (hb : c.code = cc) (hK : va_K D ab_cl (ab_tys cA) s) (hW : ab_Wd D cA N0 adS h H) (hd : decode cc pc = .ok (ty, 1)) (hh : ab_ald t h st = some st')
    (k : W p l e R s m args below meth c H locs cells slots Q (F0 m (pc + 1) ls (st'.map (ab_rv N0 adS)))) : W p l e R s m args below meth c H locs cells slots Q (F0 m pc ls (st.map (ab_rv N0 adS))) := by
  unfold ab_ald at hh
  split at hh
  · rename_i j i r
    split at hh
    · rename_i t' n f hob
      split at hh
      · rename_i hc
        cases hh
        obtain ⟨hc1, hc2⟩ := hc
        subst hc1
        rcases ht with ⟨rfl, rfl⟩ | ⟨rfl, rfl⟩
        · exact va_bald hx hb hK hW i 0 (ab_ws_at (cA := cA) (N0 := N0) (adS := adS) hob) rfl hc2 hd k
        · exact va_iald hx hb hK hW i 1 (ab_ws_at (cA := cA) (N0 := N0) (adS := adS) hob) rfl hc2 hd k
      · cases hh
    · cases hh
  · cases hh
theorem ab_lald_sim (hx : p.tables.exec = Jvm.exec) (hb : c.code = cc) (hK : va_K D ab_cl (ab_tys cA) s) (hW : ab_Wd D cA N0 adS h H) (hd : decode cc pc = .ok (.laload, 1)) (hh : ab_lald h st = some st')
    (k : W p l e R s m args below meth c H locs cells slots Q (F0 m (pc + 1) ls (st'.map (ab_rv N0 adS)))) : W p l e R s m args below meth c H locs cells slots Q (F0 m pc ls (st.map (ab_rv N0 adS))) := by
  unfold ab_lald at hh
  split at hh
  · rename_i j i r
    split at hh
    · rename_i t' n f hob
      split at hh
      · rename_i hc
        cases hh
        obtain ⟨hc1, hc2⟩ := hc
        subst hc1
        exact va_lald hx hb hK hW i 2 (ab_ws_at (cA := cA) (N0 := N0) (adS := adS) hob) rfl hc2 hd k
      · cases hh
    · cases hh
  · cases hh
theorem ab_ast_sim {ty : Instr} {t : Nat} (ht : (ty = .bastore ∧ t = 0) ∨ (ty = .iastore ∧ t = 1)) (hx : p.tables.exec = Jvm.exec) (hb : c.code = cc) (hK : va_K D ab_cl (ab_tys cA) s) (hW : ab_Wd D cA N0 adS h H) (hS : va_S (ab_A N0) s.heap H locs) (hd : decode cc pc = .ok (ty, 1)) (hh : ab_ast t h st = some (st', h'))
    (k : ab_kk p l e R s m args below meth c cells slots Q D cA N0 adS h h' (F0 m (pc + 1) ls (st'.map (ab_rv N0 adS)))) : W p l e R s m args below meth c H locs cells slots Q (F0 m pc ls (st.map (ab_rv N0 adS))) := by
  unfold ab_ast at hh
  split at hh
  · rename_i x j i r
    split at hh
    · rename_i t' n f hob
      split at hh
      · rename_i hc
        cases hh
        obtain ⟨hc1, hc2⟩ := hc
        subst hc1
        rcases ht with ⟨rfl, rfl⟩ | ⟨rfl, rfl⟩
        · refine va_bast hx hb hK hW (ab_ws_D cA N0 adS h) hS i 0 (ab_ws_at (cA := cA) (N0 := N0) (adS := adS) hob) rfl hc2 hd (fun H1 locs1 h1 _ h3 => ?_)
          rw [vp_nar_byte] at h1
          have e1 := ab_ws_set cA N0 adS h i (.inl (0, n, .inl (upd f j.toNatClampNeg x.toInt8.toInt32)))
          exact k H1 locs1 cells slots (by unfold ab_Wd; rw [if_pos rfl, ← e1]; exact h1) h3 (by rw [List.length_set]) (by rw [if_pos rfl, ab_sz_set (y := .inl (0, n, .inl (upd f j.toNatClampNeg x.toInt8.toInt32))) hob rfl])
        · refine va_iast hx hb hK hW (ab_ws_D cA N0 adS h) hS i 1 (ab_ws_at (cA := cA) (N0 := N0) (adS := adS) hob) rfl hc2 hd (fun H1 locs1 h1 _ h3 => ?_)
          have e1 := ab_ws_set cA N0 adS h i (.inl (1, n, .inl (upd f j.toNatClampNeg x)))
          exact k H1 locs1 cells slots (by unfold ab_Wd; rw [if_neg (by decide), ← e1]; exact h1) h3 (by rw [List.length_set]) (by rw [if_neg (by decide), ab_sz_set (y := .inl (1, n, .inl (upd f j.toNatClampNeg x))) hob rfl])
      · cases hh
    · cases hh
  · cases hh
theorem ab_last_sim (hx : p.tables.exec = Jvm.exec) (hb : c.code = cc) (hK : va_K D ab_cl (ab_tys cA) s) (hW : ab_Wd D cA N0 adS h H) (hS : va_S (ab_A N0) s.heap H locs) (hd : decode cc pc = .ok (.lastore, 1)) (hh : ab_last h st = some (st', h'))
    (k : ab_kk p l e R s m args below meth c cells slots Q D cA N0 adS h h' (F0 m (pc + 1) ls (st'.map (ab_rv N0 adS)))) : W p l e R s m args below meth c H locs cells slots Q (F0 m pc ls (st.map (ab_rv N0 adS))) := by
  unfold ab_last at hh
  split at hh
  · rename_i x j i r
    split at hh
    · rename_i t' n f hob
      split at hh
      · rename_i hc
        cases hh
        obtain ⟨hc1, hc2⟩ := hc
        subst hc1
        refine va_last hx hb hK hW (ab_ws_D cA N0 adS h) hS i 2 (ab_ws_at (cA := cA) (N0 := N0) (adS := adS) hob) rfl hc2 hd (fun H1 locs1 h1 _ h3 => ?_)
        have e1 := ab_ws_set cA N0 adS h i (.inl (2, n, .inr (.inl (vp_updL f j.toNatClampNeg x))))
        exact k H1 locs1 cells slots (by unfold ab_Wd; rw [← e1]; exact h1) h3 (by rw [List.length_set]) (by rw [ab_sz_set (y := .inl (2, n, .inr (.inl (vp_updL f j.toNatClampNeg x)))) hob rfl])
      · cases hh
    · cases hh
  · cases hh
/-- where a new cell lies -/
theorem ab_new_q {q : Nat} {x : va_E} {H1 : Heap} (hD : va_D (ab_A N0) (ab_ws cA N0 adS h ++ [(q, x)])) (hP : va_P D ab_cl (ab_ws cA N0 adS h ++ [(q, x)]) H1) (hz : H1.size ≤ N0 + h.length + 1) : q = N0 + h.length := by
  have hl : (ab_ws cA N0 adS h).length = h.length := by simp [ab_ws]
  have e0 : (ab_ws cA N0 adS h ++ [(q, x)])[h.length]? = some (q, x) := by
    rw [List.getElem?_append_right (by omega), hl]; simp
  have h1 : q < H1.size := (hP _ _ e0).lt
  have h2 : N0 ≤ q := hD.2 _ _ e0
  rcases Nat.lt_or_ge q (N0 + h.length) with h3 | h3
  · obtain ⟨y, hy⟩ : ∃ y, h[q - N0]? = some y := ⟨h[q - N0]'(by omega), List.getElem?_eq_getElem _⟩
    have e1 : (ab_ws cA N0 adS h ++ [(q, x)])[q - N0]? = some (N0 + (q - N0), ab_E cA N0 adS y) := by
      rw [List.getElem?_append_left (by omega)]; exact ab_ws_at hy
    have := hD.1 _ _ _ _ e1 e0 (show N0 + (q - N0) = q by omega)
    omega
  · omega
end AB7
