/-! THE LAW's own helper (its catch): CodeSmithLaw.assemble, as one step of the abstract machine. -/
def ab_yla : MethodName := ⟨"CodeSmithLaw", "assemble", "(LCodeSmith;[J)I"⟩
abbrev ab_hla : List (Nat × Nat × Nat × Nat) := [(0, 8, 11, 13)]
abbrev ab_wla : List Cond := .codeWith ab_yla method_3_code 3 (some .int) ab_hla :: ab_T
def ab_la (n d : Nat) (h : ab_H) (x o : Nat) : Option (Int32 × ab_H) := match ab_go n d 15 0 [(0, .ref x)] [] h with
  | some (.inl (some (.int v)), h1) => (match ab_last h1 [.long v.toInt64, .int 0, .ref o] with
    | some ([], h2) => some (0, h2)
    | _ => none)
  | some (.inr _, h1) => some (1, h1)
  | _ => none
set_option maxRecDepth 1000000 in
theorem ab_law_w : Cond.codeWith ab_yla method_3_code 3 (some .int) ab_hla ∈ lw_tbl ∧ Cond.methodLink "CodeSmithLaw" 7 ⟨"CodeSmith", "assemble", "()I"⟩ ∈ lw_tbl ∧ Cond.instanceMethod ⟨"CodeSmith", "assemble", "()I"⟩ ∈ lw_tbl ∧ Cond.selects "CodeSmith" ⟨"CodeSmith", "assemble", "()I"⟩ ⟨"CodeSmith", "assemble", "()I"⟩ ∈ lw_tbl ∧ Cond.classLink "CodeSmithLaw" 13 ab_IAE ∈ lw_tbl ∧ Cond.initialized "CodeSmith" ∈ lw_tbl ∧ Cond.initialized "CodeSmithLaw" ∈ lw_tbl ∧ Cond.static ab_yla ∈ lw_tbl ∧ Cond.methodLink "CodeSmithLaw" 33 ab_yla ∈ lw_tbl := by decide +kernel
set_option maxRecDepth 100000 in
theorem ab_prog15 : ab_prog[15]? = some (ab_m15, ab_c15) := rfl
theorem ab_la_mono {n d : Nat} {h : ab_H} {x o : Nat} {v : Int32} {h' : ab_H} (e : ab_la n d h x o = some (v, h')) : h.length ≤ h'.length ∧ ab_sz h ≤ ab_sz h' := by
  unfold ab_la at e
  split at e
  · rename_i w h1 hg
    have h2 := ab_go_mono _ _ _ _ _ _ _ _ _ hg
    split at e
    · rename_i h3 hl
      cases e
      have h4 : ab_hp false "" .lastore 0 0 h1 [.long w.toInt64, .int 0, .ref o] = some ([], h') := hl
      have h5 := ab_hp_mono h4
      exact ⟨Nat.le_trans h2.1 h5.1, Nat.le_trans h2.2 h5.2⟩
    · cases e
  · rename_i h1 hg
    cases e
    exact ab_go_mono _ _ _ _ _ _ _ _ _ hg
  · cases e
theorem dla_0 : decode method_3_code 0 = .ok (.aload_n 1, 1) := by decide +kernel
theorem dla_1 : decode method_3_code 1 = .ok (.iconst 0, 1) := by decide +kernel
theorem dla_2 : decode method_3_code 2 = .ok (.aload_n 0, 1) := by decide +kernel
theorem dla_3 : decode method_3_code 3 = .ok (.invokevirtual 7, 3) := by decide +kernel
theorem dla_6 : decode method_3_code 6 = .ok (.i2l, 1) := by decide +kernel
theorem dla_7 : decode method_3_code 7 = .ok (.lastore, 1) := by decide +kernel
theorem dla_8 : decode method_3_code 8 = .ok (.goto 6, 3) := by decide +kernel
theorem dla_11 : decode method_3_code 11 = .ok (.astore_n 2, 1) := by decide +kernel
theorem dla_12 : decode method_3_code 12 = .ok (.iconst 1, 1) := by decide +kernel
theorem dla_13 : decode method_3_code 13 = .ok (.ireturn, 1) := by decide +kernel
theorem dla_14 : decode method_3_code 14 = .ok (.iconst 0, 1) := by decide +kernel
theorem dla_15 : decode method_3_code 15 = .ok (.ireturn, 1) := by decide +kernel
set_option maxHeartbeats 4000000 in
theorem ab_la_met {l : Launch} (hl : l.stackTraces = false) (D : va_G) (cA : Nat → ClassId) (N0 : Nat) (adS : Nat → Nat) {n d : Nat} {h h' : ab_H} {x o : Nat} {v : Int32} {mc ms : Nat} (e : ab_la n d h x o = some (v, h')) (hx9 : ∃ fs, h[x]? = some (.inr (5, fs))) (hmc : mc + h.length = h'.length) (hms : ms + ab_sz h = ab_sz h') :
    Met l ab_yla ab_wla (ab_rm (d + 1) mc ms) (ab_P D cA N0 adS [.ref x, .ref o] h) (ab_Q D cA N0 adS (.inl (some (.int v))) h') mc ms (ab_A N0) := by
  refine va_MetW (cc := method_3_code) (maxL := 3) (ret := some .int) (hh := ab_hla) (by decide) rfl ?_
  intro p e9 s m args below meth c s₁ B hml hv
  obtain ⟨rfl, hK, hW, hz, hSW⟩ := hv
  have hts := atoms_spec (ws := ab_wla) B.pre
  have hx := B.exec
  have hb := B.bytes
  have hr := B.returns
  have hown : s.vm.findClass "CodeSmithLaw" = some m.cls := findClass_of_methodNamed B.named
  have hlocks := B.notSynchronized
  have htab := vx_table (x := ab_yla) B (hts _ List.mem_cons_self)
  obtain ⟨w1, w2, w3, w4, w5, w6, w7, w8, w9⟩ := ab_law_w
  have hT : ∀ w ∈ ab_T, w ∈ ab_wla := fun w hw => List.mem_cons_of_mem _ hw
  have hG : GoodIn ab_wla (ab_wm ab_m15) := by
    have hg := ab_T_goodT (Ts := ab_wla) hT
    intro w hw
    rcases List.mem_cons.mp hw with rfl | hw
    · exact hg _ (ab_hok_at (ab_prog_at ab_prog15).1).1
    · exact hg w hw
  have hlv := lv_entry ([.ref (N0 + x), .ref (N0 + o)]) (n := 3) (Nat.le_of_ble_eq_true rfl)
  rw [show (List.map (ab_rv N0 adS) [Value.ref x, Value.ref o]).toArray = ([Value.ref (N0 + x), Value.ref (N0 + o)] : List Value).toArray from rfl, lg_entry_eq]
  generalize (lg_sl ([Value.ref (N0 + x), Value.ref (N0 + o)]) ++ List.replicate (3 - (lg_sl ([Value.ref (N0 + x), Value.ref (N0 + o)])).length) Slot.unset).toArray = ls at hlv ⊢
  have hlv : lv_has ls 3 [(0, .ref (N0 + x)), (1, .ref (N0 + o))] := hlv
  refine lv_aload_n hx hb dla_0 rfl (lv_at hlv 1 rfl) ?_
  refine lv_iconst (v := 0) hx hb dla_1 (by decide) ?_
  refine lv_aload_n hx hb dla_2 rfl (lv_at hlv 0 rfl) ?_
  have S : CallFix p m c method_3_code 3 s (List.map (ab_rv N0 adS) [Value.ref x, Value.ref o]).toArray ab_wla "CodeSmithLaw" := ⟨hx, hb, hml, hown, hts⟩
  have hmo := ab_la_mono e
  -- the callee
  have key : ∀ (o2 : Option Value ⊕ Unit) (h2 : ab_H), ab_go n d 15 0 [(0, .ref x)] [] h = some (o2, h2) → (∀ w, o2 = .inl w → ∃ (i : Int32) (h3 : ab_H), w = some (.int i) ∧ ab_last h2 [.long i.toInt64, .int 0, .ref o] = some ([], h3) ∧ v = 0 ∧ h' = h3) → (o2 = .inr () → v = 1 ∧ h' = h2) →
      W p l e9 (ab_rm (d + 1) mc ms) s m (List.map (ab_rv N0 adS) [Value.ref x, Value.ref o]).toArray below meth c s.heap [] 0 0 (MQ below (ab_Q D cA N0 adS (.inl (some (.int v))) h') (List.map (ab_rv N0 adS) [Value.ref x, Value.ref o]).toArray s mc ms (ab_A N0)) (F0 m 3 ls [.ref (N0 + x), .int 0, .ref (N0 + o)]) := by
    intro o2 h2 hg hr1 hr2
    have hm2 := ab_go_mono _ _ _ _ _ _ _ _ _ hg
    have hle : h2.length ≤ h'.length ∧ ab_sz h2 ≤ ab_sz h' := by
      rcases o2 with w | u
      · obtain ⟨i, h3, -, q2, -, q4⟩ := hr1 w rfl
        have h4 : ab_hp false "" .lastore 0 0 h2 [.long i.toInt64, .int 0, .ref o] = some ([], h3) := q2
        rw [q4]
        exact ab_hp_mono h4
      · obtain ⟨-, q⟩ := hr2 rfl
        rw [q]; exact ⟨Nat.le_refl _, Nat.le_refl _⟩
    obtain ⟨mc2, hmc2⟩ : ∃ k, k + h.length = h2.length := ⟨h2.length - h.length, by omega⟩
    obtain ⟨ms2, hms2⟩ : ∃ k, k + ab_sz h = ab_sz h2 := ⟨ab_sz h2 - ab_sz h, by omega⟩
    have hmet := ab_met_of (ab_frame l hl n) hl D cA N0 adS (vs := [.ref x]) ab_prog15 hg (by show 1 ≤ 3; decide) hmc2 hms2
    have cw : CallW (ab_rm (d + 1) mc ms) s (List.map (ab_rv N0 adS) [Value.ref x, Value.ref o]).toArray "CodeSmithLaw" "CodeSmith" 7 ab_m15.2.1 ab_m15.2.2.1 ab_m15.2.2.2.1 ab_m15.2.2.2.2.1 (ab_wm ab_m15) (ab_rm d mc2 ms2) mc2 ms2 0 := by
      refine ⟨callB_of _ hts hG rfl rfl rfl (hts _ (hT _ (List.mem_filter.mpr ⟨w6, rfl⟩))) (hts _ (hT _ (List.mem_filter.mpr ⟨w2, rfl⟩))) (by decide +kernel) ⟨?_, ?_⟩, hts _ (hT _ (List.mem_filter.mpr ⟨w3, rfl⟩)), hts _ (hT _ (List.mem_filter.mpr ⟨w4, rfl⟩))⟩
      · show d + 10 + 1 ≤ d + 1 + 10
        omega
      · show 8 + (ab_m15.2.2.2.1 + 11) + (40 * d + 200) ≤ 40 * (d + 1) + 200
        have h20 : ab_m15.2.2.2.1 ≤ 20 := (ab_hok_at (ab_prog_at ab_prog15).1).2.2.2.2.2
        omega
    obtain ⟨fs, hfs⟩ := hx9
    have he := ab_ws_at (cA := cA) (N0 := N0) (adS := adS) hfs
    have hrc := va_recv hK hW (ci := 5) rfl he
    refine ab_run_k (vx_runV (As := []) (b := N0 + x) (rest := [.int 0, .ref (N0 + o)]) S hmet cw ⟨ab_P_blind _ _ _ _ _ _, hrc, ab_pre hK hW hz va_S.rf hSW [.ref x]⟩ rfl rfl hlv.1 rfl (lv_room (Nat.le_of_ble_eq_true rfl)) dla_3 ⟨?_, ?_⟩) va_S.rf (fun w hw H1 locs1 q1 q2 => ?_) (fun hw H1 locs1 ce q q1 q2 q3 q4 q5 => ?_)
    · show 0 + mc2 ≤ mc
      omega
    · show 0 + ms2 ≤ ms
      omega
    · obtain ⟨i, h3, r1, r2, r3, r4⟩ := hr1 w hw
      subst r1; subst r3; subst r4
      refine lv_i2l hx hb dla_6 rfl ?_
      refine ab_last_sim (st := [.long i.toInt64, .int 0, .ref o]) (st' := []) hx hb hK q1 q2 dla_7 r2 (fun H2 locs2 c2 s2 g1 g2 g3 g4 => ?_)
      refine lv_goto (tgt := 14) hx hb dla_8 (by decide) ?_
      refine lv_iconst (v := 0) hx hb dla_14 (by decide) ?_
      have e1 : c2 = mc := by omega
      have e2 : s2 = ms := by omega
      subst e1; subst e2
      exact W.iret hx hb hr (fun t ht _ => ⟨some (.int 0), rfl, rfl, by rw [ht]; exact g1, g2.F ht⟩) g2.2.2 dla_15 hlocks
    · obtain ⟨r1, r2⟩ := hr2 hw
      subst r1; subst r2
      refine ab_catch (own := "CodeSmithLaw") (name := ab_IAE) (E := ab_IAE) hown _ [] htab (by decide) (by decide) (hts _ (hT _ (List.mem_filter.mpr ⟨w5, rfl⟩))) (va_Nw.use rfl (hSW.2.2.2.2.2.2.2.2.1.2 _ List.mem_cons_self)) q3 q4 q5 ?_
      refine lv_astore_n (lv' := [(2, .ref q), (0, .ref (N0 + x)), (1, .ref (N0 + o))]) hx hb dla_11 rfl hlv (by decide) rfl (fun ls2 hlv2 => ?_)
      refine lv_iconst (v := 1) hx hb dla_12 (by decide) ?_
      have e1 : 0 + mc2 = mc := by omega
      have e2 : 0 + ms2 = ms := by omega
      rw [e1, e2]
      exact W.iret hx hb hr (fun t ht _ => ⟨some (.int 1), rfl, rfl, by rw [ht]; exact q1, q2.F ht⟩) q2.2.2 dla_13 hlocks
  unfold ab_la at e
  split at e
  · rename_i w h1 hg
    split at e
    · rename_i h2 hl9
      cases e
      exact key _ _ hg (fun y hy => by cases hy; exact ⟨w, h', rfl, hl9, rfl, rfl⟩) (fun hy => by cases hy)
    · cases e
  · rename_i u h1 hg
    cases e
    exact key _ _ hg (fun y hy => by cases hy) (fun _ => ⟨rfl, rfl⟩)
  · cases e
