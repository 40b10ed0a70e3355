theorem ab_good (M M2 : ab_M) (h2 : ab_hok M2 = true) : GoodIn (ab_wm M) (ab_wm M2) := by
  have hg := ab_T_goodT (Ts := ab_wm M) (fun w hw => List.mem_cons_of_mem _ hw)
  intro w hw
  rcases List.mem_cons.mp hw with rfl | hw
  · exact hg _ (ab_hok_at h2).1
  · exact hg w hw
section AB10E
variable {p : Program} {l : Launch} {e : Env} {s : State} {m : MethodId} {args : Array Value} {below : List Frame} {meth : Method} {c : Code} {H : Heap} {locs : List Loc} {cells slots : Nat} {Q : State → Prop} {pc : Nat} {ls : Array Slot} {N0 : Nat} {adS : Nat → Nat} {D : va_G} {cA : Nat → ClassId} {h h2 : ab_H} {M : ab_M} {P2 : ab_M × List ab_I} {st rest vs : List Value} {a b len mc ms mc2 ms2 d2 : Nat} {i : Instr} {o2 : Option Value ⊕ Unit}
theorem ab_split {st : List Value} {np : Nat} {x : Value} {r : List Value} (N0 : Nat) (adS : Nat → Nat) (hd : st.drop np = x :: r) : st.map (ab_rv N0 adS) = ((st.take np).reverse.map (ab_rv N0 adS)).reverse ++ ab_rv N0 adS x :: r.map (ab_rv N0 adS) := by
  have h1 : st = st.take np ++ (x :: r) := by rw [← hd, List.take_append_drop]
  conv => lhs; rw [h1]
  rw [List.map_append, List.map_cons, ← List.map_reverse, List.reverse_reverse]
theorem ab_call_sim (X : ab_Cx p l s m args meth c M) (hM : ab_hok M = true) (hP2 : ab_prog[a]? = some P2) (hls : ls.size = M.2.2.2.1) (hK : va_K D ab_cl (ab_tys cA) s) (hW : ab_Wd D cA N0 adS h H) (hz : H.size = N0 + h.length) (hS : va_S (ab_A N0) s.heap H locs) (hSW : ab_SW N0 adS s s.heap) (hk : ab_eok M.1 M.2.2.1 (pc, i, len, a, b) = true)
    (hi : ab_inv i a P2.1.2.2.2.2.2.1 P2.1.2.1.cls h st = some (vs, rest)) (hsp : ∀ idx, i = .invokespecial idx → ∀ u, o2 ≠ .inr u)
    (hm : vx_Met l P2.1.2.1 (ab_wm P2.1) (ab_rm d2 mc2 ms2) (ab_P D cA N0 adS vs h) (ab_Q D cA N0 adS o2 h2) (ab_X D cA N0 adS o2 h2) mc2 ms2 (ab_A N0)) (hf : cells + mc2 ≤ mc ∧ slots + ms2 ≤ ms)
    (kr : ∀ v, o2 = .inl v → ∀ (H1 : Heap) (locs1 : List Loc), ab_Wd D cA N0 adS h2 H1 → va_S (ab_A N0) s.heap H1 locs1 → W p l e (ab_rm (d2 + 1) mc ms) s m args below meth c H1 locs1 (cells + mc2) (slots + ms2) Q (F0 m (pc + 3) ls ((v.toList ++ rest).map (ab_rv N0 adS))))
    (kx : o2 = .inr () → ∀ (H1 : Heap) (locs1 : List Loc) (ce : Cell) (q : Addr), ab_Wd D cA N0 adS h2 H1 → va_S (ab_A N0) s.heap H1 locs1 → H1[q]? = some ce → ce.vm = .none → s.vm.findClass ab_IAE = some ce.cls → vx_W p l e (ab_rm (d2 + 1) mc ms) s m args below meth c H1 locs1 (cells + mc2) (slots + ms2) Q (F0 m pc ls (rest.map (ab_rv N0 adS))) q) :
    W p l e (ab_rm (d2 + 1) mc ms) s m args below meth c H locs cells slots Q (F0 m pc ls (st.map (ab_rv N0 adS))) := by
  obtain ⟨hx, hb, hml, hown, hts, hr, hlocks, hex, hnm, hl⟩ := id X
  obtain ⟨-, ho, -, -, -, -⟩ := ab_hok_at hM
  have hok2 := (ab_prog_at hP2).1
  obtain ⟨g1, g2, g3, g4, g5, g6⟩ := ab_hok_at hok2
  have hT : ∀ w ∈ ab_T, w ∈ ab_wm M := fun w hw => List.mem_cons_of_mem _ hw
  have hini : (Cond.initialized P2.1.2.1.cls).before args s = true := hts _ (hT _ (ab_own_T g2))
  have hG := ab_good M P2.1 hok2
  have hRm : (ab_rm d2 mc2 ms2).frames + 1 ≤ (ab_rm (d2 + 1) mc ms).frames ∧ 8 + (P2.1.2.2.2.1 + 11) + (ab_rm d2 mc2 ms2).locals ≤ (ab_rm (d2 + 1) mc ms).locals := by
    refine ⟨?_, ?_⟩
    · show d2 + 10 + 1 ≤ d2 + 1 + 10
      omega
    · show 8 + (P2.1.2.2.2.1 + 11) + (40 * d2 + 200) ≤ 40 * (d2 + 1) + 200
      omega
  have S : CallFix p m c M.2.2.1 M.2.2.2.1 s args (ab_wm M) M.2.1.cls := ⟨hx, hb, hml, hown, hts⟩
  have ktoL : ∀ v : Option Value, ((v.map (ab_rv N0 adS)).toList ++ rest.map (ab_rv N0 adS)) = (v.toList ++ rest).map (ab_rv N0 adS) := by
    intro v; cases v <;> simp
  cases i
  case invokevirtual idx =>
    have hd := ab_eok_len hk (by simp [ab_len])
    unfold ab_eok at hk
    rw [Bool.and_eq_true] at hk
    obtain ⟨z, hz9, hq⟩ := List.any_eq_true.mp hk.2
    have h1 := List.all_eq_true.mp ab_pV_all z hz9
    simp only [Bool.and_eq_true, beq_iff_eq] at hq
    obtain ⟨⟨e1, e2⟩, e3⟩ := hq
    unfold ab_pV_ok at h1
    rw [e1, ho, e3, hP2] at h1
    simp only [Bool.and_eq_true, decide_eq_true_eq] at h1
    rw [e2] at h1
    have hlk := hts _ (hT _ (ab_T_in h1.1.1 rfl))
    have hin := hts _ (hT _ (ab_T_in h1.1.2 rfl))
    have hse := hts _ (hT _ (ab_T_in h1.2 rfl))
    have cw : CallW (ab_rm (d2 + 1) mc ms) s args M.2.1.cls P2.1.2.1.cls idx P2.1.2.1 P2.1.2.2.1 P2.1.2.2.2.1 P2.1.2.2.2.2.1 (ab_wm P2.1) (ab_rm d2 mc2 ms2) mc2 ms2 P2.1.2.2.2.2.2.1 := ⟨callB_of _ hts hG rfl rfl rfl hini hlk ⟨g5.1, g5.2, g4⟩ hRm, hin, hse⟩
    simp only [ab_inv] at hi
    split at hi
    · rename_i j r hdr
      split at hi
      · rename_i ob hob
        split at hi
        · rename_i hc
          cases hi
          have he := ab_ws_at (cA := cA) (N0 := N0) (adS := adS) hob
          obtain ⟨rr, hrr, -⟩ := hW j _ he
          have hrc : ∃ cell : Cell, H[N0 + j]? = some cell ∧ cell.vm.isStatics = false ∧ s.vm.findClass P2.1.2.1.cls = some cell.cls := by
            have h9 := va_recv hK hW hrr he
            have h8 : rr.1 = P2.1.2.1.cls := by rw [← hc.1]; unfold ab_cn; rw [hrr]
            rw [h8] at h9
            exact h9
          refine ab_run_k (vx_runV (As := (st.take P2.1.2.2.2.2.2.1).reverse.map (ab_rv N0 adS)) (b := N0 + j) (rest := rest.map (ab_rv N0 adS)) S hm cw ⟨ab_P_blind _ _ _ _ _ _, hrc, ab_pre hK hW hz hS hSW (.ref j :: (st.take P2.1.2.2.2.2.2.1).reverse)⟩ rfl (by rw [List.length_map, List.length_reverse]; exact hc.2.1) hls (ab_split N0 adS hdr) (by show 2 * 0 + _ ≤ 8; rw [ab_cat_rv]; omega) hd hf) hS (fun v hv H1 locs1 q1 q2 => by rw [ktoL]; exact kr v hv H1 locs1 q1 q2) kx
        · cases hi
      · cases hi
    · rename_i k r hdr
      split at hi
      · rename_i hc
        cases hi
        have hrc : ∃ cell : Cell, H[adS k]? = some cell ∧ cell.vm.isStatics = false ∧ s.vm.findClass P2.1.2.1.cls = some cell.cls := by
          obtain ⟨cell, q1, q2, q3, q4⟩ := (hSW.1 k hc.2.1).1
          refine ⟨cell, ?_, q2, by rw [← hc.1]; exact q3⟩
          rw [hS.2.1 (adS k) (Array.getElem?_eq_some_iff.mp q1).1 q4]
          exact q1
        refine ab_run_k (vx_runV (As := (st.take P2.1.2.2.2.2.2.1).reverse.map (ab_rv N0 adS)) (b := adS k) (rest := rest.map (ab_rv N0 adS)) S hm cw ⟨ab_P_blind _ _ _ _ _ _, hrc, ab_pre hK hW hz hS hSW (.retAddr k :: (st.take P2.1.2.2.2.2.2.1).reverse)⟩ rfl (by rw [List.length_map, List.length_reverse]; exact hc.2.2.1) hls (ab_split N0 adS hdr) (by show 2 * 0 + _ ≤ 8; rw [ab_cat_rv]; omega) hd hf) hS (fun v hv H1 locs1 q1 q2 => by rw [ktoL]; exact kr v hv H1 locs1 q1 q2) kx
      · cases hi
    · cases hi
  case invokestatic idx =>
    have hd := ab_eok_len hk (by simp [ab_len])
    unfold ab_eok at hk
    rw [Bool.and_eq_true] at hk
    obtain ⟨z, hz9, e1, e2, e3⟩ := ab_pS_use ho hk.2
    unfold ab_pS_ok at hz9
    rw [e1, ho, e3] at hz9
    have hlt : a < 900 := by
      have h8 := (List.getElem?_eq_some_iff.mp hP2).1
      have h7 : ab_prog.length = 179 := by rfl
      omega
    simp only [show ¬ a = 999 by omega, show ¬ a = 997 by omega, show ¬ a = 996 by omega, if_false, hP2] at hz9
    simp only [Bool.and_eq_true, decide_eq_true_eq] at hz9
    rw [e2] at hz9
    have cw : CallB (ab_rm (d2 + 1) mc ms) s args M.2.1.cls idx P2.1.2.1 P2.1.2.2.1 P2.1.2.2.2.1 P2.1.2.2.2.2.1 (ab_wm P2.1) (ab_rm d2 mc2 ms2) mc2 ms2 P2.1.2.2.2.2.2.1 ∧ (Cond.static P2.1.2.1).before args s = true := ⟨callB_of _ hts hG rfl rfl rfl hini (hts _ (hT _ (ab_T_in hz9.1 rfl))) ⟨g5.1, g5.2, g4⟩ hRm, hts _ (hT _ (ab_T_in hz9.2 rfl))⟩
    simp only [ab_inv] at hi
    split at hi
    · rename_i hc
      cases hi
      refine ab_run_k (vx_runS (As := (st.take P2.1.2.2.2.2.2.1).reverse.map (ab_rv N0 adS)) (rest := (st.drop P2.1.2.2.2.2.2.1).map (ab_rv N0 adS)) S hm cw ⟨ab_P_blind _ _ _ _ _ _, ab_pre hK hW hz hS hSW (st.take P2.1.2.2.2.2.2.1).reverse⟩ rfl (by rw [List.length_map, List.length_reverse]; exact hc.1) hls (by
        show st.map (ab_rv N0 adS) = _
        rw [← List.map_reverse, List.reverse_reverse, ← List.map_append, List.take_append_drop]) (by show 2 * 0 + _ ≤ 8; rw [ab_cat_rv]; omega) hd hf) hS (fun v hv H1 locs1 q1 q2 => by rw [ktoL]; exact kr v hv H1 locs1 q1 q2) kx
    · cases hi
  case invokespecial idx =>
    have hd := ab_eok_len hk (by simp [ab_len])
    unfold ab_eok at hk
    rw [Bool.and_eq_true] at hk
    obtain ⟨z, hz9, e1, e2, e3⟩ := ab_pI_use ho hk.2
    unfold ab_pI_ok at hz9
    rw [e1, ho, e3] at hz9
    have hlt : a < 900 := by
      have h8 := (List.getElem?_eq_some_iff.mp hP2).1
      have h7 : ab_prog.length = 179 := by rfl
      omega
    simp only [show ¬ a = 998 by omega, if_false, hP2] at hz9
    simp only [Bool.and_eq_true, Bool.or_eq_true, decide_eq_true_eq] at hz9
    rw [e2] at hz9
    obtain ⟨⟨⟨q1, q2⟩, q3⟩, q4⟩ := hz9
    have hin := hts _ (hT _ (ab_T_in q2 rfl))
    have hM0 : Met l P2.1.2.1 (ab_wm P2.1) (ab_rm d2 mc2 ms2) (ab_P D cA N0 adS vs h) (ab_Q D cA N0 adS o2 h2) mc2 ms2 (ab_A N0) := ab_toMet (fun E s9 t hX => hsp idx rfl () hX.1) hm
    have hwe : ab_wm P2.1 = Cond.code P2.1.2.1 P2.1.2.2.1 P2.1.2.2.2.1 none :: ab_T := by unfold ab_wm; rw [q4]
    simp only [ab_inv] at hi
    split at hi
    · rename_i j r hdr
      split at hi
      · rename_i hc
        cases hi
        have hst : (F0 m pc ls (st.map (ab_rv N0 adS))).stack = ((st.take P2.1.2.2.2.2.2.1).reverse.map (ab_rv N0 adS)).reverse ++ .ref (N0 + j) :: rest.map (ab_rv N0 adS) := ab_split N0 adS hdr
        rcases q1 with q1 | q1
        · refine ab_run_m (va_runI (bytes := P2.1.2.2.1) (maxL := P2.1.2.2.2.1) (As := (st.take P2.1.2.2.2.2.2.1).reverse.map (ab_rv N0 adS)) (b := N0 + j) (rest := rest.map (ab_rv N0 adS)) S hM0 ⟨callB_of _ hts hG hwe rfl rfl hini (hts _ (hT _ (ab_T_in q1 rfl))) ⟨g5.1, g5.2, g4⟩ hRm, q3, hin⟩ ⟨ab_P_blind _ _ _ _ _ _, ab_pre hK hW hz hS hSW (.ref j :: (st.take P2.1.2.2.2.2.2.1).reverse)⟩ rfl (by rw [List.length_map, List.length_reverse]; exact hc.1) hls hst (by show 2 * 0 + _ ≤ 8; rw [ab_cat_rv]; omega) hd hf) hS (fun v hv H1 locs1 q1 q2 => by rw [ktoL]; exact kr v hv H1 locs1 q1 q2)
        · obtain ⟨y, hy, hy2⟩ := List.any_eq_true.mp q1
          simp only [Bool.and_eq_true, decide_eq_true_eq] at hy2
          obtain ⟨⟨w1, w2⟩, w3⟩ := hy2
          have hnl := hSW.2.2.2.2.2.2.2.2.2.2.2 y hy
          rw [w1, w2, w3] at hnl
          refine ab_run_m (va_runIN (bytes := P2.1.2.2.1) (maxL := P2.1.2.2.2.1) (host := y.2.2.2) (As := (st.take P2.1.2.2.2.2.2.1).reverse.map (ab_rv N0 adS)) (b := N0 + j) (rest := rest.map (ab_rv N0 adS)) S hM0 ⟨va_cnB _ hts hG hwe rfl rfl hnl hini ⟨g5.1, g5.2, g4⟩ hRm, q3, hin⟩ ⟨ab_P_blind _ _ _ _ _ _, ab_pre hK hW hz hS hSW (.ref j :: (st.take P2.1.2.2.2.2.2.1).reverse)⟩ rfl (by rw [List.length_map, List.length_reverse]; exact hc.1) hls hst (by show 2 * 0 + _ ≤ 8; rw [ab_cat_rv]; omega) hd hf) hS (fun v hv H1 locs1 q1 q2 => by rw [ktoL]; exact kr v hv H1 locs1 q1 q2)
      · cases hi
    · cases hi
  all_goals (simp only [ab_inv, reduceCtorEq] at hi)
end AB10E
