theorem ab_T_tbl : ∀ w ∈ ab_T, w ∈ lw_tbl := fun w hw => (List.mem_filter.mp hw).1
theorem ab_ln_mono {xs : Nat → Int32} {L : Nat} {i : Instr} {a pc : Nat} {l : ab_L} {st : List Value} {h : ab_H} {z : Nat × ab_L × List Value × ab_H} (e : ab_ln xs L i a pc l st h = some z) : h.length ≤ z.2.2.2.length ∧ ab_sz h ≤ ab_sz z.2.2.2 := by
  have hw : ∀ q, ab_lnw i a h st = some q → h.length ≤ q.2.length ∧ ab_sz h ≤ ab_sz q.2 := by
    intro q hq
    cases i <;> simp only [ab_lnw, reduceCtorEq] at hq
    case new idx => exact ab_hp_mono (ini := false) (own := "") (i := .new idx) (a := a) (b := 0) (st := st) (st' := q.1) hq
    case newarray t => exact ab_hp_mono (ini := false) (own := "") (i := .newarray t) (a := a) (b := 0) (st := st) (st' := q.1) hq
  unfold ab_ln at e
  repeat' split at e
  all_goals first | (cases e; exact ⟨Nat.le_refl _, Nat.le_refl _⟩) | (cases e; done) | (cases e; rename_i hq; exact hw _ hq)
theorem ab_lc2_mono {n d : Nat} {i : Instr} {a : Nat} {st : List Value} {h : ab_H} {z : Option Value × List Value × ab_H} (e : ab_lc2 n d i a h st = some z) : h.length ≤ z.2.2.length ∧ ab_sz h ≤ ab_sz z.2.2 := by
  unfold ab_lc2 at e
  split at e
  · cases e
  · split at e
    · cases e
    · split at e
      · split at e
        · rename_i hq
          cases e
          exact ab_go_mono _ _ _ _ _ _ _ _ _ hq
        · cases e
      · cases e
theorem ab_lcl_mono {n d : Nat} {i : Instr} {a : Nat} {st : List Value} {h : ab_H} {z : Option Value × List Value × ab_H} (e : ab_lcl n d i a h st = some z) : h.length ≤ z.2.2.length ∧ ab_sz h ≤ ab_sz z.2.2 := by
  cases i <;> simp only [ab_lcl, reduceCtorEq] at e
  case invokevirtual => exact ab_lc2_mono e
  case invokespecial => exact ab_lc2_mono e
  case invokestatic =>
    unfold ab_lcs at e
    split at e
    · split at e
      · split at e
        · split at e
          · rename_i q hq
            cases e
            exact ab_la_mono hq
          · cases e
        · cases e
      · cases e
    · cases e
theorem ab_law_mono (xs : Nat → Int32) (L : Nat) : ∀ (n d pc : Nat) (l : ab_L) (st : List Value) (h : ab_H) (v : Int32) (h' : ab_H), ab_law xs L n d pc l st h = some (v, h') → h.length ≤ h'.length ∧ ab_sz h ≤ ab_sz h' := by
  intro n
  induction n with
  | zero => intro d pc l st h v h' e; cases e
  | succ n ih =>
    intro d pc l st h v h' e
    unfold ab_law at e
    split at e
    · cases e
    · split at e
      · rename_i hz
        have h1 := ab_ln_mono hz
        have h2 := ih _ _ _ _ _ _ _ e
        exact ⟨Nat.le_trans h1.1 h2.1, Nat.le_trans h1.2 h2.2⟩
      · split at e
        · cases e; exact ⟨Nat.le_refl _, Nat.le_refl _⟩
        · split at e
          · cases e
          · rename_i hz
            have h1 := ab_lcl_mono hz
            have h2 := ih _ _ _ _ _ _ _ e
            exact ⟨Nat.le_trans h1.1 h2.1, Nat.le_trans h1.2 h2.2⟩
section AB12
variable {p : Program} {l : Launch} {e : Env} {R : Room} {s : State} {m : MethodId} {args : Array Value} {below : List Frame} {meth : Method} {c : Code} {H : Heap} {locs : List Loc} {cells slots : Nat} {Q : State → Prop} {cc : ByteArray} {pc : Nat} {ls : Array Slot} {N0 : Nat} {adS : Nat → Nat} {D : va_G} {cA : Nat → ClassId} {h h' : ab_H} {own : String} {Ts : List Cond} {st st' : List Value} {a b idx n0 L d n mc ms : Nat} {xs : Nat → Int32} {i : Instr}
theorem ab_nw_sim2 (hx : p.tables.exec = Jvm.exec) (hb : c.code = cc) (hown : s.vm.findClass own = some m.cls) (hts : ∀ w ∈ Ts, w.before args s = true) (hT : ∀ w ∈ ab_T, w ∈ Ts) (hK : va_K D ab_cl (ab_tys cA) s) (hW : ab_Wd D cA N0 adS h H) (hS : va_S (ab_A N0) s.heap H locs)
    (hs : s.heap.size = N0 + n0) (hc : cells + n0 = h.length) (hR1 : cells + h'.length ≤ R.cells + h.length) (hR2 : slots + ab_sz h' ≤ R.slots + ab_sz h) (hp : ∃ C : vw_C, ab_cl[a]? = some C ∧ Cond.classLink own idx C.1 ∈ Ts) (hd : decode cc pc = .ok (.new idx, 3)) (hh : ab_nw a h st = some (st', h'))
    (k : ab_kk p l e R s m args below meth c cells slots Q D cA N0 adS h h' (F0 m (pc + 3) ls (st'.map (ab_rv N0 adS)))) : W p l e R s m args below meth c H locs cells slots Q (F0 m pc ls (st.map (ab_rv N0 adS))) := by
  unfold ab_nw at hh
  split at hh
  · rename_i ha
    cases hh
    obtain ⟨C, hC, hlk⟩ := hp
    obtain ⟨hi1, hi2⟩ := ab_cl_ins ha hC
    have hl := ab_dfl_len hC
    have hz1 : ab_sz1 (.inr (a, ab_dfl a)) = C.2.2 := by
      simp only [ab_sz1]
      rw [if_neg (by omega), hl]
    rw [List.length_append, List.length_singleton] at hR1
    rw [ab_sz_push, hz1] at hR2
    refine va_new (C := C.1) (T := C.2.1) (N := C.2.2) (ci := a) (fs := (ab_dfl a).map (ab_rv N0 adS)) hx hb hts (fun w hw => hT w (ab_cl_in hC w hw)) (ab_ty a) (ab_cl_ty hC) hown (hts _ hlk) (hts _ (hT _ hi1)) (hts _ (hT _ hi2)) hK hW (ab_ws_D cA N0 adS h) hS (fun q hq => Nat.le_trans (by omega) hq) hC ?_ (by omega) (by omega) hd (fun q H1 hP1 hD1 hS1 => ?_)
    · intro j hj
      unfold vp_V ab_dfl
      rw [hC]
      simp [List.getD, hj, ab_rv_dfl]
    · intro T hT9 X
      have hz : T.heap.size ≤ s.heap.size + (cells + 1) := X.same.2.2.1
      rw [hT9] at hz
      have hq := ab_new_q hD1 hP1 (by omega)
      subst hq
      exact k H1 locs (cells + 1) (slots + C.2.2) (by unfold ab_Wd; rw [← ab_ws_push]; exact hP1) hS1 (by rw [List.length_append, List.length_singleton]; omega) (by rw [ab_sz_push, hz1]; omega) T hT9 X
  · cases hh
/-- what holds all along the law's body -/
def ab_Lx (p : Program) (l : Launch) (s : State) (m : MethodId) (meth : Method) (c : Code) (b L : Nat) (xs : Nat → Int32) (N0 : Nat) (adS : Nat → Nat) (D : va_G) (cA : Nat → ClassId) : Prop :=
  p.tables.exec = Jvm.exec ∧ c.code = code ∧ meth.sig.returnType = ret ∧ c.maxLocals = 7 ∧ s.vm.findClass "CodeSmithLaw" = some m.cls ∧ (∀ w ∈ lw_tbl, w.before #[Value.ref b] s = true) ∧ va_X b L xs s s.heap ∧ b < s.heap.size ∧ meth.locks = false ∧ l.stackTraces = false ∧ N0 = s.heap.size ∧ adS 600 = b ∧ va_K D ab_cl (ab_tys cA) s ∧ ab_SW N0 adS s s.heap
theorem ab_goodL {P2 : ab_M × List ab_I} (h2 : ab_prog[a]? = some P2) : GoodIn lw_tbl (ab_wm P2.1) := by
  have hg := ab_T_goodT (Ts := lw_tbl) ab_T_tbl
  intro w hw
  rcases List.mem_cons.mp hw with rfl | hw
  · exact hg _ (ab_hok_at (ab_prog_at h2).1).1
  · exact hg w hw
theorem ab_goodLa : GoodIn lw_tbl (va_wsS "CodeSmithLaw" 33 ab_yla ab_wla) := by
  have hg := ab_T_goodT (Ts := lw_tbl) ab_T_tbl
  obtain ⟨w1, w2, w3, w4, w5, w6, w7, w8, w9⟩ := ab_law_w
  intro w hw
  unfold va_wsS at hw
  rcases List.mem_append.mp hw with hw | hw
  · simp only [List.mem_cons, List.not_mem_nil, or_false] at hw
    rcases hw with rfl | rfl | rfl
    · exact ⟨w9, good_of_word rfl⟩
    · exact ⟨w8, good_of_word rfl⟩
    · exact ⟨w7, good_of_word rfl⟩
  · rcases List.mem_cons.mp hw with rfl | hw
    · exact ⟨w1, good_of_word rfl⟩
    · exact hg w hw
/-- a call out of the law -/
theorem ab_lcl_sim {z : Option Value × List Value × ab_H} {len b9 : Nat} (X : ab_Lx p l s m meth c b L xs N0 adS D cA) (hlv : ls.size = 7) (hW : ab_Wd D cA N0 adS h H) (hz : H.size = N0 + h.length) (hS : va_S (ab_A N0) s.heap H locs) (hk : ab_leok (pc, i, len, a, b9) = true) (hh : ab_lcl n d i a h st = some z) (hc1 : cells + z.2.2.length ≤ mc + h.length) (hc2 : slots + ab_sz z.2.2 ≤ ms + ab_sz h)
    (k : ab_kk p l e (ab_rm (d + 2) mc ms) s m #[Value.ref b] below meth c cells slots Q D cA N0 adS h z.2.2 (F0 m (pc + 3) ls ((z.1.toList ++ z.2.1).map (ab_rv N0 adS)))) : W p l e (ab_rm (d + 2) mc ms) s m #[Value.ref b] below meth c H locs cells slots Q (F0 m pc ls (st.map (ab_rv N0 adS))) := by
  obtain ⟨hx, hb, hr, hml, hown, hts, hX, hbl, hlocks, hl, hN, had, hK, hSW⟩ := X
  have hmono := ab_lcl_mono hh
  unfold ab_leok at hk
  simp only [Bool.and_eq_true, decide_eq_true_eq, Bool.or_eq_true, beq_iff_eq] at hk
  obtain ⟨⟨⟨hdec, hlen⟩, -⟩, hpool⟩ := hk
  have S : CallFix p m c code 7 s #[Value.ref b] lw_tbl "CodeSmithLaw" := ⟨hx, hb, hml, hown, hts⟩
  have ktoL : ∀ (v : Option Value) (r : List Value), ((v.map (ab_rv N0 adS)).toList ++ r.map (ab_rv N0 adS)) = (v.toList ++ r).map (ab_rv N0 adS) := by
    intro v r; cases v <;> simp
  cases i
  case invokestatic idx =>
    simp only [ab_len] at hlen
    have hd : decode code pc = .ok (.invokestatic idx, 3) := by rw [hdec]; rcases hlen with h9 | h9; (rw [h9]); (cases h9)
    simp only [beq_iff_eq] at hpool
    subst hpool
    simp only [ab_lcl, ab_lcs] at hh
    split at hh
    · rename_i o x r
      split at hh
      · rename_i ob hob
        split at hh
        · rename_i hc
          split at hh
          · rename_i q hq
            cases hh
            obtain ⟨v, h2⟩ := q
            have hm2 := ab_la_mono hq
            obtain ⟨mc2, hmc2⟩ : ∃ k, k + h.length = h2.length := ⟨h2.length - h.length, by omega⟩
            obtain ⟨ms2, hms2⟩ : ∃ k, k + ab_sz h = ab_sz h2 := ⟨ab_sz h2 - ab_sz h, by omega⟩
            have hmet := ab_la_met hl D cA N0 adS hq ⟨ob.2, by rw [hob]; rw [← hc.1]⟩ hmc2 hms2
            have hc1' : cells + h2.length ≤ mc + h.length := hc1
            have hc2' : slots + ab_sz h2 ≤ ms + ab_sz h := hc2
            refine ab_run_m (o2 := .inl (some (.int v))) (h2 := h2) (vx_runSW (As := [.ref (N0 + x), .ref (N0 + o)]) (rest := r.map (ab_rv N0 adS)) S hmet (vx_cwSW 2 hts ab_goodLa rfl rfl rfl (by decide +kernel) ⟨?_, ?_⟩) ⟨ab_P_blind _ _ _ _ _ _, ab_pre hK hW hz hS hSW [.ref x, .ref o]⟩ rfl rfl hlv rfl (by show 2 * 0 + _ ≤ 8; rw [ab_cat_rv]; omega) hd ⟨?_, ?_⟩) hS (fun w hw H1 locs1 q1 q2 => ?_)
            · show d + 1 + 10 + 1 ≤ d + 2 + 10
              omega
            · show 8 + (3 + 11) + (40 * (d + 1) + 200) ≤ 40 * (d + 2) + 200
              omega
            · show cells + mc2 ≤ mc
              omega
            · show slots + ms2 ≤ ms
              omega
            · cases hw
              rw [ktoL]
              exact k H1 locs1 (cells + mc2) (slots + ms2) q1 q2 (by show cells + mc2 + h.length = cells + h2.length; omega) (by show slots + ms2 + ab_sz h = slots + ab_sz h2; omega)
          · cases hh
        · cases hh
      · cases hh
    · cases hh
  case invokevirtual idx =>
    simp only [ab_len] at hlen
    have hd : decode code pc = .ok (.invokevirtual idx, 3) := by rw [hdec]; rcases hlen with h9 | h9; (rw [h9]); (cases h9)
    obtain ⟨y, hy, hq⟩ := List.any_eq_true.mp hpool
    have h1 := List.all_eq_true.mp ab_lv_all y hy
    simp only [Bool.and_eq_true, beq_iff_eq] at hq
    obtain ⟨e1, e2⟩ := hq
    unfold ab_lv_ok at h1
    simp only [ab_lcl, ab_lc2] at hh
    split at hh
    · cases hh
    · rename_i P2 hP2
      rw [e2, hP2] at h1
      simp only [Bool.and_eq_true, decide_eq_true_eq] at h1
      rw [e1] at h1
      obtain ⟨g1, g2, g3, g4, g5, g6⟩ := ab_hok_at (ab_prog_at hP2).1
      split at hh
      · cases hh
      · rename_i z2 hi
        split at hh
        · rename_i hlg
          split at hh
          · rename_i v h2 hg
            cases hh
            have hm2 := ab_go_mono _ _ _ _ _ _ _ _ _ hg
            obtain ⟨mc2, hmc2⟩ : ∃ k, k + h.length = h2.length := ⟨h2.length - h.length, by omega⟩
            obtain ⟨ms2, hms2⟩ : ∃ k, k + ab_sz h = ab_sz h2 := ⟨ab_sz h2 - ab_sz h, by omega⟩
            have hmet := ab_met_of (ab_frame l hl n) hl D cA N0 adS hP2 hg hlg hmc2 hms2
            have hM0 := ab_toMet (fun E s9 t hX9 => by cases hX9.1) hmet
            have hc1' : cells + h2.length ≤ mc + h.length := hc1
            have hc2' : slots + ab_sz h2 ≤ ms + ab_sz h := hc2
            have cw : CallW (ab_rm (d + 2) mc ms) s #[Value.ref b] "CodeSmithLaw" P2.1.2.1.cls idx P2.1.2.1 P2.1.2.2.1 P2.1.2.2.2.1 P2.1.2.2.2.2.1 (ab_wm P2.1) (ab_rm d mc2 ms2) mc2 ms2 P2.1.2.2.2.2.2.1 := by
              refine ⟨callB_of _ hts (ab_goodL hP2) rfl rfl rfl (hts _ (ab_T_tbl _ (ab_own_T g2))) (hts _ (List.mem_of_getElem? h1.1.1)) ⟨g5.1, g5.2, g4⟩ ⟨?_, ?_⟩, hts _ (List.mem_of_getElem? h1.1.2), hts _ (List.mem_of_getElem? h1.2)⟩
              · show d + 10 + 1 ≤ d + 2 + 10
                omega
              · show 8 + (P2.1.2.2.2.1 + 11) + (40 * d + 200) ≤ 40 * (d + 2) + 200
                omega
            simp only [ab_inv] at hi
            split at hi
            · rename_i j r hdr
              split at hi
              · rename_i ob hob
                split at hi
                · rename_i hc
                  cases hi
                  have he := ab_ws_at (cA := cA) (N0 := N0) (adS := adS) hob
                  obtain ⟨rr, hrr, -⟩ := hW j _ he
                  have hrc : ∃ cell : Cell, H[N0 + j]? = some cell ∧ cell.vm.isStatics = false ∧ s.vm.findClass P2.1.2.1.cls = some cell.cls := by
                    have h9 := va_recv hK hW hrr he
                    have h8 : rr.1 = P2.1.2.1.cls := by rw [← hc.1]; unfold ab_cn; rw [hrr]
                    rw [h8] at h9
                    exact h9
                  refine ab_run_m (va_runV (As := (st.take P2.1.2.2.2.2.2.1).reverse.map (ab_rv N0 adS)) (b := N0 + j) (rest := r.map (ab_rv N0 adS)) S hM0 cw ⟨ab_P_blind _ _ _ _ _ _, hrc, ab_pre hK hW hz hS hSW (.ref j :: (st.take P2.1.2.2.2.2.2.1).reverse)⟩ rfl (by rw [List.length_map, List.length_reverse]; exact hc.2.1) hlv (ab_split N0 adS hdr) (by show 2 * 0 + _ ≤ 8; rw [ab_cat_rv]; omega) hd ⟨by show cells + mc2 ≤ mc; omega, by show slots + ms2 ≤ ms; omega⟩) hS (fun w hw H1 locs1 q1 q2 => ?_)
                  cases hw
                  rw [ktoL]
                  exact k H1 locs1 (cells + mc2) (slots + ms2) q1 q2 (by show cells + mc2 + h.length = cells + h2.length; omega) (by show slots + ms2 + ab_sz h = slots + ab_sz h2; omega)
                · cases hi
              · cases hi
            · rename_i k9 r hdr
              split at hi
              · rename_i hc
                cases hi
                have hrc : ∃ cell : Cell, H[adS k9]? = some cell ∧ cell.vm.isStatics = false ∧ s.vm.findClass P2.1.2.1.cls = some cell.cls := by
                  obtain ⟨cell, q1, q2, q3, q4⟩ := (hSW.1 k9 hc.2.1).1
                  refine ⟨cell, ?_, q2, by rw [← hc.1]; exact q3⟩
                  rw [hS.2.1 (adS k9) (Array.getElem?_eq_some_iff.mp q1).1 q4]
                  exact q1
                refine ab_run_m (va_runV (As := (st.take P2.1.2.2.2.2.2.1).reverse.map (ab_rv N0 adS)) (b := adS k9) (rest := r.map (ab_rv N0 adS)) S hM0 cw ⟨ab_P_blind _ _ _ _ _ _, hrc, ab_pre hK hW hz hS hSW (.retAddr k9 :: (st.take P2.1.2.2.2.2.2.1).reverse)⟩ rfl (by rw [List.length_map, List.length_reverse]; exact hc.2.2.1) hlv (ab_split N0 adS hdr) (by show 2 * 0 + _ ≤ 8; rw [ab_cat_rv]; omega) hd ⟨by show cells + mc2 ≤ mc; omega, by show slots + ms2 ≤ ms; omega⟩) hS (fun w hw H1 locs1 q1 q2 => ?_)
                cases hw
                rw [ktoL]
                exact k H1 locs1 (cells + mc2) (slots + ms2) q1 q2 (by show cells + mc2 + h.length = cells + h2.length; omega) (by show slots + ms2 + ab_sz h = slots + ab_sz h2; omega)
              · cases hi
            · cases hi
          · cases hh
        · cases hh
  case invokespecial idx =>
    simp only [ab_len] at hlen
    have hd : decode code pc = .ok (.invokespecial idx, 3) := by rw [hdec]; rcases hlen with h9 | h9; (rw [h9]); (cases h9)
    obtain ⟨y, hy, hq⟩ := List.any_eq_true.mp hpool
    have h1 := List.all_eq_true.mp ab_li_all y hy
    simp only [Bool.and_eq_true, beq_iff_eq] at hq
    obtain ⟨e1, e2⟩ := hq
    unfold ab_li_ok at h1
    simp only [ab_lcl, ab_lc2] at hh
    split at hh
    · cases hh
    · rename_i P2 hP2
      rw [e2, hP2] at h1
      simp only [Bool.and_eq_true, decide_eq_true_eq] at h1
      rw [e1] at h1
      obtain ⟨⟨⟨q1, q2⟩, q3⟩, q4⟩ := h1
      obtain ⟨g1, g2, g3, g4, g5, g6⟩ := ab_hok_at (ab_prog_at hP2).1
      split at hh
      · cases hh
      · rename_i z2 hi
        split at hh
        · rename_i hlg
          split at hh
          · rename_i v h2 hg
            cases hh
            have hm2 := ab_go_mono _ _ _ _ _ _ _ _ _ hg
            obtain ⟨mc2, hmc2⟩ : ∃ k, k + h.length = h2.length := ⟨h2.length - h.length, by omega⟩
            obtain ⟨ms2, hms2⟩ : ∃ k, k + ab_sz h = ab_sz h2 := ⟨ab_sz h2 - ab_sz h, by omega⟩
            have hmet := ab_met_of (ab_frame l hl n) hl D cA N0 adS hP2 hg hlg hmc2 hms2
            have hM0 := ab_toMet (fun E s9 t hX9 => by cases hX9.1) hmet
            have hc1' : cells + h2.length ≤ mc + h.length := hc1
            have hc2' : slots + ab_sz h2 ≤ ms + ab_sz h := hc2
            have hwe : ab_wm P2.1 = Cond.code P2.1.2.1 P2.1.2.2.1 P2.1.2.2.2.1 none :: ab_T := by unfold ab_wm; rw [q4]
            simp only [ab_inv] at hi
            split at hi
            · rename_i j r hdr
              split at hi
              · rename_i hc
                cases hi
                refine ab_run_m (va_runI (bytes := P2.1.2.2.1) (maxL := P2.1.2.2.2.1) (As := (st.take P2.1.2.2.2.2.2.1).reverse.map (ab_rv N0 adS)) (b := N0 + j) (rest := r.map (ab_rv N0 adS)) S hM0 ⟨callB_of _ hts (ab_goodL hP2) hwe rfl rfl (hts _ (ab_T_tbl _ (ab_own_T g2))) (hts _ (List.mem_of_getElem? q1)) ⟨g5.1, g5.2, g4⟩ ⟨by show d + 10 + 1 ≤ d + 2 + 10; omega, by show 8 + (P2.1.2.2.2.1 + 11) + (40 * d + 200) ≤ 40 * (d + 2) + 200; omega⟩, q3, hts _ (List.mem_of_getElem? q2)⟩ ⟨ab_P_blind _ _ _ _ _ _, ab_pre hK hW hz hS hSW (.ref j :: (st.take P2.1.2.2.2.2.2.1).reverse)⟩ rfl (by rw [List.length_map, List.length_reverse]; exact hc.1) hlv (ab_split N0 adS hdr) (by show 2 * 0 + _ ≤ 8; rw [ab_cat_rv]; omega) hd ⟨by show cells + mc2 ≤ mc; omega, by show slots + ms2 ≤ ms; omega⟩) hS (fun w hw H1 locs1 q1 q2 => ?_)
                cases hw
                rw [ktoL]
                exact k H1 locs1 (cells + mc2) (slots + ms2) q1 q2 (by show cells + mc2 + h.length = cells + h2.length; omega) (by show slots + ms2 + ab_sz h = slots + ab_sz h2; omega)
              · cases hi
            · cases hi
          · cases hh
        · cases hh
  all_goals (simp only [ab_lcl, reduceCtorEq] at hh)
theorem ab_lx_sim (X : ab_Lx p l s m meth c b L xs N0 adS D cA) (hW : ab_Wd D cA N0 adS h H) (hS : va_S (ab_A N0) s.heap H locs) (hdl : ab_len i ≠ 0 → decode code pc = .ok (i, ab_len i)) (h1 : ab_lx xs L i h st = some st')
    (k : W p l e R s m #[Value.ref b] below meth c H locs cells slots Q (F0 m (pc + ab_len i) ls (st'.map (ab_rv N0 adS)))) : W p l e R s m #[Value.ref b] below meth c H locs cells slots Q (F0 m pc ls (st.map (ab_rv N0 adS))) := by
  obtain ⟨hx, hb, hr, hml, hown, hts, hX, hbl, hlocks, hl, hN, had, hK, hSW⟩ := X
  have hbA : ¬ ab_A N0 b := by show ¬ N0 ≤ b; omega
  cases i <;> simp only [ab_lx, reduceCtorEq] at h1
  case arraylength =>
    have hd := hdl (by simp [ab_len])
    split at h1
    · split at h1
      · rename_i k6 r hk6
        cases h1
        subst hk6
        rw [show List.map (ab_rv N0 adS) (Value.retAddr 600 :: r) = Value.ref b :: r.map (ab_rv N0 adS) by simp [ab_rv, had]]
        exact va_slen (A := ab_A N0) hx hb hX hbl hbA hS hd k
      · cases h1
    · cases h1
  case iaload =>
    have hd := hdl (by simp [ab_len])
    split at h1
    · split at h1
      · rename_i j k6 r hk6
        cases h1
        obtain ⟨hk6, hj⟩ := hk6
        subst hk6
        rw [show List.map (ab_rv N0 adS) (Value.int j :: Value.retAddr 600 :: r) = Value.int j :: Value.ref b :: r.map (ab_rv N0 adS) by simp [ab_rv, had]]
        exact va_sld (A := ab_A N0) hx hb hX hbl hbA hS hj hd k
      · cases h1
    · cases h1
  case laload =>
    exact ab_lald_sim hx hb hK hW (hdl (by simp [ab_len])) h1 k
theorem ab_lnw_sim {q : List Value × ab_H} {len b9 : Nat} (X : ab_Lx p l s m meth c b L xs N0 adS D cA) (hW : ab_Wd D cA N0 adS h H) (hS : va_S (ab_A N0) s.heap H locs) (hk : ab_leok (pc, i, len, a, b9) = true) (hc : cells = h.length) (hR1 : cells + q.2.length ≤ R.cells + h.length) (hR2 : slots + ab_sz q.2 ≤ R.slots + ab_sz h) (h1 : ab_lnw i a h st = some q)
    (k : ab_kk p l e R s m #[Value.ref b] below meth c cells slots Q D cA N0 adS h q.2 (F0 m (pc + ab_len i) ls (q.1.map (ab_rv N0 adS)))) : W p l e R s m #[Value.ref b] below meth c H locs cells slots Q (F0 m pc ls (st.map (ab_rv N0 adS))) := by
  obtain ⟨hx, hb, hr, hml, hown, hts, hX, hbl, hlocks, hl, hN, had, hK, hSW⟩ := X
  unfold ab_leok at hk
  simp only [Bool.and_eq_true, decide_eq_true_eq, Bool.or_eq_true, beq_iff_eq] at hk
  obtain ⟨⟨⟨hdec, hlen⟩, htok⟩, hpool⟩ := hk
  have hs : s.heap.size = N0 + 0 := by omega
  cases i <;> simp only [ab_lnw, reduceCtorEq] at h1
  case new idx =>
    simp only [ab_len] at hlen
    have hd : decode code pc = .ok (.new idx, 3) := by rw [hdec]; rcases hlen with h9 | h9; (rw [h9]); (cases h9)
    have hp : ∃ C : vw_C, ab_cl[a]? = some C ∧ Cond.classLink "CodeSmithLaw" idx C.1 ∈ lw_tbl := by
      obtain ⟨y, hy, hq⟩ := List.any_eq_true.mp hpool
      simp only [Bool.and_eq_true, beq_iff_eq] at hq
      simp only [ab_ln9, List.mem_cons, List.not_mem_nil, or_false] at hy
      rcases hy with rfl | rfl
      · obtain ⟨q1, q2⟩ := hq
        subst q1; subst q2
        exact ⟨_, rfl, ab_ln9_w.1⟩
      · obtain ⟨q1, q2⟩ := hq
        subst q1; subst q2
        exact ⟨_, rfl, ab_ln9_w.2⟩
    exact ab_nw_sim2 (Ts := lw_tbl) (n0 := 0) hx hb hown hts ab_T_tbl hK hW hS hs (by omega) hR1 hR2 hp hd h1 k
  case newarray ty =>
    simp only [ab_len] at hlen
    have hd : decode code pc = .ok (.newarray ty, 2) := by rw [hdec]; rcases hlen with h9 | h9; (rw [h9]); (cases h9)
    exact ab_nwa_sim (Ts := lw_tbl) (n0 := 0) hx hb hts ab_T_tbl hK hW hS hs (by omega) hR1 hR2 hd h1 k
end AB12
