section AB10
variable {p : Program} {l : Launch} {e : Env} {R : Room} {s : State} {m : MethodId} {args : Array Value} {below : List Frame} {meth : Method} {c : Code} {H : Heap} {locs : List Loc} {cells slots : Nat} {Q : State → Prop} {pc : Nat} {ls : Array Slot} {N0 : Nat} {adS : Nat → Nat} {D : va_G} {cA : Nat → ClassId} {h h' : ab_H} {M : ab_M} {st st' : List Value} {a b len n0 : Nat} {i : Instr} {lv : ab_L}
theorem ab_pS_use {o idx a : Nat} {own : String} (ho : ab_own[o]? = some own) (h : ab_pS.any (fun z => z.1 == o && z.2.1 == idx && z.2.2.1 == a) = true) : ∃ z, ab_pS_ok z = true ∧ z.1 = o ∧ z.2.1 = idx ∧ z.2.2.1 = a := by
  obtain ⟨z, hz, hq⟩ := List.any_eq_true.mp h
  simp only [Bool.and_eq_true, beq_iff_eq] at hq
  exact ⟨z, List.all_eq_true.mp ab_pS_all z hz, hq.1.1, hq.1.2, hq.2⟩
theorem ab_pI_use {o idx a : Nat} {own : String} (ho : ab_own[o]? = some own) (h : ab_pI.any (fun z => z.1 == o && z.2.1 == idx && z.2.2.1 == a) = true) : ∃ z, ab_pI_ok z = true ∧ z.1 = o ∧ z.2.1 = idx ∧ z.2.2.1 = a := by
  obtain ⟨z, hz, hq⟩ := List.any_eq_true.mp h
  simp only [Bool.and_eq_true, beq_iff_eq] at hq
  exact ⟨z, List.all_eq_true.mp ab_pI_all z hz, hq.1.1, hq.1.2, hq.2⟩
theorem ab_T_w {w : Cond} (h : w ∈ lw_tbl) (g : goodWord w = true) {M : ab_M} : w ∈ ab_wm M := List.mem_cons_of_mem _ (List.mem_filter.mpr ⟨h, g⟩)
/-- the natives -/
theorem ab_nat_sim (X : ab_Cx p l s m args meth c M) (hM : ab_hok M = true) (hK : va_K D ab_cl (ab_tys cA) s) (hW : ab_Wd D cA N0 adS h H) (hS : va_S (ab_A N0) s.heap H locs) (hls : ls.size = M.2.2.2.1) (hf : 10 ≤ R.frames) (hlo : 200 ≤ R.locals) (hc1 : cells ≤ R.cells) (hc2 : slots ≤ R.slots)
    (hk : ab_eok M.1 M.2.2.1 (pc, i, len, a, b) = true) (hh : ab_nat i a h st = some (st', h')) (k : ab_kk p l e R s m args below meth c cells slots Q D cA N0 adS h h' (F0 m (pc + 3) ls (st'.map (ab_rv N0 adS)))) : W p l e R s m args below meth c H locs cells slots Q (F0 m pc ls (st.map (ab_rv N0 adS))) := by
  obtain ⟨hx, hb, hml, hown, hts, hr, hlocks, hex, hnm, hl⟩ := X
  obtain ⟨-, ho, -, -, -, -⟩ := ab_hok_at hM
  obtain ⟨n1, n2, n3, n4, n5, n6, n7, n8, n9, n10⟩ := ab_natw
  cases i
  case invokestatic idx =>
    have hd := ab_eok_len hk (by simp [ab_len])
    unfold ab_eok at hk
    rw [Bool.and_eq_true] at hk
    obtain ⟨z, hz, e1, e2, e3⟩ := ab_pS_use ho hk.2
    unfold ab_pS_ok at hz
    rw [e1, ho, e2, e3] at hz
    simp only [ab_nat] at hh
    split at hh
    · rename_i ha
      subst ha
      simp only [Nat.reduceEqDiff, if_false, if_true, decide_eq_true_eq] at hz
      unfold ab_mm at hh
      split at hh
      · rename_i y x r
        split at hh
        · rename_i hr8
          cases hh
          refine va_mmin hx hb (by rw [hml, hls]) hown (hts _ (List.mem_cons_of_mem _ (ab_T_in hz rfl))) (hts _ (ab_T_w n4 rfl)) (hts _ (ab_T_w n6 rfl)) (hts _ (ab_T_w n7 rfl)) (by omega) (by rw [ab_cat_rv]; omega) hc1 hc2 hd ?_
          exact k H locs cells slots hW hS rfl rfl
        · cases hh
      · cases hh
    · split at hh
      · rename_i ha
        subst ha
        simp only [Nat.reduceEqDiff, if_false, if_true, decide_eq_true_eq] at hz
        unfold ab_mm at hh
        split at hh
        · rename_i y x r
          split at hh
          · rename_i hr8
            cases hh
            refine va_mmax hx hb (by rw [hml, hls]) hown (hts _ (List.mem_cons_of_mem _ (ab_T_in hz rfl))) (hts _ (ab_T_w n5 rfl)) (hts _ (ab_T_w n6 rfl)) (hts _ (ab_T_w n8 rfl)) (by omega) (by rw [ab_cat_rv]; omega) hc1 hc2 hd ?_
            exact k H locs cells slots hW hS rfl rfl
          · cases hh
        · cases hh
      · split at hh
        · rename_i ha
          subst ha
          simp only [if_true, decide_eq_true_eq] at hz
          unfold ab_cpy at hh
          split at hh
          · rename_i nn dp j1 sp j0 r
            split at hh
            · rename_i t0 n0 f t1 n1' g hj0 hj1
              have go : ∀ (t : Nat) (ty : FieldType), t0 = t → t1 = t → (ab_tys cA)[t]? = some (cA t, ty) → refKind ty = false → ¬ sp < 0 → ¬ dp < 0 → ¬ nn < 0 → sp.toNatClampNeg + nn.toNatClampNeg ≤ n0 → dp.toNatClampNeg + nn.toNatClampNeg ≤ n1' → ab_cat r ≤ 8 → (∀ i, i < nn.toNatClampNeg → fits ty (.int (f (sp.toNatClampNeg + i))) = true) → st' = r → h' = h.set j1 (.inl (t1, n1', .inl (va_cpy f g sp.toNatClampNeg dp.toNatClampNeg nn.toNatClampNeg))) → W p l e R s m args below meth c H locs cells slots Q (F0 m pc ls (.int nn :: .int dp :: .ref (N0 + j1) :: .int sp :: .ref (N0 + j0) :: r.map (ab_rv N0 adS))) := by
                intro t ty q1 q2 q3 q4 q5 q6 q7 q8 q9 q10 q11 q12 q13
                subst q1; subst q12; subst q13
                refine va_copyi hx hb (by rw [hml, hls]) hown (hts _ (List.mem_cons_of_mem _ (ab_T_in hz rfl))) (hts _ (ab_T_w n1 rfl)) (hts _ (ab_T_w n2 rfl)) (hts _ (ab_T_w n3 rfl)) hK hW (ab_ws_D cA N0 adS h) hS j0 j1 t0 t0 (ab_ws_at (cA := cA) (N0 := N0) (adS := adS) hj0) (by rw [← q2]; exact ab_ws_at (cA := cA) (N0 := N0) (adS := adS) hj1) q3 q3 q4 q5 q6 q7 q8 q9 q11 (by omega) (by rw [ab_cat_rv]; simp [nativeFrameWords]; omega) hd (fun H1 locs1 g1 _ g3 => ?_)
                have e9 := ab_ws_set cA N0 adS h j1 (.inl (t1, n1', .inl (va_cpy f g sp.toNatClampNeg dp.toNatClampNeg nn.toNatClampNeg)))
                exact k H1 locs1 cells slots (by unfold ab_Wd; rw [← e9]; simp only [ab_E]; rw [q2]; exact g1) g3 (by rw [List.length_set]) (by rw [ab_sz_set (y := .inl (t1, n1', .inl (va_cpy f g sp.toNatClampNeg dp.toNatClampNeg nn.toNatClampNeg))) hj1 rfl])
              split at hh
              · rename_i hc
                cases hh
                exact go 1 .int hc.1 hc.2.1 rfl rfl hc.2.2.1 hc.2.2.2.1 hc.2.2.2.2.1 hc.2.2.2.2.2.1 hc.2.2.2.2.2.2.1 hc.2.2.2.2.2.2.2 (fun _ _ => rfl) rfl rfl
              · split at hh
                · rename_i hc
                  cases hh
                  exact go 0 .byte hc.1 hc.2.1 rfl rfl hc.2.2.1 hc.2.2.2.1 hc.2.2.2.2.1 hc.2.2.2.2.2.1 hc.2.2.2.2.2.2.1 hc.2.2.2.2.2.2.2.1 hc.2.2.2.2.2.2.2.2 rfl rfl
                · cases hh
            · cases hh
          · cases hh
        · cases hh
  case invokespecial idx =>
    have hd := ab_eok_len hk (by simp [ab_len])
    unfold ab_eok at hk
    rw [Bool.and_eq_true] at hk
    obtain ⟨z, hz, e1, e2, e3⟩ := ab_pI_use ho hk.2
    unfold ab_pI_ok at hz
    rw [e1, ho, e2, e3] at hz
    simp only [ab_nat] at hh
    split at hh
    · rename_i ha
      subst ha
      simp only [if_true, decide_eq_true_eq] at hz
      unfold ab_obj at hh
      split at hh
      · rename_i j r
        split at hh
        · rename_i hr8
          cases hh
          refine W.objInit hx hb hown (hts _ (List.mem_cons_of_mem _ (ab_T_in hz rfl))) (hts _ (ab_T_w n9 rfl)) (hts _ (ab_T_w n10 rfl)) rfl (by rw [hml]; exact hls) rfl hd (by omega) (by
            show 2 * 0 + _ + 12 ≤ _
            rw [ab_cat_rv]; omega) ?_
          exact k H locs cells slots hW hS rfl rfl
        · cases hh
      · cases hh
    · cases hh
  all_goals (simp only [ab_nat, reduceCtorEq] at hh)
/-- any step that stays in the method -/
theorem ab_nx_sim {z : Nat × ab_L × List Value × ab_H} (X : ab_Cx p l s m args meth c M) (hM : ab_hok M = true) (hl9 : lv_has ls M.2.2.2.1 (ab_rl N0 adS lv)) (hK : va_K D ab_cl (ab_tys cA) s) (hW : ab_Wd D cA N0 adS h H) (hS : va_S (ab_A N0) s.heap H locs) (hSW : ab_SW N0 adS s s.heap) (hf : 10 ≤ R.frames) (hlo : 200 ≤ R.locals)
    (hs : s.heap.size = N0 + n0) (hc : cells + n0 = h.length) (hc1 : cells ≤ R.cells) (hc2 : slots ≤ R.slots) (hR1 : cells + z.2.2.2.length ≤ R.cells + h.length) (hR2 : slots + ab_sz z.2.2.2 ≤ R.slots + ab_sz h) (hk : ab_eok M.1 M.2.2.1 (pc, i, len, a, b) = true) (hh : ab_nx M i a b pc lv st h = some z)
    (k : ∀ (ls' : Array Slot), lv_has ls' M.2.2.2.1 (ab_rl N0 adS z.2.1) → ab_kk p l e R s m args below meth c cells slots Q D cA N0 adS h z.2.2.2 (F0 m z.1 ls' (z.2.2.1.map (ab_rv N0 adS)))) : W p l e R s m args below meth c H locs cells slots Q (F0 m pc ls (st.map (ab_rv N0 adS))) := by
  obtain ⟨hx, hb, hml, hown, hts, hr, hlocks, hex, hnm, hl⟩ := id X
  obtain ⟨-, ho, -, -, -, -⟩ := ab_hok_at hM
  have hT : ∀ w ∈ ab_T, w ∈ ab_wm M := fun w hw => List.mem_cons_of_mem _ hw
  have hdl := (ab_eok_dec hk)
  unfold ab_nx at hh
  split at hh
  · rename_i s1 h1
    cases hh
    have hn : ab_len i ≠ 0 := by intro h0; cases i <;> simp [ab_len] at h0 <;> simp [ab_op] at h1
    exact ab_op_sim hx hb (ab_eok_len hk hn) h1 (k ls hl9 H locs cells slots hW hS rfl rfl)
  · split at hh
    · rename_i v h1
      cases hh
      have hn : ab_len i ≠ 0 := by intro h0; cases i <;> simp [ab_len] at h0 <;> simp [ab_ld] at h1
      exact ab_ld_sim hx hb (ab_eok_len hk hn) hl9 h1 (k ls hl9 H locs cells slots hW hS rfl rfl)
    · split at hh
      · rename_i q h1
        cases hh
        have hn : ab_len i ≠ 0 := by intro h0; cases i <;> simp [ab_len] at h0 <;> simp [ab_sto] at h1
        exact ab_sto_sim hx hb (ab_eok_len hk hn) hl9 h1 (fun ls' hl' => k ls' hl' H locs cells slots hW hS rfl rfl)
      · split at hh
        · rename_i q h1
          cases hh
          exact ab_br_sim hx hb hdl.1 hdl.2.1 hdl.2.2 h1 (k ls hl9 H locs cells slots hW hS rfl rfl)
        · split at hh
          · rename_i q h1
            cases hh
            have hn : ab_len i ≠ 0 := by intro h0; cases i <;> simp [ab_len] at h0 <;> simp [ab_hp] at h1
            have hd := ab_eok_len hk hn
            have kk := k ls hl9
            cases i
            case getfield idx =>
              simp only [ab_hp] at h1
              cases hq : ab_fget a b h st with
              | none => rw [hq] at h1; cases h1
              | some s1 =>
                rw [hq] at h1
                cases h1
                refine ab_get_sim (Ts := ab_wm M) hx hb hown hts hT hK hW ho (fun ha => ?_) hd hq (kk H locs cells slots hW hS rfl rfl)
                unfold ab_eok at hk
                simp only [Bool.and_eq_true, Bool.or_eq_true, beq_iff_eq] at hk
                rcases hk.2 with h8 | h8
                · exact h8
                · omega
            case putfield idx =>
              unfold ab_eok at hk
              rw [Bool.and_eq_true] at hk
              exact ab_put_sim (Ts := ab_wm M) hx hb hown hts hT hK hW hS ho (fun h8 => by rw [hnm]; simpa using h8) hk.2 hd h1 kk
            case arraylength =>
              simp only [ab_hp] at h1
              cases hq : ab_alen h st with
              | none => rw [hq] at h1; cases h1
              | some s1 => rw [hq] at h1; cases h1; exact ab_alen_sim hx hb hK hW hd hq (kk H locs cells slots hW hS rfl rfl)
            case iaload =>
              simp only [ab_hp] at h1
              cases hq : ab_ald 1 h st with
              | none => rw [hq] at h1; cases h1
              | some s1 => rw [hq] at h1; cases h1; exact ab_ald_sim (Or.inr ⟨rfl, rfl⟩) hx hb hK hW hd hq (kk H locs cells slots hW hS rfl rfl)
            case baload =>
              simp only [ab_hp] at h1
              cases hq : ab_ald 0 h st with
              | none => rw [hq] at h1; cases h1
              | some s1 => rw [hq] at h1; cases h1; exact ab_ald_sim (Or.inl ⟨rfl, rfl⟩) hx hb hK hW hd hq (kk H locs cells slots hW hS rfl rfl)
            case laload =>
              simp only [ab_hp] at h1
              cases hq : ab_lald h st with
              | none => rw [hq] at h1; cases h1
              | some s1 => rw [hq] at h1; cases h1; exact ab_lald_sim hx hb hK hW hd hq (kk H locs cells slots hW hS rfl rfl)
            case iastore => exact ab_ast_sim (Or.inr ⟨rfl, rfl⟩) hx hb hK hW hS hd h1 kk
            case bastore => exact ab_ast_sim (Or.inl ⟨rfl, rfl⟩) hx hb hK hW hS hd h1 kk
            case lastore => exact ab_last_sim hx hb hK hW hS hd h1 kk
            case new idx =>
              unfold ab_eok at hk
              rw [Bool.and_eq_true] at hk
              exact ab_nw_sim (Ts := ab_wm M) hx hb hown hts hT hK hW hS ho hs hc hR1 hR2 hk.2 hd h1 kk
            case newarray ty => exact ab_nwa_sim (Ts := ab_wm M) hx hb hts hT hK hW hS hs hc hR1 hR2 hd h1 kk
            all_goals (simp only [ab_hp, reduceCtorEq] at h1)
          · split at hh
            · rename_i s1 h1
              cases hh
              exact ab_con_sim (Ts := ab_wm M) hx hb hown hts hT hSW hS ho hk h1 (k ls hl9 H locs cells slots hW hS rfl rfl)
            · split at hh
              · rename_i q h1
                cases hh
                exact ab_acmp_sim hx hb hSW hk h1 (k ls hl9 H locs cells slots hW hS rfl rfl)
              · split at hh
                · rename_i q h1
                  cases hh
                  exact ab_nat_sim X hM hK hW hS hl9.1 hf hlo hc1 hc2 hk h1 (k ls hl9)
                · cases hh
end AB10
