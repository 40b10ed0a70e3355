section AB8
variable {p : Program} {l : Launch} {e : Env} {R : Room} {s : State} {m : MethodId} {args : Array Value} {below : List Frame} {meth : Method} {c : Code} {H : Heap} {locs : List Loc} {cells slots : Nat} {Q : State → Prop} {cc : ByteArray} {pc : Nat} {ls : Array Slot} {N0 : Nat} {adS : Nat → Nat} {own : String} {Ts : List Cond} {st st' : List Value} {o a b len : Nat} {i : Instr}
/-- an instruction's row, taken apart -/
theorem ab_eok_dec (h : ab_eok o cc (pc, i, len, a, b) = true) : decode cc pc = .ok (i, len) ∧ (len = ab_len i ∨ ab_len i = 0) ∧ ab_tok i pc a = true := by
  unfold ab_eok at h
  simp only [Bool.and_eq_true, decide_eq_true_eq, Bool.or_eq_true, beq_iff_eq] at h
  exact ⟨h.1.1.1, h.1.1.2, h.1.2⟩
theorem ab_eok_len (h : ab_eok o cc (pc, i, len, a, b) = true) (hn : ab_len i ≠ 0) : decode cc pc = .ok (i, ab_len i) := by
  obtain ⟨h1, h2, -⟩ := ab_eok_dec h
  rcases h2 with h2 | h2
  · rw [← h2]; exact h1
  · exact absurd h2 hn
theorem ab_con_sim (hx : p.tables.exec = Jvm.exec) (hb : c.code = cc) (hown : s.vm.findClass own = some m.cls) (hts : ∀ w ∈ Ts, w.before args s = true) (hT : ∀ w ∈ ab_T, w ∈ Ts) (hSW : ab_SW N0 adS s s.heap) (hS : va_S (ab_A N0) s.heap H locs) (ho : ab_own[o]? = some own)
    (hk : ab_eok o cc (pc, i, len, a, b) = true) (h : ab_con i a b st = some st') (k : W p l e R s m args below meth c H locs cells slots Q (F0 m (pc + ab_len i) ls (st'.map (ab_rv N0 adS)))) : W p l e R s m args below meth c H locs cells slots Q (F0 m pc ls (st.map (ab_rv N0 adS))) := by
  obtain ⟨w1, w2, w3, w4, w5, w6, w7, w8, w9, w10, w11, w12⟩ := hSW
  cases i
  case ldc idx =>
    have hd := ab_eok_len hk (by simp [ab_len])
    unfold ab_eok at hk
    simp only [Bool.and_eq_true, Bool.or_eq_true, beq_iff_eq] at hk
    rcases hk.2 with ⟨h1, h2⟩ | ⟨h1, h2⟩
    · simp only [ab_con] at h
      rw [if_pos h1] at h
      cases h
      exact lv_ldc hx hb hown (hts _ (hT _ (List.mem_filter.mpr ⟨ab_pK_use ho h2, ab_goodc _ _ _⟩))) hd k
    · simp only [ab_con] at h
      rw [if_neg (by omega)] at h
      cases h
      obtain ⟨tx, htx⟩ := ab_pT_use ho h2
      exact va_ldcS hx hb hown (w7 _ htx) hd k
  case ldc_w idx =>
    have hd := ab_eok_len hk (by simp [ab_len])
    unfold ab_eok at hk
    simp only [Bool.and_eq_true, Bool.or_eq_true, beq_iff_eq] at hk
    simp only [ab_con] at h
    rw [if_pos hk.2.1] at h
    cases h
    exact lv_ldcw hx hb hown (hts _ (hT _ (List.mem_filter.mpr ⟨ab_pK_use ho hk.2.2, ab_goodc _ _ _⟩))) hd k
  case ldc2_w idx =>
    have hd := ab_eok_len hk (by simp [ab_len])
    unfold ab_eok at hk
    rw [Bool.and_eq_true] at hk
    cases h
    exact lv_ldc2 hx hb hown (hts _ (hT _ (List.mem_filter.mpr ⟨ab_pL_use ho hk.2, ab_goodl _ _ _⟩))) hd k
  case getstatic idx =>
    have hd := ab_eok_len hk (by simp [ab_len])
    unfold ab_eok at hk
    rw [Bool.and_eq_true] at hk
    obtain ⟨z, hz, hq⟩ := List.any_eq_true.mp hk.2
    have h1 := List.all_eq_true.mp ab_pG_all z hz
    simp only [Bool.and_eq_true, beq_iff_eq] at hq
    obtain ⟨⟨⟨⟨e1, e2⟩, e3⟩, e4⟩, e5⟩ := hq
    unfold ab_pG_ok at h1
    rw [e1, ho] at h1
    simp only [Bool.and_eq_true, Bool.or_eq_true, beq_iff_eq, e2, e3] at h1
    rcases h1 with ((⟨g1, g2⟩ | ⟨⟨g1, g2⟩, g3⟩) | ⟨⟨⟨g1, g2⟩, g3⟩, g4⟩) | ⟨g1, g2⟩
    · have hb1 : b ≠ 1 := by
        intro hb1
        rw [g1, hb1] at e4
        exact absurd e4 (by decide)
      have hb2 : b ≠ 2 := by
        intro hb2
        rw [g1, hb2] at e5
        exact absurd e5 (by decide)
      simp only [ab_con] at h
      rw [if_neg hb1, if_neg hb2] at h
      cases h
      obtain ⟨y, hy, hy2⟩ := List.any_eq_true.mp g2
      simp only [Bool.and_eq_true, beq_iff_eq, decide_eq_true_eq] at hy2
      rw [← hy2.1] at k
      exact va_gets hx hb (w4 y hy) hS hown (hts _ (hT _ (ab_T_in hy2.2 rfl))) (fun _ q => q) hd k
    · have hb1 : b = 1 := by
        rw [g1] at e4
        simpa using e4
      subst g2
      simp only [ab_con] at h
      rw [if_pos hb1] at h
      cases h
      exact va_gets hx hb w6.1 hS hown (hts _ (hT _ (ab_T_in (of_decide_eq_true g3) rfl))) (fun _ q => q) hd k
    · have hb1 : b ≠ 1 := by
        intro hb1
        rw [g1, hb1] at e4
        exact absurd e4 (by decide)
      have hb2 : b ≠ 2 := by
        intro hb2
        rw [g1, hb2] at e5
        exact absurd e5 (by decide)
      subst g2; subst g3; subst g4
      simp only [ab_con] at h
      rw [if_neg hb1, if_neg hb2] at h
      cases h
      exact va_getsN hx hb w5 hS hown (va_Nw.use rfl w11) (fun _ q => q) hd k
    · have hb2 : b = 2 := by
        rw [g1] at e5
        simpa using e5
      simp only [ab_con] at h
      rw [if_neg (by omega), if_pos hb2] at h
      cases h
      exact va_gets hx hb w6.2 hS hown (hts _ (hT _ (ab_T_in (of_decide_eq_true g2) rfl))) (fun _ q => q) hd k
  case getfield idx =>
    have hd := ab_eok_len hk (by simp [ab_len])
    simp only [ab_con] at h
    split at h
    · rename_i ha
      unfold ab_eok at hk
      simp only [Bool.and_eq_true, Bool.or_eq_true, beq_iff_eq] at hk
      have hp : ab_pF2.any (fun z => z.1 == o && z.2.1 == idx && z.2.2.1 == b) = true := by
        rcases hk.2 with h1 | h1
        · obtain ⟨C, hC, -, -⟩ := ab_pf_use ho h1
          rw [ha] at hC
          simp at hC
        · exact h1.2
      obtain ⟨f, hf, hlk⟩ := ab_pF2_use ho hp
      unfold ab_sfget at h
      split at h
      · rename_i q r
        split at h
        · rename_i v hv
          cases h
          exact vk_getf hx hb (w2 b q v hv f hf) hS hown (hts _ (hT _ hlk)) (fun _ q => q) hd k
        · cases h
      · cases h
    · cases h
  case arraylength =>
    have hd := ab_eok_len hk (by simp [ab_len])
    simp only [ab_con, ab_slen] at h
    split at h
    · rename_i q r
      split at h
      · rename_i h5
        cases h
        subst h5
        exact va_tlen hx hb w3 hS rfl hd k
      · split at h
        · rename_i h2
          split at h
          · rename_i t ht
            cases h
            have h3 : q - 200 < 106 := (List.getElem?_eq_some_iff.mp ht).1
            have h4 := (w1 (q - 200) h3).2
            rw [show 200 + (q - 200) = q by omega] at h4
            have h6 : ab_strs.getD (q - 200) [] = t := by rw [List.getD_eq_getElem?_getD, ht]; rfl
            rw [h6] at h4
            exact va_tlen hx hb h4 hS rfl hd k
          · cases h
        · cases h
    · cases h
  case baload =>
    have hd := ab_eok_len hk (by simp [ab_len])
    simp only [ab_con, ab_sbld] at h
    split at h
    · rename_i j q r
      split at h
      · rename_i h2
        split at h
        · rename_i t ht
          split at h
          · rename_i hj
            cases h
            have h3 : q - 200 < 106 := (List.getElem?_eq_some_iff.mp ht).1
            have h4 := (w1 (q - 200) h3).2
            rw [show 200 + (q - 200) = q by omega] at h4
            have h6 : ab_strs.getD (q - 200) [] = t := by rw [List.getD_eq_getElem?_getD, ht]; rfl
            rw [h6] at h4
            exact va_tb hx hb h4 hS hj rfl hd k
          · cases h
        · cases h
      · cases h
    · cases h
  case aaload =>
    have hd := ab_eok_len hk (by simp [ab_len])
    simp only [ab_con, ab_sald] at h
    split at h
    · rename_i j q r
      split at h
      · rename_i hj
        cases h
        obtain ⟨hj1, hj2⟩ := hj
        subst hj1
        exact vb_tq hx hb w3 hS hj2 rfl hd k
      · cases h
    · cases h
  all_goals (simp only [ab_con, reduceCtorEq] at h)
theorem ab_acmp_sim {pc' : Nat} (hx : p.tables.exec = Jvm.exec) (hb : c.code = cc) (hSW : ab_SW N0 adS s s.heap) (hk : ab_eok o cc (pc, i, len, a, b) = true) (h : ab_acmp i pc a st = some (pc', st'))
    (k : W p l e R s m args below meth c H locs cells slots Q (F0 m pc' ls (st'.map (ab_rv N0 adS)))) : W p l e R s m args below meth c H locs cells slots Q (F0 m pc ls (st.map (ab_rv N0 adS))) := by
  unfold ab_acmp at h
  split at h
  · rename_i off
    have hd := ab_eok_len hk (by simp [ab_len])
    have ht := (ab_eok_dec hk).2.2
    have ht2 : (pc : Int) + off = (a : Int) := by simpa [ab_tok] using ht
    split at h
    · rename_i y x r
      split at h
      · rename_i hc
        cases h
        obtain ⟨⟨c1, c2⟩, c3, c4⟩ := hc
        have hinj : adS x = adS y → x = y := by
          intro q
          have h9 := hSW.2.2.2.2.2.2.2.1 (x - 400) (y - 400) (by omega) (by omega) (by rw [show 400 + (x - 400) = x by omega, show 400 + (y - 400) = y by omega]; exact q)
          omega
        refine lv_acmp_ne (rx := some (adS x)) (ry := some (adS y)) hx hb hd ht2 (fun q => ?_) (fun q => ?_)
        · have h9 : (x == y) = false := by
            simp only [beq_eq_false_iff_ne, ne_eq]
            intro h8
            exact q (by rw [h8])
          rw [h9] at k
          exact k
        · have h9 : (x == y) = true := by
            simp only [beq_iff_eq]
            exact hinj (Option.some.inj q)
          rw [h9] at k
          exact k
      · cases h
    · cases h
  · cases h
end AB8
