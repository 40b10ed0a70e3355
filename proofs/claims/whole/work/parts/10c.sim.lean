/-! Returns, the throw, calls; the whole by induction on the steps. -/
abbrev ab_IAE : String := "java/lang/IllegalArgumentException"
abbrev ab_chain : List String := ["java/lang/RuntimeException", "java/lang/Exception"]
abbrev ab_thl : List Cond := Cond.classLink "CodeSmith$Tokens" 65 ab_IAE :: Cond.initialized ab_IAE :: vx_atS "CodeSmith$Tokens" 69 ab_IAE ab_chain
set_option maxRecDepth 1000000 in
theorem ab_thw1 : ab_thl.all (fun w => decide (w ∈ lw_tbl) && vx_ot w && (goodWord w || decide (w ∈ ab_nwl))) = true := by decide +kernel
set_option maxRecDepth 100000 in
theorem ab_prog46 : ab_prog[46]? = some (ab_m46, ab_c46) := rfl
section AB10C
variable {p : Program} {l : Launch} {e : Env} {R : Room} {s : State} {m : MethodId} {args : Array Value} {below : List Frame} {meth : Method} {c : Code} {H : Heap} {locs : List Loc} {cells slots : Nat} {Q : State → Prop} {pc : Nat} {ls : Array Slot} {N0 : Nat} {adS : Nat → Nat} {D : va_G} {cA : Nat → ClassId} {h h' : ab_H} {M : ab_M} {st st' : List Value} {a b len n0 : Nat} {i : Instr} {lv : ab_L}
theorem ab_ret_sim {v : Option Value} (X : ab_Cx p l s m args meth c M) (hW : ab_Wd D cA N0 adS h H) (hS : va_S (ab_A N0) s.heap H locs) (hk : ab_eok M.1 M.2.2.1 (pc, i, len, a, b) = true) (h1 : ab_ret M.2.2.2.2.1 i st = some v) :
    W p l e R s m args below meth c H locs cells slots (vx_MQ below (ab_Q D cA N0 adS (.inl v) h) (ab_X D cA N0 adS (.inl v) h) args s cells slots (ab_A N0)) (F0 m pc ls (st.map (ab_rv N0 adS))) := by
  obtain ⟨hx, hb, hml, hown, hts, hr, hlocks, hex, hnm, hl⟩ := X
  have hq : ∀ (w : Option Value), v.map (ab_rv N0 adS) = w → ∀ t : State, t.heap = H → s.WarmedH t.vm → ab_Q D cA N0 adS (.inl v) h args s (.returned w) t := fun w hw t ht _ => ⟨v, rfl, by rw [hw], by rw [ht]; exact hW, hS.F ht⟩
  apply vx_ret
  cases i
  case return_ =>
    have hd := ab_eok_len hk (by simp [ab_len])
    simp only [ab_ret] at h1
    split at h1
    · rename_i hrt
      cases h1
      exact W.vret hx hb (hr.trans hrt) (hq none rfl) hS.2.2 hd hlocks
    · cases h1
  case ireturn =>
    have hd := ab_eok_len hk (by simp [ab_len])
    simp only [ab_ret] at h1
    split at h1
    · rename_i x ty hrt
      split at h1
      · rename_i hn
        cases h1
        refine W.zret hx hb (hr.trans hrt) ?_ (hq _ rfl) hS.2.2 hd hlocks
        cases ty <;> simp only [ab_nar] at hn <;> first | rfl | exact of_decide_eq_true hn | skip
        rw [Bool.or_eq_true, beq_iff_eq, beq_iff_eq] at hn
        rcases hn with rfl | rfl <;> decide
      · cases h1
    · cases h1
  case lreturn =>
    have hd := ab_eok_len hk (by simp [ab_len])
    simp only [ab_ret] at h1
    split at h1
    · rename_i x hrt
      cases h1
      exact W.lret hx hb (hr.trans hrt) (hq _ rfl) hS.2.2 hd hlocks
    · cases h1
  case areturn =>
    have hd := ab_eok_len hk (by simp [ab_len])
    have hrr : ab_isr M.2.2.2.2.1 = true → ∃ rt, M.2.2.2.2.1 = some rt ∧ ((∃ n, rt = .object n) ∨ ∃ t, rt = .array t) := by
      intro hi
      unfold ab_isr at hi
      split at hi
      · rename_i n hn
        exact ⟨_, hn, Or.inl ⟨n, rfl⟩⟩
      · rename_i n hn
        exact ⟨_, hn, Or.inr ⟨n, rfl⟩⟩
      · cases hi
    simp only [ab_ret] at h1
    split at h1
    · split at h1
      · rename_i hi
        cases h1
        obtain ⟨rt, e1, e2⟩ := hrr hi
        exact W.aret hx hb (hr.trans e1) e2 (Or.inr ⟨_, rfl⟩) (hq _ rfl) hS.2.2 hd hlocks
      · cases h1
    · split at h1
      · rename_i hi
        cases h1
        obtain ⟨rt, e1, e2⟩ := hrr hi
        exact W.aret hx hb (hr.trans e1) e2 (Or.inr ⟨_, rfl⟩) (hq _ rfl) hS.2.2 hd hlocks
      · cases h1
    · split at h1
      · rename_i hi
        cases h1
        obtain ⟨rt, e1, e2⟩ := hrr hi
        exact W.aret hx hb (hr.trans e1) e2 (Or.inl rfl) (hq _ rfl) hS.2.2 hd hlocks
      · cases h1
    · cases h1
  all_goals (simp only [ab_ret, reduceCtorEq] at h1)
theorem ab_thr_sim {mc ms : Nat} (X : ab_Cx p l s m args meth c ab_m46) (hK : va_K D ab_cl (ab_tys cA) s) (hW : ab_Wd D cA N0 adS h H) (hS : va_S (ab_A N0) s.heap H locs) (hSW : ab_SW N0 adS s s.heap) (hs : s.heap.size = N0 + n0) (hc : cells + n0 = h.length) (hst : ab_cat st ≤ 8) (hsz : ls.size = c.maxLocals)
    (hf : 10 ≤ R.frames) (hlo : 200 ≤ R.locals) (hR1 : cells + 1 ≤ R.cells) (hR2 : slots + 6 ≤ R.slots) (hm1 : cells + 1 ≤ mc) (hm2 : slots + 6 ≤ ms) :
    W p l e R s m args below meth c H locs cells slots (vx_MQ below (ab_Q D cA N0 adS (.inr ()) (h ++ [.inr (7, [])])) (ab_X D cA N0 adS (.inr ()) (h ++ [.inr (7, [])])) args s mc ms (ab_A N0)) (F0 m 23 ls (st.map (ab_rv N0 adS))) := by
  refine ab_size hs hc hW (fun hz => ?_)
  have hcas := hSW.2.2.2.2.2.2.2.2.1.2
  have hU := hSW.2.2.2.2.2.2.2.2.1.1
  have hN := hSW.2.2.2.2.2.2.2.2.2.1
  obtain ⟨hx, hb, hml, hown, hts, hr, hlocks, hex, hnm, hl⟩ := X
  have hall : ∀ w ∈ ab_thl, w.before args s = true := by
    intro w hw
    have h1 := List.all_eq_true.mp ab_thw1 w hw
    simp only [Bool.and_eq_true, Bool.or_eq_true, decide_eq_true_eq] at h1
    rcases h1.2 with h2 | h2
    · exact hts w (ab_T_w h1.1.1 h2)
    · exact va_Nw.use (by simp only [ab_nwl, List.mem_cons, List.not_mem_nil, or_false] at h2; rcases h2 with rfl | rfl | rfl | rfl <;> rfl) (hcas w h2)
  refine vx_throwS (names := ab_chain) (own := "CodeSmith$Tokens") (cls := ab_IAE) (text := "the text has an error") (ik := 65) (is := 67) (ic := 69) (sa := adS 0) hx hb hl hown (by decide +kernel) (by decide +kernel) (hall _ List.mem_cons_self) (hall _ (List.mem_cons_of_mem _ List.mem_cons_self)) (hSW.2.2.2.2.2.2.1 ("CodeSmith$Tokens", 67, "the text has an error", 0) (by decide +kernel)) (fun w hw => hall w (List.mem_cons_of_mem _ (List.mem_cons_of_mem _ hw)))
    (fun w hw => by
      have h1 := List.all_eq_true.mp ab_thw1 w hw
      simp only [Bool.and_eq_true] at h1
      exact h1.1.2) hU hN hS hsz (by decide +kernel) (by decide +kernel) (by decide +kernel) (by decide +kernel) (by decide +kernel) (fun x hx9 => (hex x hx9).elim) (by show 2 + 3 < R.frames; omega) (by rw [ab_cat_rv]; show ab_cat st + (13 * 3 + 43) ≤ R.locals; omega) hR1 hR2 hlocks ?_ hS.2.2 hm1 hm2
  intro t ce hvm hle hpre hce hcv hcl
  refine ⟨rfl, rfl, ?_, ?_⟩
  · unfold ab_Wd
    rw [← ab_ws_push]
    refine va_P.app (fun k q hq => (hW k q hq).kept (hpre q.1 (hW k q hq).lt)) (fun k q hq => ?_)
    have hk : k < 1 := (List.getElem?_eq_some_iff.mp hq).1
    rw [show k = 0 by omega] at hq
    cases hq
    have h7 := (hK.1 7 _ rfl).2
    refine ⟨_, rfl, ce, by rw [← hz]; exact hce, ?_, hcv, fun k hk => absurd hk (Nat.not_lt_zero _)⟩
    exact Option.some.inj (hcl.symm.trans h7.1)
  · exact ⟨Nat.le_trans hS.1 hle, fun q h1 h2 => (hpre q (Nat.lt_of_lt_of_le h1 hS.1)).trans (hS.2.1 q h1 h2)⟩
end AB10C
section AB10D
variable {p : Program} {l : Launch} {e : Env} {R : Room} {s : State} {m : MethodId} {args : Array Value} {below : List Frame} {meth : Method} {c : Code} {H : Heap} {locs : List Loc} {cells slots : Nat} {Q : State → Prop} {pc : Nat} {ls : Array Slot} {N0 : Nat} {adS : Nat → Nat} {D : va_G} {cA : Nat → ClassId} {h h2 : ab_H} {M M2 : ab_M} {st rest vs : List Value} {a b len mc2 ms2 d2 idx : Nat} {i : Instr} {lv : ab_L} {o2 : Option Value ⊕ Unit} {st0 rst : List Value} {av : Array Value}
theorem ab_run_k (hr : vx_Run p l e R s m args below meth c H locs cells slots mc2 ms2 (F0 m pc ls st0) rst (ab_Q D cA N0 adS o2 h2 av) (ab_X D cA N0 adS o2 h2) (ab_A N0)) (hS : va_S (ab_A N0) s.heap H locs)
    (kr : ∀ v, o2 = .inl v → ∀ (H1 : Heap) (locs1 : List Loc), ab_Wd D cA N0 adS h2 H1 → va_S (ab_A N0) s.heap H1 locs1 → W p l e R s m args below meth c H1 locs1 (cells + mc2) (slots + ms2) Q (F0 m (pc + 3) ls ((v.map (ab_rv N0 adS)).toList ++ rst)))
    (kx : o2 = .inr () → ∀ (H1 : Heap) (locs1 : List Loc) (ce : Cell) (q : Addr), ab_Wd D cA N0 adS h2 H1 → va_S (ab_A N0) s.heap H1 locs1 → H1[q]? = some ce → ce.vm = .none → s.vm.findClass ab_IAE = some ce.cls → vx_W p l e R s m args below meth c H1 locs1 (cells + mc2) (slots + ms2) Q (F0 m pc ls rst) q) :
    W p l e R s m args below meth c H locs cells slots Q (F0 m pc ls st0) := by
  intro T hT X
  rcases hr T hT X with ⟨v, st₀, t, T', L, h0, X', hL, e1, e2, hq, st⟩ | ⟨q, st₀, t, T', L, E, ce, h0, X', hL, e1, e2, hq, hce, hcv, hcl, st⟩
  · obtain ⟨w, hw1, hw2, hw3, hw4⟩ := hq
    cases hw2
    obtain ⟨k1, k2, k3⟩ := vx_keep (A0 := ab_A N0) (A1 := ab_A N0) (free := ab_A N0) h0 e1 hS (fun _ _ h => h) (fun _ h => h) hL hw4
    obtain ⟨t2, a1, b1⟩ := kr w hw1 T'.heap (locs ++ L) (by rw [e1]; exact hw3) k3 T' rfl X'
    exact ⟨t2, st t2 a1, b1⟩
  · obtain ⟨hw1, hw2, hw3, hw4⟩ := hq
    subst hw2
    obtain ⟨k1, k2, k3⟩ := vx_keep (A0 := ab_A N0) (A1 := ab_A N0) (free := ab_A N0) h0 e1 hS (fun _ _ h => h) (fun _ h => h) hL hw4
    obtain ⟨t2, a1, b1⟩ := kx hw1 T'.heap (locs ++ L) ce q (by rw [e1]; exact hw3) k3 (by rw [e1]; exact hce) hcv hcl T' rfl X'
    exact ⟨t2, st.trans a1, b1⟩
theorem ab_run_m (hr : va_Run p l e R s m args below meth c H locs cells slots mc2 ms2 (F0 m pc ls st0) rst (ab_Q D cA N0 adS o2 h2 av) (ab_A N0)) (hS : va_S (ab_A N0) s.heap H locs)
    (kr : ∀ v, o2 = .inl v → ∀ (H1 : Heap) (locs1 : List Loc), ab_Wd D cA N0 adS h2 H1 → va_S (ab_A N0) s.heap H1 locs1 → W p l e R s m args below meth c H1 locs1 (cells + mc2) (slots + ms2) Q (F0 m (pc + 3) ls ((v.map (ab_rv N0 adS)).toList ++ rst))) :
    W p l e R s m args below meth c H locs cells slots Q (F0 m pc ls st0) := by
  intro T hT X
  obtain ⟨v, st₀, t, T', L, h0, X', hL, e1, e2, hq, st⟩ := hr T hT X
  obtain ⟨w, hw1, hw2, hw3, hw4⟩ := hq
  cases hw2
  obtain ⟨k1, k2, k3⟩ := vx_keep (A0 := ab_A N0) (A1 := ab_A N0) (free := ab_A N0) h0 e1 hS (fun _ _ h => h) (fun _ h => h) hL hw4
  obtain ⟨t2, a1, b1⟩ := kr w hw1 T'.heap (locs ++ L) (by rw [e1]; exact hw3) k3 T' rfl X'
  exact ⟨t2, st t2 a1, b1⟩
/-- a callee's start holds where the caller stands -/
theorem ab_pre (hK : va_K D ab_cl (ab_tys cA) s) (hW : ab_Wd D cA N0 adS h H) (hz : H.size = N0 + h.length) (hS : va_S (ab_A N0) s.heap H locs) (hSW : ab_SW N0 adS s s.heap) (vs : List Value) : ∀ U : State, U.heap = H → s.WarmedH U.vm → ab_P D cA N0 adS vs h (vs.map (ab_rv N0 adS)).toArray U := by
  intro U hU hWm
  refine ⟨rfl, va_K.moved hWm.alike hK, by rw [hU]; exact hW, by rw [hU]; exact hz, ?_⟩
  rw [hU]
  exact hSW.go hWm hS.2.1
end AB10D
