/-- at fuel n: from any place of a method the machine comes to the end that the abstract machine comes to -/
def ab_Fr (l : Launch) (n : Nat) : Prop := ∀ (d mi : Nat) (P : ab_M × List ab_I) (pc : Nat) (lv : ab_L) (st : List Value) (h : ab_H) (o : Option Value ⊕ Unit) (h' : ab_H), ab_prog[mi]? = some P → ab_go n d mi pc lv st h = some (o, h') →
  ∀ (p : Program) (e : Env) (s : State) (m : MethodId) (args : Array Value) (below : List Frame) (meth : Method) (c : Code) (H : Heap) (locs : List Loc) (cells slots : Nat) (ls : Array Slot) (N0 : Nat) (adS : Nat → Nat) (D : va_G) (cA : Nat → ClassId) (n0 z0 mc ms : Nat),
    ab_Cx p l s m args meth c P.1 → lv_has ls P.1.2.2.2.1 (ab_rl N0 adS lv) → va_K D ab_cl (ab_tys cA) s → ab_Wd D cA N0 adS h H → va_S (ab_A N0) s.heap H locs → ab_SW N0 adS s s.heap → s.heap.size = N0 + n0 → cells + n0 = h.length → slots + z0 = ab_sz h → mc + n0 = h'.length → ms + z0 = ab_sz h' →
    W p l e (ab_rm d mc ms) s m args below meth c H locs cells slots (vx_MQ below (ab_Q D cA N0 adS o h') (ab_X D cA N0 adS o h') args s mc ms (ab_A N0)) (F0 m pc ls (st.map (ab_rv N0 adS)))
theorem ab_met_of {l : Launch} {n : Nat} (hF : ab_Fr l n) (hl : l.stackTraces = false) (D : va_G) (cA : Nat → ClassId) (N0 : Nat) (adS : Nat → Nat) {d mi : Nat} {P : ab_M × List ab_I} {vs : List Value} {h h' : ab_H} {o : Option Value ⊕ Unit} {mc ms : Nat} (hP : ab_prog[mi]? = some P) (hg : ab_go n d mi 0 (lv_args 0 vs) [] h = some (o, h')) (hlen : (lg_sl vs).length ≤ P.1.2.2.2.1) (hmc : mc + h.length = h'.length) (hms : ms + ab_sz h = ab_sz h') :
    vx_Met l P.1.2.1 (ab_wm P.1) (ab_rm d mc ms) (ab_P D cA N0 adS vs h) (ab_Q D cA N0 adS o h') (ab_X D cA N0 adS o h') mc ms (ab_A N0) := by
  refine vx_ofW (cc := P.1.2.2.1) (maxL := P.1.2.2.2.1) (ret := P.1.2.2.2.2.1) (ab_hok_at (ab_prog_at hP).1).2.2.1 rfl ?_
  intro p e s m args below meth c s₁ B hml htab hv
  obtain ⟨rfl, hK, hW, hz, hSW⟩ := hv
  rw [lg_entry_eq]
  have hlv := lv_entry (vs.map (ab_rv N0 adS)) (n := P.1.2.2.2.1) (by rw [ab_lg_len]; exact hlen)
  rw [ab_rl_args] at hlv
  exact hF d mi P 0 (lv_args 0 vs) [] h o h' hP hg p e s m _ below meth c s.heap [] 0 0 _ N0 adS D cA h.length (ab_sz h) mc ms ⟨B.exec, B.bytes, hml, findClass_of_methodNamed B.named, atoms_spec (ws := ab_wm P.1) B.pre, B.returns, B.notSynchronized, htab, (name_of_methodNamed B.named B.method).1, hl⟩ hlv hK hW va_S.rf hSW hz (by omega) (by omega) hmc hms
set_option maxHeartbeats 4000000 in
/-- THE MACHINE FOLLOWS THE ABSTRACT MACHINE -/
theorem ab_frame (l : Launch) (hl : l.stackTraces = false) : ∀ n, ab_Fr l n := by
  intro n
  induction n with
  | zero => intro d mi P pc lv st h o h' hP hg; cases hg
  | succ n ih =>
    intro d mi P pc lv st h o h' hP hg p e s m args below meth c H locs cells slots ls N0 adS D cA n0 z0 mc ms X hlv hK hW hS hSW hs hc hsl hmc hms
    have hmono := ab_go_mono _ _ _ _ _ _ _ _ _ hg
    obtain ⟨hok, hcode⟩ := ab_prog_at hP
    have hfr : 10 ≤ (ab_rm d mc ms).frames := by show 10 ≤ d + 10; omega
    have hlo : 200 ≤ (ab_rm d mc ms).locals := by show 200 ≤ 40 * d + 200; omega
    have hRc : (ab_rm d mc ms).cells = mc := rfl
    have hRs : (ab_rm d mc ms).slots = ms := rfl
    unfold ab_go at hg
    rw [hP] at hg
    simp only at hg
    cases hf : ab_fetch P.2 pc with
    | none => rw [hf] at hg; cases hg
    | some q =>
      rw [hf] at hg
      simp only at hg
      have hk := ab_fetch_ok hcode hf
      obtain ⟨i, len, a, b⟩ := q
      simp only at hg hk
      cases hnx : ab_nx P.1 i a b pc lv st h with
      | some z =>
        rw [hnx] at hg
        simp only at hg
        have hm2 := ab_go_mono _ _ _ _ _ _ _ _ _ hg
        refine ab_nx_sim X hok hlv hK hW hS hSW hfr hlo hs hc (by rw [hRc]; omega) (by rw [hRs]; omega) (by rw [hRc]; omega) (by rw [hRs]; omega) hk hnx (fun ls' hlv' H' locs' cells' slots' hW' hS' hc' hs' => ?_)
        exact ih d mi P z.1 z.2.1 z.2.2.1 z.2.2.2 o h' hP hg p e s m args below meth c H' locs' cells' slots' ls' N0 adS D cA n0 z0 mc ms X hlv' hK hW' hS' hSW hs (by omega) (by omega) hmc hms
      | none =>
        rw [hnx] at hg
        simp only at hg
        cases hrt : ab_ret P.1.2.2.2.2.1 i st with
        | some v =>
          rw [hrt] at hg
          cases hg
          have h1 : cells = mc := by omega
          have h2 : slots = ms := by omega
          subst h1; subst h2
          exact ab_ret_sim X hW hS hk hrt
        | none =>
          rw [hrt] at hg
          simp only at hg
          cases ht : ab_thr mi pc st with
          | true =>
            rw [ht] at hg
            cases hg
            unfold ab_thr at ht
            simp only [Bool.and_eq_true, beq_iff_eq, decide_eq_true_eq] at ht
            obtain ⟨⟨rfl, rfl⟩, h8⟩ := ht
            rw [ab_prog46] at hP
            cases hP
            rw [List.length_append, List.length_singleton] at hmc
            rw [ab_sz_push] at hms
            have h6 : ab_sz1 (.inr (7, [])) = 6 := rfl
            rw [h6] at hms
            exact ab_thr_sim X hK hW hS hSW hs hc h8 (by rw [X.2.2.1]; exact hlv.1) hfr hlo (by rw [hRc]; omega) (by rw [hRs]; omega) (by omega) (by omega)
          | false =>
            rw [ht] at hg
            simp only [cond_false] at hg
            cases hP2 : ab_prog[a]? with
            | none => rw [hP2] at hg; cases hg
            | some P2 =>
              rw [hP2] at hg
              simp only at hg
              cases hi : ab_inv i a P2.1.2.2.2.2.2.1 P2.1.2.1.cls h st with
              | none => rw [hi] at hg; cases hg
              | some z =>
                rw [hi] at hg
                simp only at hg
                cases d with
                | zero => cases hg
                | succ d' =>
                  simp only at hg
                  by_cases hdl : (lg_sl z.1).length ≤ P2.1.2.2.2.1
                  · rw [if_pos hdl] at hg
                    cases hcl : ab_go n d' a 0 (lv_args 0 z.1) [] h with
                    | none => rw [hcl] at hg; cases hg
                    | some r =>
                      obtain ⟨o2, h2⟩ := r
                      rw [hcl] at hg
                      have hm2 := ab_go_mono _ _ _ _ _ _ _ _ _ hcl
                      obtain ⟨mc2, hmc2⟩ : ∃ k, k + h.length = h2.length := ⟨h2.length - h.length, by omega⟩
                      obtain ⟨ms2, hms2⟩ : ∃ k, k + ab_sz h = ab_sz h2 := ⟨ab_sz h2 - ab_sz h, by omega⟩
                      have hmet := ab_met_of ih hl D cA N0 adS hP2 hcl hdl hmc2 hms2
                      cases o2 with
                      | inl v =>
                        simp only at hg
                        have hm3 := ab_go_mono _ _ _ _ _ _ _ _ _ hg
                        refine ab_size hs hc hW (fun hz => ?_)
                        refine ab_call_sim (vs := z.1) (rest := z.2) X hok hP2 hlv.1 hK hW hz hS hSW hk hi (fun _ _ _ h9 => by cases h9) hmet ⟨by omega, by omega⟩ (fun w hw H1 locs1 q1 q2 => ?_) (fun h9 => by cases h9)
                        cases hw
                        exact ih (d' + 1) mi P (pc + 3) lv (v.toList ++ z.2) h2 o h' hP hg p e s m args below meth c H1 locs1 (cells + mc2) (slots + ms2) ls N0 adS D cA n0 z0 mc ms X hlv hK q1 q2 hSW hs (by omega) (by omega) hmc hms
                      | inr u =>
                        simp only at hg
                        cases hsp : ab_sp i with
                        | true => rw [hsp] at hg; cases hg
                        | false =>
                          rw [hsp] at hg
                          cases hg
                          refine ab_size hs hc hW (fun hz => ?_)
                          refine ab_call_sim (vs := z.1) (rest := z.2) X hok hP2 hlv.1 hK hW hz hS hSW hk hi (fun idx h9 _ _ => by rw [h9] at hsp; cases hsp) hmet ⟨by omega, by omega⟩ (fun w hw => by cases hw) (fun h9 H1 locs1 ce q q1 q2 q3 q4 q5 => ?_)
                          obtain ⟨hx, hb, hml, hown, hts, hr, hlocks, hex, hnm, -⟩ := X
                          exact vx_out (fun x hx9 => (hex x hx9).elim) hlocks q3 q4 q5 (fun t ht _ => ⟨h9, rfl, by rw [ht]; exact q1, q2.F ht⟩) q2.2.2 (by omega) (by omega)
                  · rw [if_neg hdl] at hg
                    cases hg
