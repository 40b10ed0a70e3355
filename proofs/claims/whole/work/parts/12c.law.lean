set_option maxHeartbeats 4000000 in
/-- THE LAW's BODY FOLLOWS: where the run answers 1 within the room, the machine comes to the law's end with 1 -/
theorem ab_law_sim {p : Program} {l : Launch} {e : Env} {s : State} {m : MethodId} {below : List Frame} {meth : Method} {c : Code} {b L : Nat} {xs : Nat → Int32} {N0 : Nat} {adS : Nat → Nat} {D : va_G} {cA : Nat → ClassId} (X : ab_Lx p l s m meth c b L xs N0 adS D cA) :
    ∀ (n d pc : Nat) (lv : ab_L) (st : List Value) (h h' : ab_H) (H : Heap) (locs : List Loc) (ls : Array Slot), ab_law xs L n d pc lv st h = some (1, h') → h'.length ≤ 61024 → ab_sz h' ≤ 8913034 → lv_has ls 7 (ab_rl N0 adS lv) → ab_Wd D cA N0 adS h H → va_S (ab_A N0) s.heap H locs →
      W p l e (ab_rm (d + 2) 61024 8913034) s m #[Value.ref b] below meth c H locs h.length (ab_sz h) (lw_Z below #[Value.ref b] s) (F0 m pc ls (st.map (ab_rv N0 adS))) := by
  intro n
  induction n with
  | zero => intro d pc lv st h h' H locs ls hg; cases hg
  | succ n ih =>
    intro d pc lv st h h' H locs ls hg hb1 hb2 hlv hW hS
    have hmono := ab_law_mono xs L _ _ _ _ _ _ _ _ hg
    obtain ⟨hx, hb, hr, hml, hown, hts, hX, hbl, hlocks, hl, hN, had, hK, hSW⟩ := id X
    have hRc : (ab_rm (d + 2) 61024 8913034).cells = 61024 := rfl
    have hRs : (ab_rm (d + 2) 61024 8913034).slots = 8913034 := rfl
    have hs : s.heap.size = N0 + 0 := by omega
    unfold ab_law at hg
    cases hf : ab_fetch ab_lc pc with
    | none => rw [hf] at hg; cases hg
    | some q =>
      rw [hf] at hg
      simp only at hg
      have hk : ab_leok (pc, q) = true := by
        unfold ab_fetch at hf
        split at hf
        · rename_i z hz
          cases hf
          have h1 : z.1 = pc := by simpa using List.find?_some hz
          have h2 := List.all_eq_true.mp ab_lc_ok z (List.mem_of_find?_eq_some hz)
          rw [← h1]
          exact h2
        · cases hf
      obtain ⟨i, len, a, b9⟩ := q
      simp only at hg hk
      have hk2 := hk
      unfold ab_leok at hk2
      simp only [Bool.and_eq_true, decide_eq_true_eq, Bool.or_eq_true, beq_iff_eq] at hk2
      obtain ⟨⟨⟨hdec, hlen⟩, htok⟩, hpool⟩ := hk2
      have hdl : ab_len i ≠ 0 → decode code pc = .ok (i, ab_len i) := by
        intro h0
        rcases hlen with h9 | h9
        · rw [hdec, h9]
        · exact absurd h9 h0
      cases hnx : ab_ln xs L i a pc lv st h with
      | some z =>
        rw [hnx] at hg
        simp only at hg
        have hm2 := ab_law_mono xs L _ _ _ _ _ _ _ _ hg
        have go : ∀ (ls' : Array Slot), lv_has ls' 7 (ab_rl N0 adS z.2.1) → ab_kk p l e (ab_rm (d + 2) 61024 8913034) s m #[Value.ref b] below meth c h.length (ab_sz h) (lw_Z below #[Value.ref b] s) D cA N0 adS h z.2.2.2 (F0 m z.1 ls' (z.2.2.1.map (ab_rv N0 adS))) := by
          intro ls' hlv' H' locs' cells' slots' hW' hS' hc' hs'
          have e1 : cells' = z.2.2.2.length := by omega
          have e2 : slots' = ab_sz z.2.2.2 := by omega
          rw [e1, e2]
          exact ih d z.1 z.2.1 z.2.2.1 z.2.2.2 h' H' locs' ls' hg hb1 hb2 hlv' hW' hS'
        have same : z.2.2.2 = h → ∀ (ls' : Array Slot), lv_has ls' 7 (ab_rl N0 adS z.2.1) → W p l e (ab_rm (d + 2) 61024 8913034) s m #[Value.ref b] below meth c H locs h.length (ab_sz h) (lw_Z below #[Value.ref b] s) (F0 m z.1 ls' (z.2.2.1.map (ab_rv N0 adS))) := fun h0 ls' hlv' => go ls' hlv' H locs _ _ (by rw [h0]; exact hW) hS (by rw [h0]) (by rw [h0])
        unfold ab_ln at hnx
        split at hnx
        · rename_i s1 h1
          cases hnx
          have hn : ab_len i ≠ 0 := by intro h0; cases i <;> simp [ab_len] at h0 <;> simp [ab_op] at h1
          exact ab_op_sim hx hb (hdl hn) h1 (same rfl ls hlv)
        · split at hnx
          · rename_i v h1
            cases hnx
            have hn : ab_len i ≠ 0 := by intro h0; cases i <;> simp [ab_len] at h0 <;> simp [ab_ld] at h1
            exact ab_ld_sim hx hb (hdl hn) hlv h1 (same rfl ls hlv)
          · split at hnx
            · rename_i q h1
              cases hnx
              have hn : ab_len i ≠ 0 := by intro h0; cases i <;> simp [ab_len] at h0 <;> simp [ab_sto] at h1
              exact ab_sto_sim hx hb (hdl hn) hlv h1 (fun ls' hl' => same rfl ls' hl')
            · split at hnx
              · rename_i q h1
                cases hnx
                exact ab_br_sim hx hb hdec hlen htok h1 (same rfl ls hlv)
              · split at hnx
                · rename_i s1 h1
                  cases hnx
                  exact ab_lx_sim X hW hS hdl h1 (same rfl ls hlv)
                · split at hnx
                  · rename_i q h1
                    cases hnx
                    have hm4 : q.2.length ≤ h'.length ∧ ab_sz q.2 ≤ ab_sz h' := hm2
                    exact ab_lnw_sim X hW hS hk rfl (by rw [hRc]; omega) (by rw [hRs]; omega) h1 (go ls hlv)
                  · cases hnx
      | none =>
        rw [hnx] at hg
        simp only at hg
        cases hrt : ab_lret i st with
        | some v =>
          rw [hrt] at hg
          cases hg
          unfold ab_lret at hrt
          split at hrt
          · split at hrt
            · cases hrt
              have hd := hdl (by simp [ab_len])
              refine va_forget (fun q hq => ?_) ?_
              · have := hS.2.2 q hq
                have : N0 ≤ q.base := this
                omega
              · refine W.widen (k := 61024) (n := 8913034) hb1 hb2 ?_
                exact lw_ret hx hb hr hlocks hd
            · cases hrt
          · cases hrt
        | none =>
          rw [hrt] at hg
          simp only at hg
          cases hcl : ab_lcl n d i a h st with
          | none => rw [hcl] at hg; cases hg
          | some z =>
            rw [hcl] at hg
            simp only at hg
            have hm2 := ab_law_mono xs L _ _ _ _ _ _ _ _ hg
            have hm3 := ab_lcl_mono hcl
            refine ab_size (n0 := 0) hs (by omega) hW (fun hz => ?_)
            refine ab_lcl_sim X hlv.1 hW hz hS hk hcl (by omega) (by omega) (fun H' locs' cells' slots' hW' hS' hc' hs' => ?_)
            have e1 : cells' = z.2.2.length := by omega
            have e2 : slots' = ab_sz z.2.2 := by omega
            rw [e1, e2]
            exact ih d (pc + 3) lv (z.1.toList ++ z.2.1) z.2.2 h' H' locs' ls hg hb1 hb2 hlv hW' hS'
