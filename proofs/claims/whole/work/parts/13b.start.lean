theorem ab_i32 {i j : Nat} (hi : i < 83) (hj : j < 83) (h : Int32.ofNat i = Int32.ofNat j) : i = j := (nI_eq (by omega) (by omega)).mp h
set_option maxHeartbeats 4000000 in
/-- the constant objects at the law's start -/
theorem ab_start_SW {s : State} {b : Nat} (hts : ∀ w ∈ lw_tbl, w.before #[Value.ref b] s = true) (hgv : (Jvm.Cond.and given_1 narrow_1).before #[Value.ref b] s = true) : ∃ adS : Nat → Nat, adS 600 = b ∧ ab_SW s.heap.size adS s s.heap := by
  have hf : ∀ c ∈ ab_fl, c.before #[Value.ref b] s = true := flat_of_before _ hgv
  have hA : ∀ a : Nat, a < s.heap.size → ¬ ab_A s.heap.size a := fun a h q => by have : s.heap.size ≤ a := q; omega
  have hd : ∀ {n : Nat} {c : Cond}, c ∈ ab_fl.drop n → c.before #[Value.ref b] s = true := fun h => hf _ (List.mem_of_mem_drop h)
  have ht9 : ∀ {n m : Nat} {c : Cond}, c ∈ (ab_fl.drop n).take m → c.before #[Value.ref b] s = true := fun h => hd (List.mem_of_mem_take h)
  have hsc : ∀ k, k < 106 → ∀ c ∈ ab_sc k, c.before #[Value.ref b] s = true := by
    intro k hk c hc
    have hin : ∀ a n, a ≤ k → k < a + n → c ∈ ab_scs a n := fun a n h1 h2 => List.mem_flatMap.mpr ⟨k - a, List.mem_range.mpr (by omega), by rw [show a + (k - a) = k by omega]; exact hc⟩
    rcases Nat.lt_or_ge k 17 with h1 | h1
    · exact ht9 (by rw [ab_flA]; exact hin 0 17 (by omega) (by omega))
    · rcases Nat.lt_or_ge k 63 with h2 | h2
      · exact ht9 (by rw [ab_flB]; exact hin 17 46 (by omega) (by omega))
      · exact hd (by rw [ab_flC]; exact hin 63 43 (by omega) (by omega))
  have hec : ∀ e, e < 83 → ∀ c ∈ ab_ec e, c.before #[Value.ref b] s = true := fun e he c hc => ht9 (by rw [ab_flN]; exact List.mem_flatMap.mpr ⟨e, ab_eo_in e he, hc⟩)
  have hel : ∀ e, e < 83 → (Cond.eq (.elem ab_tst (.int (Int32.ofNat e))) (ab_te e)).before #[Value.ref b] s = true := fun e he => ht9 (by rw [ab_flE]; exact List.mem_map.mpr ⟨e, List.mem_range.mpr he, rfl⟩)
  have h0 : ∀ k : Nat, ∃ q : Nat × Nat, k < 106 → (ab_tm k).eval #[Value.ref b] s none [] s = some (.ref q.1) ∧ va_O "java/lang/String" q.1 (ab_A s.heap.size) s s.heap ∧ va_OF "java/lang/String" "coder" "B" (.int 0) q.1 (ab_A s.heap.size) s s.heap ∧ va_OF "java/lang/String" "value" "[B" (.ref q.2) q.1 (ab_A s.heap.size) s s.heap ∧ va_T .byte q.2 (ab_strs.getD k []).length (fun j => .int ((ab_strs.getD k []).getD j 0)) (ab_A s.heap.size) s s.heap := by
    intro k
    by_cases hk : k < 106
    · have hc := hsc k hk
      have g1 : (Cond.exactly (ab_tm k) "java/lang/String").before #[Value.ref b] s = true := hc _ (by simp [ab_sc])
      have g2 : (Cond.eq (.field (ab_tm k) "java/lang/String" "coder" "B") (.int 0)).before #[Value.ref b] s = true := hc _ (by simp [ab_sc])
      have g3 : (Cond.arrayOf (.field (ab_tm k) "java/lang/String" "value" "[B") .byte).before #[Value.ref b] s = true := hc _ (by simp [ab_sc])
      have g4 : (Cond.eq (.length (.field (ab_tm k) "java/lang/String" "value" "[B")) (.int (Int32.ofNat (ab_strs.getD k []).length))).before #[Value.ref b] s = true := hc _ (by unfold ab_sc; exact List.mem_append_left _ (by simp))
      have g5 : ∀ j, j < (ab_strs.getD k []).length → (Cond.eq (.elem (.field (ab_tm k) "java/lang/String" "value" "[B") (.int (Int32.ofNat j))) (.int ((ab_strs.getD k []).getD j 0))).before #[Value.ref b] s = true := fun j hj => hc _ (by unfold ab_sc; exact List.mem_append_right _ (List.mem_map.mpr ⟨j, List.mem_range.mpr hj, rfl⟩))
      have g6 := ab_strs_in k hk
      obtain ⟨a, c, cA, kA, q1, q2, q3, q4, q5, q6, -⟩ := Cond.exactly_spec (args := #[Value.ref b]) (first := s) (o := none) (s := s) (idx := []) (t := ab_tm k) (cls := "java/lang/String") g1
      obtain ⟨t, ht, hT⟩ := va_Tof (f := fun j => .int ((ab_strs.getD k []).getD j 0)) (A := ab_A s.heap.size) (by omega) g3 (va_eqt g4) (fun j hj => va_eqt (g5 j hj)) hA
      exact ⟨(a, t), fun _ => ⟨q1, ⟨cA, q3, q5, by rw [q6]; exact q2, hA a (Array.getElem?_eq_some_iff.mp q3).1⟩, vk_OFof q1 (va_eqt g2) hA, vk_OFof q1 ht hA, hT⟩⟩
    · exact ⟨(0, 0), fun h => absurd h hk⟩
  obtain ⟨ad, had⟩ := Classical.axiomOfChoice h0
  have h1 : ∀ e : Nat, ∃ a : Nat, e < 83 → (ab_te e).eval #[Value.ref b] s none [] s = some (.ref a) := by
    intro e
    by_cases he : e < 83
    · obtain ⟨a, c, cA, kA, q1, -⟩ := Cond.exactly_spec (args := #[Value.ref b]) (first := s) (o := none) (s := s) (idx := []) (t := ab_te e) (cls := "CodeSmith$Statement") (hec e he _ (by simp [ab_ec]))
      exact ⟨a, fun _ => q1⟩
    · exact ⟨0, fun h => absurd h he⟩
  obtain ⟨adE, hadE⟩ := Classical.axiomOfChoice h1
  have hEf : ∀ e : Nat, e < 83 → ∃ q, ab_enm[e]? = some q ∧ (Cond.eq (.field (ab_te e) "CodeSmith$Statement" "spelling" "Ljava/lang/String;") (ab_tm q.1)).before #[Value.ref b] s = true ∧ (Cond.eq (.field (ab_te e) "CodeSmith$Statement" "pattern" "Ljava/lang/String;") (ab_tm q.2.1)).before #[Value.ref b] s = true ∧ (Cond.eq (.field (ab_te e) "CodeSmith$Statement" "form" "I") (.int q.2.2.1)).before #[Value.ref b] s = true ∧ (Cond.eq (.field (ab_te e) "CodeSmith$Statement" "code" "I") (.int q.2.2.2)).before #[Value.ref b] s = true ∧ q.1 < 106 ∧ q.2.1 < 106 ∧ (Cond.eq (.field (ab_te e) "java/lang/Enum" "ordinal" "I") (.int (Int32.ofNat e))).before #[Value.ref b] s = true ∧ (Cond.eq (.elem ab_tst (.int (Int32.ofNat e))) (ab_te e)).before #[Value.ref b] s = true := by
    intro e he
    have hlt : e < ab_enm.length := he
    have hq : ab_enm[e]? = some (ab_enm.getD e (0, 0, 0, 0)) := by rw [List.getD_eq_getElem?_getD, List.getElem?_eq_getElem hlt]; rfl
    have hc := hec e he
    exact ⟨_, hq, hc _ (by simp [ab_ec]), hc _ (by simp [ab_ec]), hc _ (by simp [ab_ec]), hc _ (by simp [ab_ec]), (ab_enm_in e he).1, (ab_enm_in e he).2, hc _ (by simp [ab_ec]), hel e he⟩
  obtain ⟨f1, f2, f3, f4, f5, f6⟩ := ab_flw
  obtain ⟨w0, hw0⟩ : ∃ w0 : Nat, (Term.static "jdk/internal/util/Preconditions" "SIOOBE_FORMATTER" "Ljava/util/function/BiFunction;").eval #[Value.ref b] s none [] s = some (bif w0 == 0 then .null else .ref (w0 - 1)) := by
    obtain ⟨v, h1, h2⟩ := Cond.isRef_spec (hf _ f6)
    cases v
    case null => exact ⟨0, h1⟩
    case ref a => exact ⟨a + 1, h1⟩
    all_goals exact absurd h2 (by simp [Value.isRef])
  obtain ⟨t, ht, hT⟩ := va_Tof (tm := ab_tst) (ty := .object "CodeSmith$Statement") (N := 83) (f := fun j => .ref (adE j)) (A := ab_A s.heap.size) (by omega) (hf _ f1) (va_eqt (hf _ f2)) (fun j hj => by
    obtain ⟨q, -, -, -, -, -, -, -, -, g9⟩ := hEf j hj
    exact va_eqv g9 (hadE j hj)) hA
  obtain ⟨adS, hS0⟩ : ∃ f : Nat → Nat, f = fun k => if k < 106 then (ad k).1 else if k < 400 then (ad (k - 200)).2 else if k < 483 then adE (k - 400) else if k = 500 then t else if k = 501 then w0 else b := ⟨_, rfl⟩
  have a1 : ∀ k, k < 106 → adS k = (ad k).1 := fun k hk => by rw [hS0]; simp [hk]
  have a2 : ∀ k, k < 106 → adS (200 + k) = (ad k).2 := fun k hk => by
    rw [hS0]
    simp only [show ¬ 200 + k < 106 by omega, show 200 + k < 400 by omega, if_true, if_false, show 200 + k - 200 = k by omega]
  have a3 : ∀ e, e < 83 → adS (400 + e) = adE e := fun e he => by
    rw [hS0]
    simp only [show ¬ 400 + e < 106 by omega, show ¬ 400 + e < 400 by omega, show 400 + e < 483 by omega, if_true, if_false, show 400 + e - 400 = e by omega]
  have a4 : adS 500 = t := by rw [hS0]; rfl
  have a5 : adS 600 = b := by rw [hS0]; rfl
  have a6 : adS 501 = w0 := by rw [hS0]; rfl
  obtain ⟨s1, s2, s3, s4, s5, s6, s7, s8, s9, s10, s11, s12⟩ := ab_stw
  refine ⟨adS, a5, fun k hk => ⟨by rw [a1 k hk]; exact (had k hk).2.1, by rw [a2 k hk]; exact (had k hk).2.2.2.2⟩, ?_, ?_, ?_, ?_, ?_, ?_, ?_, ⟨?_, ?_⟩, ?_, ?_, ?_⟩
  · intro b' k v hv f hfn
    have hen : ∀ e q, e < 83 → ab_enm[e]? = some q → va_OF "CodeSmith$Statement" "spelling" "Ljava/lang/String;" (.ref (adS q.1)) (adS (400 + e)) (ab_A s.heap.size) s s.heap ∧ va_OF "CodeSmith$Statement" "pattern" "Ljava/lang/String;" (.ref (adS q.2.1)) (adS (400 + e)) (ab_A s.heap.size) s s.heap ∧ va_OF "CodeSmith$Statement" "form" "I" (.int q.2.2.1) (adS (400 + e)) (ab_A s.heap.size) s s.heap ∧ va_OF "CodeSmith$Statement" "code" "I" (.int q.2.2.2) (adS (400 + e)) (ab_A s.heap.size) s s.heap := by
      intro e q he hq
      obtain ⟨q', hq', g3, g4, g5, g6, g7, g8, -, -⟩ := hEf e he
      rw [hq] at hq'
      cases hq'
      rw [a3 e he, a1 _ g7, a1 _ g8]
      exact ⟨vk_OFof (hadE e he) (va_eqv g3 (had _ g7).1) hA, vk_OFof (hadE e he) (va_eqv g4 (had _ g8).1) hA, vk_OFof (hadE e he) (va_eqt g5) hA, vk_OFof (hadE e he) (va_eqt g6) hA⟩
    have hlen : ab_enm.length = 83 := rfl
    have en2 : ∀ {q}, 400 ≤ k → ab_enm[k - 400]? = some q → k - 400 < 83 ∧ 400 + (k - 400) = k := fun h4 hq => ⟨by have := (List.getElem?_eq_some_iff.mp hq).1; omega, by omega⟩
    match b', hfn, hv with
    | 0, hfn, hv =>
      cases hfn
      simp only [ab_sfv] at hv
      split at hv
      · rename_i hk
        cases hv
        show va_OF "java/lang/String" "value" "[B" (.ref (adS (200 + k))) (adS k) _ _ _
        rw [a1 k hk, a2 k hk]
        exact (had k hk).2.2.2.1
      · cases hv
    | 1, hfn, hv =>
      cases hfn
      simp only [ab_sfv] at hv
      split at hv
      · rename_i hk
        cases hv
        show va_OF "java/lang/String" "coder" "B" (.int 0) (adS k) _ _ _
        rw [a1 k hk]
        exact (had k hk).2.2.1
      · cases hv
    | 2, hfn, hv =>
      cases hfn
      simp only [ab_sfv] at hv
      split at hv
      · rename_i hk
        split at hv
        · rename_i q hq
          cases hv
          obtain ⟨k1, k2⟩ := en2 hk hq
          have h9 := (hen (k - 400) q k1 hq).1
          rw [k2] at h9
          exact h9
        · cases hv
      · cases hv
    | 3, hfn, hv =>
      cases hfn
      simp only [ab_sfv] at hv
      split at hv
      · rename_i hk
        split at hv
        · rename_i q hq
          cases hv
          obtain ⟨k1, k2⟩ := en2 hk hq
          have h9 := (hen (k - 400) q k1 hq).2.1
          rw [k2] at h9
          exact h9
        · cases hv
      · cases hv
    | 4, hfn, hv =>
      cases hfn
      simp only [ab_sfv] at hv
      split at hv
      · rename_i hk
        split at hv
        · rename_i q hq
          cases hv
          obtain ⟨k1, k2⟩ := en2 hk hq
          have h9 := (hen (k - 400) q k1 hq).2.2.1
          rw [k2] at h9
          exact h9
        · cases hv
      · cases hv
    | 5, hfn, hv =>
      cases hfn
      simp only [ab_sfv] at hv
      split at hv
      · rename_i hk
        split at hv
        · rename_i q hq
          cases hv
          obtain ⟨k1, k2⟩ := en2 hk hq
          have h9 := (hen (k - 400) q k1 hq).2.2.2
          rw [k2] at h9
          exact h9
        · cases hv
      · cases hv
    | n + 6, hfn, hv => simp [ab_sfn] at hfn
  · rw [a4]
    obtain ⟨cell, q1, q2, q3, q4, q5, q6, q7⟩ := hT
    exact ⟨cell, q1, q2, q3, q4, q5, fun j hj => by show cell.slots[j]? = some (Value.ref (adS (400 + j))); rw [a3 j hj]; exact q6 j hj, q7⟩
  · intro q hq
    have h9 := List.all_eq_true.mp ab_gsn_w q hq
    simp only [Bool.and_eq_true, decide_eq_true_eq] at h9
    obtain ⟨⟨g1, g2⟩, g3⟩ := h9
    refine va_Zof (hts _ g1) (hts _ s8) ?_ hA
    have h8 := hadE (q.1 - 400) (by omega)
    rw [g3] at h8
    rw [h8, ← a3 (q.1 - 400) (by omega), show 400 + (q.1 - 400) = q.1 by omega]
  · rw [a4]
    exact va_Zof (hts _ s1) (hts _ s2) ht hA
  · refine ⟨va_Zof (hts _ s3) (hts _ s4) (va_eqt (hf _ f3)) hA, va_Zof (hts _ s11) (hts _ s12) ?_ hA⟩
    rw [hw0]
    show _ = some (bif (1 : UInt32) == 1 then (bif adS 501 == 0 then Value.null else .ref (adS 501 - 1)) else .float 1)
    rw [a6]
    rfl
  · intro q hq
    have h9 := List.all_eq_true.mp ab_srn_w q hq
    simp only [Bool.and_eq_true, decide_eq_true_eq] at h9
    obtain ⟨⟨g1, g2⟩, g3⟩ := h9
    have h8 := (had q.2.2.2 g2).1
    rw [g3] at h8
    rw [a1 _ g2]
    have hr := hts _ g1
    exact vk_R.of (A := #[Value.ref b]) hr h8
  · intro i j hi hj hij
    rw [a3 i hi, a3 j hj] at hij
    obtain ⟨_, -, -, -, -, -, -, -, o1, -⟩ := hEf i hi
    obtain ⟨_, -, -, -, -, -, -, -, o2, -⟩ := hEf j hj
    have e1 := va_eqt o1
    have e2 := va_eqt o2
    rw [va_fe (hadE i hi)] at e1
    rw [va_fe (hadE j hj)] at e2
    rw [hij, e2] at e1
    exact (ab_i32 hj hi (by injection (Option.some.inj e1))).symm
  · exact vx_Zqof (C := "java/lang/Throwable") (n := "UNASSIGNED_STACK") (d := "[Ljava/lang/StackTraceElement;") (hts _ s5) (hts _ s7) (hf _ f4) hA
  · intro w hw
    have hon : w.onTables = true := by
      simp only [ab_nwl, List.mem_cons, List.not_mem_nil, or_false] at hw
      rcases hw with rfl | rfl | rfl | rfl <;> rfl
    exact va_Nw.of hon (hts _ (of_decide_eq_true (List.all_eq_true.mp ab_nwl_w w hw)))
  · exact vx_Zqof (C := "java/lang/Throwable") (n := "SUPPRESSED_SENTINEL") (d := "Ljava/util/List;") (hts _ s6) (hts _ s7) (hf _ f5) hA
  · exact va_Nw.of rfl (hts _ s9)
  · intro q hq
    exact va_Nw.of rfl (hts _ (of_decide_eq_true (List.all_eq_true.mp ab_nst_w q hq)))
/-- the classes at the law's start -/
theorem ab_start_K {s : State} {args : Array Value} (hts : ∀ w ∈ lw_tbl, w.before args s = true) : ∃ (D : va_G) (cA : Nat → ClassId), va_K D ab_cl (ab_tys cA) s := by
  have hc : ∀ ci : Nat, ∃ q : ClassId × (Nat → Nat), ∀ C : vw_C, ab_cl[ci]? = some C → u_Kn s C.1 C.2.1 C.2.2 q.1 q.2 := by
    intro ci
    cases hC : ab_cl[ci]? with
    | none => exact ⟨(0, fun _ => 0), fun C h => by cases h⟩
    | some C =>
      have hin := ab_cl_in hC
      by_cases h7 : ci < 7
      · obtain ⟨c0, i0, h0⟩ := u_known (n := C.2.2) hts (fun w hw => ab_T_tbl w (hin w hw)) (hts _ (ab_T_tbl _ (ab_cl_ins h7 hC).1))
        exact ⟨(c0, i0), fun C' h => by cases h; exact h0⟩
      · have h8 : ci = 7 := by
          have : ci < 8 := (List.getElem?_eq_some_iff.mp hC).1
          omega
        subst h8
        cases hC
        obtain ⟨c0, i0, h0⟩ := u_known (C := "java/lang/IllegalArgumentException") (T := ab_TE) (N := 0) (n := 6) hts (fun w hw => ab_T_tbl w (hin w hw)) (hts _ ab_stw.2.2.2.2.2.2.2.2.2.1)
        exact ⟨(c0, i0), fun C' h => by cases h; exact h0⟩
  obtain ⟨q, hq⟩ := Classical.axiomOfChoice hc
  have ha : ∀ ty : FieldType, Cond.arrayClass ty ∈ lw_tbl → ∃ c, s.vm.findClass ("[" ++ ty.toString) = some c ∧ ArrOfT s c ty := by
    intro ty hty
    obtain ⟨c, k, comp, h1, h2, h3⟩ := Cond.arrayClass_spec (args := args) (first := s) (o := none) (s := s) (idx := []) (hts _ hty)
    exact ⟨c, h1, fun n z => ⟨fun k9 h9 => (by cases h9), k, h2, comp, h3⟩⟩
  obtain ⟨c0, g1, g2⟩ := ha .byte ab_arrw.1
  obtain ⟨c1, g3, g4⟩ := ha .int ab_arrw.2.1
  obtain ⟨c2, g5, g6⟩ := ha .long ab_arrw.2.2
  refine ⟨(fun c => (q c).1, fun c => (q c).2), fun t => if t = 0 then c0 else if t = 1 then c1 else c2, fun c C h => hq c C h, fun k y hk => ?_⟩
  match k, hk with
  | 0, hk => cases hk; exact ⟨g2, g1⟩
  | 1, hk => cases hk; exact ⟨g4, g3⟩
  | 2, hk => cases hk; exact ⟨g6, g5⟩
  | n + 3, hk => simp at hk
