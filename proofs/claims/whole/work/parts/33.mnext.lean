/-! THE REFERENCE's next(), whole. -/
section MN
variable {m : mS} {B : Nat → Nat} {z p : Nat} {tk9 st vl fl mn : Int32} {str : Nat → Int32}
theorem m_letter (T : TX m B z) (hp : p < 700000) : ∃ v, f126 (mx m (nn p) tk9 st 0 (-1) mn str) = some (mx m (nn (p + 1 + wid B z (p + 1) + 1)) tk9 st v (if mean B z 39 (p + 1) = 999 then nn (p + wid B z (p + 1)) else if gb B z (p + 1 + wid B z (p + 1)) = 39 then -1 else nn (p + 1 + wid B z (p + 1))) mn str) ∧ (¬ mean B z 39 (p + 1) = 999 → v = nn (mean B z 39 (p + 1))) := by
  obtain ⟨v, h1, h2⟩ := m_char (tk := tk9) (st := st) (vl := 0) (mn := mn) (str := str) T (p := p + 1) (by omega) (q := 39) (by decide)
  refine ⟨v, ?_, h2⟩
  have hw : wid B z (p + 1) ≤ 2 := by unfold wid; by_cases h : gb B z (p + 1) = 92 <;> simp [h]
  have hg := gb_lt T.2.2.1 z (p + 1 + wid B z (p + 1))
  have e1 : p + 1 + wid B z (p + 1) - 1 = p + wid B z (p + 1) := by omega
  rw [e1] at h1
  have e39 : (39 : Int32) = nn 39 := rfl
  unfold f126
  rw [mx_p, mx_18, nn_add1, e39, h1, Option.bind_some, mx_22, m_h0 T (by omega), Option.bind_some, q_eq (x := nn 39) (k := 39) rfl hg (by decide)]
  unfold f126_38
  by_cases hm : mean B z 39 (p + 1) = 999
  · rw [if_pos hm, if_pos hm]
    by_cases h3 : gb B z (p + 1 + wid B z (p + 1)) = 39
    · rw [if_pos h3, mx_p, mx_18, nn_add1]
    · rw [if_neg h3, mx_p, m_flawd (w := 0) (by omega), Option.bind_some, mx_p, mx_18, nn_add1]
  · rw [if_neg hm, if_neg hm]
    by_cases h3 : gb B z (p + 1 + wid B z (p + 1)) = 39
    · rw [if_pos h3, if_pos h3, mx_p, mx_18, nn_add1]
    · rw [if_neg h3, if_neg h3, mx_p, m_flaw, Option.bind_some, mx_p, mx_18, nn_add1]
theorem i8_small {v : Nat} (h : v < 128) : (nn v).toInt8.toInt32.toInt8.toInt32 = nn v := by
  have key : ∀ v : Nat, v < 128 → (nn v).toInt8.toInt32.toInt8.toInt32 = nn v := by decide +kernel
  exact key v h
theorem m_str34 (T : TX m B z) {u : Nat} (hp : p < 700000) (h : gb B z p = 34) : f128_15 (u + 1) (mx m (nn p) tk9 st vl (-1) mn str) = some (mx m (nn (p + 1)) tk9 st vl (-1) mn str) := by
  have hg := gb_lt T.2.2.1 z p
  rw [f128_15, mx_fl, if_neg (by decide), m_h0 T (by omega), Option.bind_some, q_eq (x := 34) (k := 34) rfl hg (by decide), if_pos h]
  unfold f128_61
  rw [mx_p, mx_18, nn_add1]
theorem m_strbad (T : TX m B z) {u j : Nat} (hp : p < 700000) (h : ¬ gb B z p = 34) (hm : mean B z 34 p = 999) (hj : j < 65536) : ∃ mn' str', f128_15 (u + 2) (mx m (nn p) tk9 st vl (-1) (nn j) str) = some (mx m (nn (p + wid B z p + 1)) tk9 st vl (nn (p + wid B z p - 1)) mn' str') := by
  have hg := gb_lt T.2.2.1 z p
  have hw : wid B z p ≤ 2 := by unfold wid; by_cases h : gb B z p = 92 <;> simp [h]
  obtain ⟨v, h1, h2⟩ := m_char (tk := tk9) (st := st) (vl := vl) (mn := nn j) (str := str) T (p := p) (by omega) (q := 34) (by decide)
  have e34 : (34 : Int32) = nn 34 := rfl
  refine ⟨nn (j + 1), upd str j v.toInt8.toInt32.toInt8.toInt32, ?_⟩
  rw [f128_15, mx_fl, if_neg (by decide), m_h0 T (by omega), Option.bind_some, q_eq (x := 34) (k := 34) rfl hg (by decide), if_neg h, e34, h1, Option.bind_some, mx_mn, if_pos ((nn_ib (by omega)).mpr hj), mx_25, mx_mn, mx_24, nn_tn (by omega), nn_add1, if_pos hm, f128_15, mx_fl, if_pos (nn_pos (by omega))]
  unfold f128_61
  rw [mx_p, mx_18, nn_add1]
theorem m_strloop (T : TX m B z) : ∀ (k u p j : Nat) (str : Nat → Int32), z - p ≤ k → k + 2 < u → p ≤ z → j + 1 ≤ p →
    (gb B z (strE B z k p) = 34 → ∃ str', f128_15 u (mx m (nn p) tk9 st vl (-1) (nn j) str) = some (mx m (nn (strE B z k p + 1)) tk9 st vl (-1) (nn (j + (strL B z k p).length)) str') ∧ (∀ i, i < j → str' i = str i) ∧ ∀ i, i < (strL B z k p).length → str' (j + i) = nn ((strL B z k p).getD i 0)) ∧
    (¬ gb B z (strE B z k p) = 34 → ∃ mn' str', f128_15 u (mx m (nn p) tk9 st vl (-1) (nn j) str) = some (mx m (nn (strE B z k p + wid B z (strE B z k p) + 1)) tk9 st vl (nn (strE B z k p + wid B z (strE B z k p) - 1)) mn' str')) := by
  have hz := T.2.1
  intro k
  induction k with
  | zero =>
    intro u p j str h1 h2 h3 h4
    have e : strE B z 0 p = p := rfl
    have hg : gb B z p = 0 := gb_out (by omega)
    rw [e]
    refine ⟨fun hh => by omega, fun hh => ?_⟩
    have eu : u = (u - 2) + 2 := by omega
    rw [eu]
    exact m_strbad T (by omega) hh (mean_out (by omega)) (by omega)
  | succ k ih =>
    intro u p j str h1 h2 h3 h4
    have eu : u = (u - 2) + 2 := by omega
    by_cases hm : mean B z 34 p = 999
    · have e : strE B z (k + 1) p = p := by rw [strE, if_pos hm]
      have e2 : strL B z (k + 1) p = [] := by rw [strL, if_pos hm]
      rw [e, e2]
      refine ⟨fun hh => ⟨str, ?_, fun i _ => rfl, fun i hi => by simp at hi⟩, fun hh => ?_⟩
      · have eu : u = (u - 1) + 1 := by omega
        rw [eu, m_str34 T (by omega) hh]
        rfl
      · rw [eu]
        exact m_strbad T (by omega) hh hm (by omega)
    · have e : strE B z (k + 1) p = strE B z k (p + wid B z p) := by rw [strE, if_neg hm]
      have e2 : strL B z (k + 1) p = mean B z 34 p :: strL B z k (p + wid B z p) := by rw [strL, if_neg hm]
      have hpz : p < z := Nat.lt_of_not_le (fun hh => hm (mean_out hh))
      have hg := gb_lt T.2.2.1 z p
      have hn34 : ¬ gb B z p = 34 := by
        intro hh
        apply hm
        unfold mean
        rw [hh]
        rfl
      have hw : 1 ≤ wid B z p ∧ p + wid B z p ≤ z := by
        unfold wid
        by_cases h92 : gb B z p = 92
        · rw [if_pos h92]
          refine ⟨by omega, ?_⟩
          refine Nat.lt_of_not_le (fun hh => hm ?_)
          unfold mean
          rw [if_pos h92, gb_out (by omega)]
          rfl
        · rw [if_neg h92]; omega
      obtain ⟨v, c1, c2⟩ := m_char (tk := tk9) (st := st) (vl := vl) (mn := nn j) (str := str) T (p := p) (by omega) (q := 34) (by decide)
      have hv := c2 hm
      rw [if_neg hm] at c1
      have e34 : (34 : Int32) = nn 34 := rfl
      have hsm : mean B z 34 p < 128 := by
        rcases mean_or B z 34 p with hh | hh
        · exact absurd hh hm
        · exact hh
      have step : f128_15 u (mx m (nn p) tk9 st vl (-1) (nn j) str) = f128_15 (u - 1) (mx m (nn (p + wid B z p)) tk9 st vl (-1) (nn (j + 1)) (upd str j (nn (mean B z 34 p)))) := by
        have eu : u = (u - 1) + 1 := by omega
        conv => lhs; rw [eu]
        rw [f128_15, mx_fl, if_neg (by decide), m_h0 T (by omega), Option.bind_some, q_eq (x := 34) (k := 34) rfl hg (by decide), if_neg hn34, e34, c1, Option.bind_some, mx_mn, if_pos ((nn_ib (by omega)).mpr (by omega)), mx_25, mx_mn, mx_24, nn_tn (by omega), nn_add1, hv, i8_small hsm]
      obtain ⟨i1, i2⟩ := ih (u - 1) (p + wid B z p) (j + 1) (upd str j (nn (mean B z 34 p))) (by omega) (by omega) hw.2 (by omega)
      rw [e, e2, step]
      refine ⟨fun hh => ?_, i2⟩
      obtain ⟨str', a1, a2, a3⟩ := i1 hh
      refine ⟨str', ?_, ?_, ?_⟩
      · rw [a1, List.length_cons]
        have : j + 1 + (strL B z k (p + wid B z p)).length = j + ((strL B z k (p + wid B z p)).length + 1) := by omega
        rw [this]
      · intro i hi
        rw [a2 i (by omega)]
        unfold upd
        rw [if_neg (by omega)]
      · intro i hi
        cases i with
        | zero =>
          rw [Nat.add_zero, a2 j (by omega)]
          unfold upd
          rw [if_pos rfl]
          rfl
        | succ i =>
          have : j + (i + 1) = j + 1 + i := by omega
          rw [this, a3 i (by simpa using hi)]
          rfl
theorem m_sign0 {s : mS} {b : Nat} (hb : b < 256) : f129 s (nn b) = if sgn b = true then f129_89 (mg s 22 (nn b)) (nn b) else f129_94 (mg s 22 (nn b)) (nn b) 0 := by
  unfold f129
  rw [q_eq (x := 44) (k := 44) rfl hb (by decide), q_eq (x := 58) (k := 58) rfl hb (by decide), q_eq (x := 40) (k := 40) rfl hb (by decide), q_eq (x := 41) (k := 41) rfl hb (by decide), q_eq (x := 43) (k := 43) rfl hb (by decide), q_eq (x := 45) (k := 45) rfl hb (by decide), q_eq (x := 42) (k := 42) rfl hb (by decide), q_eq (x := 47) (k := 47) rfl hb (by decide), q_eq (x := 37) (k := 37) rfl hb (by decide), q_eq (x := 38) (k := 38) rfl hb (by decide), q_eq (x := 124) (k := 124) rfl hb (by decide), q_eq (x := 94) (k := 94) rfl hb (by decide), q_eq (x := 126) (k := 126) rfl hb (by decide), q_eq (x := 46) (k := 46) rfl hb (by decide)]
  unfold sgn
  simp only [decide_eq_true_eq]
  by_cases h1 : b = 44
  · rw [if_pos h1, if_pos (by omega)]
  rw [if_neg h1]
  by_cases h2 : b = 58
  · rw [if_pos h2, if_pos (by omega)]
  rw [if_neg h2]
  by_cases h3 : b = 40
  · rw [if_pos h3, if_pos (by omega)]
  rw [if_neg h3]
  by_cases h4 : b = 41
  · rw [if_pos h4, if_pos (by omega)]
  rw [if_neg h4]
  by_cases h5 : b = 43
  · rw [if_pos h5, if_pos (by omega)]
  rw [if_neg h5]
  by_cases h6 : b = 45
  · rw [if_pos h6, if_pos (by omega)]
  rw [if_neg h6]
  by_cases h7 : b = 42
  · rw [if_pos h7, if_pos (by omega)]
  rw [if_neg h7]
  by_cases h8 : b = 47
  · rw [if_pos h8, if_pos (by omega)]
  rw [if_neg h8]
  by_cases h9 : b = 37
  · rw [if_pos h9, if_pos (by omega)]
  rw [if_neg h9]
  by_cases h10 : b = 38
  · rw [if_pos h10, if_pos (by omega)]
  rw [if_neg h10]
  by_cases h11 : b = 124
  · rw [if_pos h11, if_pos (by omega)]
  rw [if_neg h11]
  by_cases h12 : b = 94
  · rw [if_pos h12, if_pos (by omega)]
  rw [if_neg h12]
  by_cases h13 : b = 126
  · rw [if_pos h13, if_pos (by omega)]
  rw [if_neg h13]
  by_cases h14 : b = 46
  · rw [if_pos h14, if_pos (by omega)]
  rw [if_neg h14, if_neg (by omega)]
theorem sgn_no {b : Nat} (h : sgn b = true) : ¬ b = 60 ∧ ¬ b = 62 := by
  unfold sgn at h
  simp only [decide_eq_true_eq] at h
  omega
theorem m_sign (T : TX m B z) (hp : p < 700000) : f129 (mx m (nn p) tk9 (nn p) 0 (-1) mn str) (nn (gb B z p)) = some (if gb B z p = 60 ∨ gb B z p = 62 then mx m (nn (p + 2)) tk9 (nn p) (nn (gb B z p)) (if gb B z (p + 1) = gb B z p then -1 else nn (p + 1)) mn str else mx m (nn (p + 1)) tk9 (nn p) (nn (gb B z p)) (if sgn (gb B z p) = true then -1 else nn p) mn str) := by
  have hg := gb_lt T.2.2.1 z p
  have hg1 := gb_lt T.2.2.1 z (p + 1)
  have e0 : ∀ q : Nat, nn q + 0 = nn q := fun q => nn_add q 0
  rw [m_sign0 hg, mx_22]
  have fin : ∀ fl, f129_139 (mx m (nn (p + 1)) tk9 (nn p) (nn (gb B z p)) fl mn str) (nn (gb B z p)) 0 = some (mx m (nn (p + 1)) tk9 (nn p) (nn (gb B z p)) fl mn str) := by
    intro fl
    unfold f129_139 f129_160 f129_174
    rw [if_pos rfl, if_pos rfl, mx_p, mx_18, e0]
  by_cases hs : sgn (gb B z p) = true
  · have hn := sgn_no hs
    rw [if_pos hs, if_pos hs, if_neg (by omega)]
    unfold f129_89 f129_94 f129_112
    rw [q_eq (x := 60) (k := 60) rfl hg (by decide), if_neg hn.1, q_eq (x := 62) (k := 62) rfl hg (by decide), if_neg hn.2, if_neg (by decide), mx_p, mx_18, nn_add1, fin]
  · rw [if_neg hs, if_neg hs]
    unfold f129_94 f129_107
    rw [q_eq (x := 60) (k := 60) rfl hg (by decide), q_eq (x := 62) (k := 62) rfl hg (by decide)]
    have two : f129_112 (mx m (nn p) tk9 (nn p) (nn (gb B z p)) (-1) mn str) (nn (gb B z p)) 0 1 = some (mx m (nn (p + 2)) tk9 (nn p) (nn (gb B z p)) (if gb B z (p + 1) = gb B z p then -1 else nn (p + 1)) mn str) := by
      unfold f129_112 f129_139 f129_160 f129_174
      have e2 : p + 1 + 1 = p + 2 := by omega
      rw [if_pos rfl, if_neg (by decide), if_neg (by decide), mx_p, mx_18, nn_add1, m_h0 T (by omega), Option.bind_some, q_eq (x := nn (gb B z p)) (k := gb B z p) rfl hg1 hg]
      by_cases h2 : gb B z (p + 1) = gb B z p
      · rw [if_pos h2, if_pos h2, if_neg (by decide), mx_p, mx_18, nn_add1, e2]
      · rw [if_neg h2, if_neg h2, mx_p, m_flaw, Option.bind_some, if_neg (by decide), mx_p, mx_18, nn_add1, e2]
    by_cases h60 : gb B z p = 60
    · rw [if_pos h60, if_pos (Or.inl h60), two]
    · rw [if_neg h60]
      by_cases h62 : gb B z p = 62
      · rw [if_pos h62, if_pos (Or.inr h62), two]
      · rw [if_neg h62, if_neg (by omega)]
        unfold f129_112
        rw [if_pos rfl, if_pos rfl, mx_p, mx_18, mx_st, nn_add1, m_flaw, Option.bind_some, fin]
end MN
