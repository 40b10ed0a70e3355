/-! THE REFERENCE's next() lays the token tk. -/
def tcode (k : Nat) : Int32 := if k = 0 then 0 else if k = 1 then 1 else if k = 2 then 2 else if k = 3 then 3 else 4
def tflaw (t : Tk) : Int32 := if t.1 = 4 then nn t.2.1 else match t.2.2.2.2 with
  | some w => nn w
  | none => -1
/-- what the reference's value, many and string hold beside a token -/
def tvm (B : Nat → Nat) (z : Nat) (t : Tk) (vl mn : Int32) (str : Nat → Int32) : Prop :=
  (t.1 = 2 → t.2.2.2.2 = none → vl = t.2.2.1) ∧ (4 < t.1 → vl = nn t.1) ∧ (t.1 = 4 → vl = nn (gb B z t.2.1) ∧ sgn (gb B z t.2.1) = false ∧ ¬ gb B z t.2.1 = 60 ∧ ¬ gb B z t.2.1 = 62) ∧
  (t.1 = 3 → t.2.2.2.2 = none → mn = nn (strL B z (z - t.2.1) (t.2.1 + 1)).length ∧ ∀ i, i < (strL B z (z - t.2.1) (t.2.1 + 1)).length → str i = nn ((strL B z (z - t.2.1) (t.2.1 + 1)).getD i 0))
section MO
variable {m : mS} {B : Nat → Nat} {z p : Nat} {t tk9 P st vl fl mn x : Int32} {str : Nat → Int32}
theorem t_106 (ht : ¬ t = 1) : f117_106 (mx m P tk9 st vl fl mn str) x t = f117_174 (mx m P t st vl fl mn str) x := by
  unfold f117_106
  rw [show mm_U = 199999 + 1 from rfl, f117_109, mx_20, mx_tk, if_neg ht]
  unfold f117_141
  rw [mx_tk, if_neg ht]
theorem t_195 (h3 : ¬ t = 3) (h4 : ¬ t = 4) : f117_195 (mx m P t st vl fl mn str) x = some (mx m P t st vl fl mn str) := by
  unfold f117_195 f117_207
  rw [mx_tk, if_neg h3, if_neg h4]
theorem t_174 {g : Nat} (hg : g < 256) (hd : ¬ isD g = true) (h39 : ¬ g = 39) : f117_174 (mx m P t st vl fl mn str) (nn g) = f117_195 (mx m P t st vl fl mn str) (nn g) := by
  unfold f117_174 f117_185
  rw [q_b (ch_digit hg), if_neg hd, q_eq (x := 39) (k := 39) rfl hg (by decide), if_neg h39]
theorem isB_not {g : Nat} (h : isB g = true) : ¬ isD g = true ∧ ¬ g = 39 := by
  unfold isB at h
  unfold isD
  simp only [decide_eq_true_eq] at h ⊢
  omega
theorem isD_not {g : Nat} (h : isD g = true) : ¬ g = 39 ∧ ¬ g = 34 ∧ ¬ g = 60 ∧ ¬ g = 62 := by
  unfold isD at h
  simp only [decide_eq_true_eq] at h
  omega
theorem m_next (T : TX m B z) (hp : m.1 18 = nn p) (hb : p < 600000) : ∃ vl mn str, f117 m = some (mx m (nn (tk B z p).2.2.2.1) (tcode (tk B z p).1) (nn (tk B z p).2.1) vl (tflaw (tk B z p)) mn str) ∧ tvm B z (tk B z p) vl mn str := by
  have hz := T.2.1
  have hU : (200000 : Nat) = mm_U := rfl
  have hq : sk B z p < 700000 := by
    by_cases h : p ≤ z
    · have := scan_le (P := fun i => blk (B i)) h
      unfold sk; omega
    · unfold sk; rw [scan_end (by omega)]; omega
  have e1 : f118 m = some (mx m (nn (sk B z p)) (m.1 20) (m.1 21) (m.1 22) (m.1 23) (m.1 24) (m.2 25)) := by
    unfold f118
    conv => lhs; rw [← mx_id (m := m), hp]
    exact m_blanks T mm_U p (by rw [← hU]; omega) (by omega)
  have hg := gb_lt T.2.2.1 z (sk B z p)
  unfold f117
  rw [e1, Option.bind_some, mx_p, mx_21, mx_22, mx_23, m_h0 T (by omega), Option.bind_some, mx_to, T.1]
  unfold tk
  generalize sk B z p = q at hq hg
  by_cases hend : q = z ∨ gb B z q = 35
  · rw [if_pos hend]
    have hgn : ¬ isD (gb B z q) = true ∧ ¬ gb B z q = 39 := by
      rcases hend with h | h
      · rw [gb_out (by omega)]; decide
      · rw [h]; decide
    have e2 : f117_46 (mx m (nn q) (m.1 20) (nn q) 0 (-1) (m.1 24) (m.2 25)) (nn (gb B z q)) = some (mx m (nn q) 0 (nn q) 0 (-1) (m.1 24) (m.2 25)) := by
      unfold f117_46
      rw [t_106 (by decide), t_174 hg hgn.1 hgn.2, t_195 (by decide) (by decide)]
    refine ⟨0, m.1 24, m.2 25, ?_, ?_⟩
    · by_cases hqz : q = z
      · rw [if_pos (by rw [hqz]), e2]; rfl
      · rw [if_neg (fun hh => hqz ((nn_eq (by omega) (by omega)).mp hh)), q_eq (x := 35) (k := 35) rfl hg (by decide), if_pos (by omega), e2]; rfl
    · exact ⟨fun h => absurd h (by show ¬ (0 = 2); omega), fun h => absurd h (by show ¬ (4 < 0); omega), fun h => absurd h (by show ¬ (0 = 4); omega), fun h => absurd h (by show ¬ (0 = 3); omega)⟩
  rw [if_neg hend, if_neg (fun hh => hend (Or.inl ((nn_eq (by omega) (by omega)).mp hh))), q_eq (x := 35) (k := 35) rfl hg (by decide), if_neg (fun hh => hend (Or.inr hh))]
  have hg1 := gb_lt T.2.2.1 z (q + 1)
  rw [q_b (ch_begins hg), q_eq (x := 46) (k := 46) rfl hg (by decide), m_h1 T (by omega), Option.bind_some, q_b (ch_name hg1)]
  unfold lx
  by_cases hname : isB (gb B z q) = true ∧ (¬ gb B z q = 46 ∨ isN (gb B z (q + 1)) = true)
  · -- a name
    rw [if_pos hname, if_pos hname.1]
    have hn := isB_not hname.1
    have e2 : f117_74 (mx m (nn q) (m.1 20) (nn q) 0 (-1) (m.1 24) (m.2 25)) (nn (gb B z q)) = some (mx m (nn (scan (fun i => isN (B i)) z q)) 1 (nn q) 0 (if 32 < scan (fun i => isN (B i)) z q - q then nn (q + 32) else -1) (m.1 24) (m.2 25)) := by
      have hge := scan_ge (fun i => isN (B i)) z q
      have hle : scan (fun i => isN (B i)) z q < 800000 := by
        by_cases h : q ≤ z
        · have := scan_le (P := fun i => isN (B i)) h; omega
        · rw [scan_end (by omega)]; omega
      have e32 : (32 : Int32) = nn 32 := rfl
      unfold f117_74 f117_106
      rw [mx_20, m_nameloop T _ mm_U q (by rw [← hU]; omega) (by omega)]
      unfold f117_141
      rw [mx_tk, if_pos rfl, mx_p, mx_st, nn_sub hge, e32, nn_add]
      by_cases h32 : scan (fun i => isN (B i)) z q - q ≤ 32
      · rw [if_pos ((nn_le (by omega) (by omega)).mpr h32), t_174 hg hn.1 hn.2, t_195 (by decide) (by decide), if_neg (by omega)]
      · rw [if_neg (fun hh => h32 ((nn_le (by omega) (by omega)).mp hh)), m_flaw, Option.bind_some, t_174 hg hn.1 hn.2, t_195 (by decide) (by decide), if_pos (by omega)]
    refine ⟨0, m.1 24, m.2 25, ?_, ?_⟩
    · have e3 : ∀ A, (if gb B z q = 46 then (if isN (gb B z (q + 1)) = true then f117_74 (mx m (nn q) (m.1 20) (nn q) 0 (-1) (m.1 24) (m.2 25)) (nn (gb B z q)) else A) else f117_74 (mx m (nn q) (m.1 20) (nn q) 0 (-1) (m.1 24) (m.2 25)) (nn (gb B z q))) = f117_74 (mx m (nn q) (m.1 20) (nn q) 0 (-1) (m.1 24) (m.2 25)) (nn (gb B z q)) := by
        intro A
        by_cases h46 : gb B z q = 46
        · rw [if_pos h46, if_pos (by rcases hname.2 with h | h; exact absurd h46 h; exact h)]
        · rw [if_neg h46]
      rw [e3, e2]
      by_cases h32 : 32 < scan (fun i => isN (B i)) z q - q
      · simp only [if_pos h32]; rfl
      · simp only [if_neg h32]; rfl
    · exact ⟨fun h => absurd h (by show ¬ (1 = 2); omega), fun h => absurd h (by show ¬ (4 < 1); omega), fun h => absurd h (by show ¬ (1 = 4); omega), fun h => absurd h (by show ¬ (1 = 3); omega)⟩
  rw [if_neg hname]
  have e4 : (if isB (gb B z q) = true then (if gb B z q = 46 then (if isN (gb B z (q + 1)) = true then f117_74 (mx m (nn q) (m.1 20) (nn q) 0 (-1) (m.1 24) (m.2 25)) (nn (gb B z q)) else f117_78 (mx m (nn q) (m.1 20) (nn q) 0 (-1) (m.1 24) (m.2 25)) (nn (gb B z q))) else f117_74 (mx m (nn q) (m.1 20) (nn q) 0 (-1) (m.1 24) (m.2 25)) (nn (gb B z q))) else f117_78 (mx m (nn q) (m.1 20) (nn q) 0 (-1) (m.1 24) (m.2 25)) (nn (gb B z q))) = f117_78 (mx m (nn q) (m.1 20) (nn q) 0 (-1) (m.1 24) (m.2 25)) (nn (gb B z q)) := by
    by_cases hB : isB (gb B z q) = true
    · rw [if_pos hB]
      have h46 : gb B z q = 46 := Decidable.byContradiction (fun h => hname ⟨hB, Or.inl h⟩)
      rw [if_pos h46, if_neg (fun h => hname ⟨hB, Or.inr h⟩)]
    · rw [if_neg hB]
  rw [e4]
  unfold f117_78 f117_91
  rw [q_b (ch_digit hg), q_eq (x := 39) (k := 39) rfl hg (by decide), q_eq (x := 34) (k := 34) rfl hg (by decide)]
  by_cases hd : isD (gb B z q) = true
  · -- a number of digits
    have hn := isD_not hd
    rw [if_pos hd, if_pos hd, t_106 (by decide)]
    unfold f117_174 f117_185
    rw [q_b (ch_digit hg), if_pos hd, m_number T (by omega) hd, Option.bind_some, q_eq (x := 39) (k := 39) rfl hg (by decide), if_neg hn.1]
    by_cases hx : gb B z q = 48 ∧ gb B z (q + 1) = 120
    · rw [if_pos hx, if_pos hx, t_195 (by decide) (by decide)]
      refine ⟨hexV B (scan (fun i => isH (B i)) z (q + 2) - (q + 2)) (q + 2) 0, m.1 24, m.2 25, ?_, fun _ _ => rfl, fun h => absurd h (by show ¬ (4 < 2); omega), fun h => absurd h (by show ¬ (2 = 4); omega), fun h => absurd h (by show ¬ (2 = 3); omega)⟩
      by_cases h32 : scan (fun i => isH (B i)) z (q + 2) = q + 2
      · simp only [if_pos h32]; rfl
      · simp only [if_neg h32]; rfl
    · rw [if_neg hx, if_neg hx, t_195 (by decide) (by decide)]
      exact ⟨_, _, _, rfl, fun _ _ => rfl, fun h => absurd h (by show ¬ (4 < 2); omega), fun h => absurd h (by show ¬ (2 = 4); omega), fun h => absurd h (by show ¬ (2 = 3); omega)⟩
  rw [if_neg hd, if_neg hd]
  by_cases h39 : gb B z q = 39
  · -- a character
    rw [if_pos h39, if_pos h39, t_106 (by decide)]
    unfold f117_174 f117_185
    obtain ⟨v, l1, l2⟩ := m_letter (tk9 := 2) (st := nn q) (mn := m.1 24) (str := m.2 25) T (p := q) (by omega)
    rw [q_b (ch_digit hg), if_neg hd, q_eq (x := 39) (k := 39) rfl hg (by decide), if_pos h39, l1, Option.bind_some, t_195 (by decide) (by decide)]
    refine ⟨v, m.1 24, m.2 25, ?_, ?_, fun h => absurd h (by show ¬ (4 < 2); omega), fun h => absurd h (by show ¬ (2 = 4); omega), fun h => absurd h (by show ¬ (2 = 3); omega)⟩
    · by_cases hm : mean B z 39 (q + 1) = 999
      · simp only [if_pos hm]; rfl
      · simp only [if_neg hm]
        by_cases hc : gb B z (q + 1 + wid B z (q + 1)) = 39
        · simp only [if_pos hc]; rfl
        · simp only [if_neg hc]; rfl
    · intro _ hf
      by_cases hm : mean B z 39 (q + 1) = 999
      · simp only [if_pos hm, reduceCtorEq] at hf
      · simp only [if_neg hm]
        exact l2 hm
  rw [if_neg h39, if_neg h39]
  by_cases h34 : gb B z q = 34
  · -- a string
    rw [if_pos h34, if_pos h34, t_106 (by decide), t_174 hg hd h39]
    have hqz : q < z := Nat.lt_of_not_le (fun hh => by rw [gb_out hh] at h34; omega)
    unfold f117_195 f128
    rw [mx_tk, if_pos rfl, mx_24, mx_p, mx_18, nn_add1]
    have e00 : (0 : Int32) = nn 0 := rfl
    obtain ⟨s1, s2⟩ := m_strloop (tk9 := 3) (st := nn q) (vl := 0) T (z - q) mm_U (q + 1) 0 (m.2 25) (by omega) (by rw [← hU]; omega) (by omega) (by omega)
    by_cases hc : gb B z (strE B z (z - q) (q + 1)) = 34
    · obtain ⟨str', a1, a2, a3⟩ := s1 hc
      have a1' : f128_15 mm_U (mx m (nn (q + 1)) 3 (nn q) 0 (-1) 0 (m.2 25)) = some (mx m (nn (strE B z (z - q) (q + 1) + 1)) 3 (nn q) 0 (-1) (nn (strL B z (z - q) (q + 1)).length) str') := by
        have := a1
        rw [Nat.zero_add] at this
        exact this
      rw [a1', Option.bind_some]
      unfold f117_207
      rw [mx_tk, if_neg (by decide)]
      refine ⟨0, nn (strL B z (z - q) (q + 1)).length, str', ?_, fun h => absurd h (by show ¬ (3 = 2); omega), fun h => absurd h (by show ¬ (4 < 3); omega), fun h => absurd h (by show ¬ (3 = 4); omega), fun _ _ => ⟨rfl, fun i hi => ?_⟩⟩
      · simp only [if_pos hc]; rfl
      · have := a3 i hi
        rw [Nat.zero_add] at this
        exact this
    · obtain ⟨mn', str', a1⟩ := s2 hc
      have a1' : f128_15 mm_U (mx m (nn (q + 1)) 3 (nn q) 0 (-1) 0 (m.2 25)) = some (mx m (nn (strE B z (z - q) (q + 1) + wid B z (strE B z (z - q) (q + 1)) + 1)) 3 (nn q) 0 (nn (strE B z (z - q) (q + 1) + wid B z (strE B z (z - q) (q + 1)) - 1)) mn' str') := a1
      rw [a1', Option.bind_some]
      unfold f117_207
      rw [mx_tk, if_neg (by decide)]
      refine ⟨0, mn', str', ?_, fun h => absurd h (by show ¬ (3 = 2); omega), fun h => absurd h (by show ¬ (4 < 3); omega), fun h => absurd h (by show ¬ (3 = 4); omega), fun _ hf => ?_⟩
      · simp only [if_neg hc]; rfl
      · simp only [if_neg hc, reduceCtorEq] at hf
  rw [if_neg h34, if_neg h34, t_106 (by decide), t_174 hg hd h39]
  unfold f117_195 f117_207
  rw [mx_tk, if_neg (by decide), if_pos rfl, m_sign T (by omega), Option.bind_some]
  by_cases h60 : gb B z q = 60 ∨ gb B z q = 62
  · rw [if_pos h60, if_pos h60]
    have hk : 4 < gb B z q := by omega
    refine ⟨nn (gb B z q), m.1 24, m.2 25, ?_, fun h => absurd h (by show ¬ (gb B z q = 2); omega), fun _ => rfl, fun h => absurd h (by show ¬ (gb B z q = 4); omega), fun h => absurd h (by show ¬ (gb B z q = 3); omega)⟩
    have et : tcode (gb B z q) = 4 := by unfold tcode; rw [if_neg (by omega), if_neg (by omega), if_neg (by omega), if_neg (by omega)]
    by_cases hc : gb B z (q + 1) = gb B z q
    · simp only [if_pos hc, et, tflaw, if_neg (show ¬ gb B z q = 4 by omega)]
    · simp only [if_neg hc, et, tflaw, if_neg (show ¬ gb B z q = 4 by omega)]
  rw [if_neg h60, if_neg h60]
  by_cases hs : sgn (gb B z q) = true
  · rw [if_pos hs, if_pos hs]
    have hk : 4 < gb B z q := by
      unfold sgn at hs
      simp only [decide_eq_true_eq] at hs
      omega
    refine ⟨nn (gb B z q), m.1 24, m.2 25, ?_, fun h => absurd h (by show ¬ (gb B z q = 2); omega), fun _ => rfl, fun h => absurd h (by show ¬ (gb B z q = 4); omega), fun h => absurd h (by show ¬ (gb B z q = 3); omega)⟩
    have et : tcode (gb B z q) = 4 := by unfold tcode; rw [if_neg (by omega), if_neg (by omega), if_neg (by omega), if_neg (by omega)]
    simp only [et, tflaw, if_neg (show ¬ gb B z q = 4 by omega)]
  · rw [if_neg hs, if_neg hs]
    exact ⟨_, _, _, rfl, fun h => absurd h (by show ¬ (4 = 2); omega), fun h => absurd h (by show ¬ (4 < 4); omega), fun _ => ⟨rfl, by simpa using hs, fun h => h60 (Or.inl h), fun h => h60 (Or.inr h)⟩, fun h => absurd h (by show ¬ (4 = 3); omega)⟩
end MO
