/-! THE REFERENCE's next(): it lays the token tk of the text into its fields. -/
section ML
variable {m : mS} {B : Nat → Nat} {z p : Nat} {tk st vl fl mn : Int32} {str : Nat → Int32}
theorem m_h0 (T : TX m B z) (hp : p < 999000) : f119 (mx m (nn p) tk st vl fl mn str) 0 = some (nn (gb B z p)) := m_here (m := mx m (nn p) tk st vl fl mn str) T 0 rfl (by omega)
theorem m_h1 (T : TX m B z) (hp : p < 999000) : f119 (mx m (nn p) tk st vl fl mn str) 1 = some (nn (gb B z (p + 1))) := m_here (m := mx m (nn p) tk st vl fl mn str) T 1 rfl (by omega)
theorem sk_go (h : p < z) (hb : blk (B p) = true) : sk B z p = sk B z (p + 1) := scan_go h hb
theorem m_blanks (T : TX m B z) : ∀ (u p : Nat), z - p < u → p < 900000 → f118_0 u (mx m (nn p) tk st vl fl mn str) = some (mx m (nn (sk B z p)) tk st vl fl mn str) := by
  intro u
  induction u with
  | zero => intro p h; omega
  | succ u ih =>
    intro p h hp
    have hg := gb_lt T.2.2.1 z p
    have hz := T.2.1
    rw [f118_0, m_h0 T (by omega), Option.bind_some, Option.bind_some, Option.bind_some]
    unfold f118_30
    rw [mx_p, mx_18, nn_add1, q_eq (x := 32) (k := 32) rfl hg (by decide), q_eq (x := 9) (k := 9) rfl hg (by decide), q_eq (x := 13) (k := 13) rfl hg (by decide)]
    by_cases hb : p < z ∧ blk (B p) = true
    · have e := gb_in (B := B) hb.1
      have hb2 := hb.2
      unfold blk at hb2
      simp only [decide_eq_true_eq] at hb2
      have key := ih (p + 1) (by omega) (by omega)
      rw [sk_go hb.1 hb.2, e]
      by_cases e1 : B p = 32
      · rw [if_pos e1, key]
      · rw [if_neg e1]
        by_cases e2 : B p = 9
        · rw [if_pos e2, key]
        · rw [if_neg e2, if_pos (by omega), key]
    · have hs : sk B z p = p := by
        by_cases hpz : p < z
        · exact scan_no (fun hh => hb ⟨hpz, hh⟩)
        · exact scan_end (by omega)
      have hn : ¬ gb B z p = 32 ∧ ¬ gb B z p = 9 ∧ ¬ gb B z p = 13 := by
        by_cases hpz : p < z
        · rw [gb_in hpz]
          have : ¬ blk (B p) = true := fun hh => hb ⟨hpz, hh⟩
          unfold blk at this
          simp only [decide_eq_true_eq] at this
          omega
        · rw [gb_out (by omega)]; omega
      rw [hs, if_neg hn.1, if_neg hn.2.1, if_neg hn.2.2]
theorem m_nameloop (T : TX m B z) (x : Int32) : ∀ (u p : Nat), z - p < u → p < 900000 → f117_109 u (mx m (nn p) 1 st vl fl mn str) x = f117_141 (mx m (nn (scan (fun i => isN (B i)) z p)) 1 st vl fl mn str) x := by
  intro u
  induction u with
  | zero => intro p h; omega
  | succ u ih =>
    intro p h hp
    have hg := gb_lt T.2.2.1 z p
    have hz := T.2.1
    rw [f117_109, mx_tk, if_pos rfl, m_h0 T (by omega), Option.bind_some, q_b (ch_name hg), mx_p, mx_18, nn_add1]
    by_cases hb : p < z ∧ isN (B p) = true
    · rw [gb_in hb.1, if_pos hb.2, ih (p + 1) (by omega) (by omega), scan_go hb.1 hb.2]
    · have hn : ¬ isN (gb B z p) = true := by
        by_cases hpz : p < z
        · rw [gb_in hpz]; exact fun hh => hb ⟨hpz, hh⟩
        · rw [gb_out (by omega)]; decide
      have hs : scan (fun i => isN (B i)) z p = p := by
        by_cases hpz : p < z
        · exact scan_no (fun hh => hb ⟨hpz, hh⟩)
        · exact scan_end (by omega)
      rw [if_neg hn, hs]
theorem isD_H {b : Nat} (h : isD b = true) : isH b = true := by
  unfold isD at h
  unfold isH hxd
  simp only [decide_eq_true_eq] at h ⊢
  rw [if_pos h]; omega
theorem m_decloop (T : TX m B z) : ∀ (u p : Nat) (v : Int32), z - p < u → p < 900000 → f124_67 u (mx m (nn p) tk st v fl mn str) 0 = some (mx m (nn (scan (fun i => isD (B i)) z p)) tk st (decV B (scan (fun i => isD (B i)) z p - p) p v) fl mn str) := by
  intro u
  induction u with
  | zero => intro p v h; omega
  | succ u ih =>
    intro p v h hp
    have hg := gb_lt T.2.2.1 z p
    have hz := T.2.1
    rw [f124_67, if_pos rfl, m_h0 T (by omega), Option.bind_some, q_b (ch_digit hg)]
    by_cases hb : p < z ∧ isD (B p) = true
    · have e := gb_in (B := B) hb.1
      have hge := scan_ge (fun i => isD (B i)) z (p + 1)
      unfold f124_96 f124_112
      rw [if_pos rfl, m_h0 T (by omega), Option.bind_some, ch_hex hg, e, if_pos hb.2, if_pos (isD_H hb.2), mx_vl, mx_p, mx_22, mx_18, nn_add1, ih (p + 1) _ (by omega) (by omega), scan_go hb.1 hb.2]
      have e2 : scan (fun i => isD (B i)) z (p + 1) - p = (scan (fun i => isD (B i)) z (p + 1) - (p + 1)) + 1 := by omega
      rw [e2, decV]
    · have hn : ¬ isD (gb B z p) = true := by
        by_cases hpz : p < z
        · rw [gb_in hpz]; exact fun hh => hb ⟨hpz, hh⟩
        · rw [gb_out (by omega)]; decide
      have hs : scan (fun i => isD (B i)) z p = p := by
        by_cases hpz : p < z
        · exact scan_no (fun hh => hb ⟨hpz, hh⟩)
        · exact scan_end (by omega)
      rw [if_neg hn, hs, Nat.sub_self, decV]
theorem hx_neg (b : Nat) {α : Type} {A C : α} : (if (if isH b = true then nn (hxd b) else -1) < 0 then A else C) = if isH b = true then C else A := by
  have := hxd_le b
  by_cases h : isH b = true
  · rw [if_pos h, if_pos h, if_neg (nn_neg (by omega))]
  · rw [if_neg h, if_neg h]; rfl
theorem hx_pos (b : Nat) {α : Type} {A C : α} : (if 0 ≤ (if isH b = true then nn (hxd b) else -1) then A else C) = if isH b = true then A else C := by
  have := hxd_le b
  by_cases h : isH b = true
  · rw [if_pos h, if_pos h, if_pos (nn_pos (by omega))]
  · rw [if_neg h, if_neg h]; rfl
theorem m_hexloop (T : TX m B z) : ∀ (u p : Nat) (v : Int32), z - p < u → p < 900000 → f124_67 u (mx m (nn p) tk st v fl mn str) 1 = some (mx m (nn (scan (fun i => isH (B i)) z p)) tk st (hexV B (scan (fun i => isH (B i)) z p - p) p v) fl mn str) := by
  intro u
  induction u with
  | zero => intro p v h; omega
  | succ u ih =>
    intro p v h hp
    have hg := gb_lt T.2.2.1 z p
    have hz := T.2.1
    rw [f124_67, if_neg (by decide), m_h0 T (by omega), Option.bind_some, ch_hex hg, hx_neg]
    by_cases hb : p < z ∧ isH (B p) = true
    · have e := gb_in (B := B) hb.1
      have hge := scan_ge (fun i => isH (B i)) z (p + 1)
      rw [e, if_pos hb.2]
      unfold f124_96 f124_112
      rw [if_neg (by decide), m_h0 T (by omega), Option.bind_some, ch_hex hg, e, if_pos hb.2, mx_vl, mx_p, mx_22, mx_18, nn_add1, ih (p + 1) _ (by omega) (by omega), scan_go hb.1 hb.2]
      have e2 : scan (fun i => isH (B i)) z (p + 1) - p = (scan (fun i => isH (B i)) z (p + 1) - (p + 1)) + 1 := by omega
      rw [e2, hexV]
    · have hn : ¬ isH (gb B z p) = true := by
        by_cases hpz : p < z
        · rw [gb_in hpz]; exact fun hh => hb ⟨hpz, hh⟩
        · rw [gb_out (by omega)]; decide
      have hs : scan (fun i => isH (B i)) z p = p := by
        by_cases hpz : p < z
        · exact scan_no (fun hh => hb ⟨hpz, hh⟩)
        · exact scan_end (by omega)
      rw [if_neg hn, hs, Nat.sub_self, hexV]
theorem m_flaw {w : Nat} : f123 (mx m (nn p) tk st vl (-1) mn str) (nn w) = some (mx m (nn p) tk st vl (nn w) mn str) := by
  unfold f123 f123_16
  rw [mx_fl, if_neg (by decide), mx_23]
theorem m_flawd {w v : Nat} (hv : v < 2147483648) (x : Int32) : f123 (mx m (nn p) tk st vl (nn v) mn str) x = some (mx m (nn p) tk st vl (nn v) mn str) := by
  unfold f123 f123_16
  rw [mx_fl, if_pos (nn_pos hv), mx_23]
/-- what a number with its first digit at p is -/
theorem m_number (T : TX m B z) (hp : p < 800000) (hd : isD (gb B z p) = true) : f124 (mx m (nn p) tk st 0 (-1) mn str) = some (if gb B z p = 48 ∧ gb B z (p + 1) = 120 then mx m (nn (scan (fun i => isH (B i)) z (p + 2))) tk st (hexV B (scan (fun i => isH (B i)) z (p + 2) - (p + 2)) (p + 2) 0) (if scan (fun i => isH (B i)) z (p + 2) = p + 2 then nn (p + 2) else -1) mn str else mx m (nn (scan (fun i => isD (B i)) z p)) tk st (decV B (scan (fun i => isD (B i)) z p - p) p 0) (-1) mn str) := by
  have hg := gb_lt T.2.2.1 z p
  have hg1 := gb_lt T.2.2.1 z (p + 1)
  have hz := T.2.1
  have hU : (200000 : Nat) = mm_U := rfl
  have plain : f124_24 (mx m (nn p) tk st 0 (-1) mn str) = some (mx m (nn (scan (fun i => isD (B i)) z p)) tk st (decV B (scan (fun i => isD (B i)) z p - p) p 0) (-1) mn str) := by
    unfold f124_24 f124_25 f124_40
    rw [if_pos rfl, if_pos rfl, mx_p, mx_18]
    have e0 : nn p + 0 = nn p := nn_add p 0
    rw [e0, m_decloop T mm_U p 0 (by rw [← hU]; omega) (by omega)]
  unfold f124
  rw [m_h0 T (by omega), Option.bind_some, q_eq (x := 48) (k := 48) rfl hg (by decide)]
  by_cases h1 : gb B z p = 48
  · rw [if_pos h1, m_h1 T (by omega), Option.bind_some, q_eq (x := 120) (k := 120) rfl hg1 (by decide)]
    by_cases h2 : gb B z (p + 1) = 120
    · rw [if_pos h2, if_pos ⟨h1, h2⟩]
      unfold f124_25 f124_40
      have hg2 := gb_lt T.2.2.1 z (p + 2)
      rw [if_neg (by decide), if_neg (by decide), mx_p, mx_18, nn_add2, m_h0 T (by omega), Option.bind_some, ch_hex hg2, hx_pos]
      by_cases h3 : isH (gb B z (p + 2)) = true
      · have hlt : p + 2 < z := by
          refine Nat.lt_of_not_le (fun hh => ?_)
          rw [gb_out hh] at h3
          exact absurd h3 (by decide)
        have hb : isH (B (p + 2)) = true := by rw [gb_in hlt] at h3; exact h3
        have hs : ¬ scan (fun i => isH (B i)) z (p + 2) = p + 2 := by
          rw [scan_go hlt hb]
          have := scan_ge (fun i => isH (B i)) z (p + 2 + 1)
          omega
        rw [if_pos h3, m_hexloop T mm_U (p + 2) 0 (by rw [← hU]; omega) (by omega), if_neg hs]
      · have hs : scan (fun i => isH (B i)) z (p + 2) = p + 2 := by
          by_cases hlt : p + 2 < z
          · rw [gb_in hlt] at h3; exact scan_no h3
          · exact scan_end (by omega)
        rw [if_neg h3, m_flaw, Option.bind_some, m_hexloop T mm_U (p + 2) 0 (by rw [← hU]; omega) (by omega), if_pos hs]
    · rw [if_neg h2, if_neg (fun hh => h2 hh.2), plain]
  · rw [if_neg h1, if_neg (fun hh => h1 hh.1), plain]
/-- a character between quotes q -/
theorem m_char (T : TX m B z) (hp : p < 800000) {q : Nat} (hq : q < 256) : ∃ v, f127 (mx m (nn p) tk st vl (-1) mn str) (nn q) = some (v, mx m (nn (p + wid B z p)) tk st vl (if mean B z q p = 999 then nn (p + wid B z p - 1) else -1) mn str) ∧ (¬ mean B z q p = 999 → v = nn (mean B z q p)) := by
  have hg := gb_lt T.2.2.1 z p
  have hg1 := gb_lt T.2.2.1 z (p + 1)
  have hz := T.2.1
  unfold f127
  rw [m_h0 T (by omega), Option.bind_some, q_eq (x := 92) (k := 92) rfl hg (by decide)]
  by_cases h1 : gb B z p = 92
  · have hm : mean B z q p = esc (gb B z (p + 1)) := by unfold mean; rw [if_pos h1]
    have hw : wid B z p = 2 := by unfold wid; rw [if_pos h1]
    rw [if_pos h1, mx_p, mx_18, nn_add1, m_h0 T (by omega), Option.bind_some, hm, hw]
    generalize gb B z (p + 1) = g at hg1
    have e2 : p + 1 + 1 = p + 2 := by omega
    have e3 : p + 2 - 1 = p + 1 := by omega
    have good : ∀ v : Int32, ¬ v = -1 → f127_83 (mx m (nn (p + 1)) tk st vl (-1) mn str) v = some (v, mx m (nn (p + 2)) tk st vl (-1) mn str) := by
      intro v hv
      unfold f127_83 f127_97
      rw [if_neg hv, mx_p, mx_18, nn_add1, e2]
    rw [q_eq (x := 110) (k := 110) rfl hg1 (by decide), q_eq (x := 116) (k := 116) rfl hg1 (by decide), q_eq (x := 48) (k := 48) rfl hg1 (by decide), q_eq (x := 92) (k := 92) rfl hg1 (by decide), q_eq (x := 39) (k := 39) rfl hg1 (by decide), q_eq (x := 34) (k := 34) rfl hg1 (by decide)]
    unfold f127_78
    by_cases a1 : g = 110
    · subst a1
      exact ⟨10, by rw [if_pos rfl, good 10 (by decide)]; rfl, fun _ => rfl⟩
    rw [if_neg a1]
    by_cases a2 : g = 116
    · subst a2
      exact ⟨9, by rw [if_pos rfl, good 9 (by decide)]; rfl, fun _ => rfl⟩
    rw [if_neg a2]
    by_cases a3 : g = 48
    · subst a3
      exact ⟨0, by rw [if_pos rfl, good 0 (by decide)]; rfl, fun _ => rfl⟩
    rw [if_neg a3]
    by_cases a4 : g = 92
    · subst a4
      exact ⟨nn 92, by rw [if_pos rfl, good _ (by decide)]; rfl, fun _ => rfl⟩
    rw [if_neg a4]
    by_cases a5 : g = 39
    · subst a5
      exact ⟨nn 39, by rw [if_pos rfl, good _ (by decide)]; rfl, fun _ => rfl⟩
    rw [if_neg a5]
    by_cases a6 : g = 34
    · subst a6
      exact ⟨nn 34, by rw [if_pos rfl, good _ (by decide)]; rfl, fun _ => rfl⟩
    have he : esc g = 999 := by unfold esc; rw [if_neg a1, if_neg a2, if_neg a3, if_neg a4, if_neg a5, if_neg a6]
    refine ⟨-1, ?_, fun hh => absurd he hh⟩
    unfold f127_83 f127_97
    rw [if_neg a6, if_pos rfl, mx_p, m_flaw, Option.bind_some, mx_p, mx_18, nn_add1, e2, if_pos he, e3]
  · have hw : wid B z p = 1 := by unfold wid; rw [if_neg h1]
    have e3 : p + 1 - 1 = p := by omega
    have bad : f127_126 (mx m (nn p) tk st vl (-1) mn str) (nn (gb B z p)) = some (nn (gb B z p), mx m (nn (p + 1)) tk st vl (nn p) mn str) := by
      unfold f127_126 f127_134
      rw [mx_p, m_flaw, Option.bind_some, mx_p, mx_18, nn_add1]
    refine ⟨nn (gb B z p), ?_, ?_⟩
    · rw [if_neg h1, hw, e3, q_lt (x := 32) (k := 32) rfl hg (by decide), q_gt (x := 126) (k := 126) rfl hg (by decide), q_eq (x := nn q) (k := q) rfl hg hq]
      have hbad : (gb B z p < 32 ∨ 126 < gb B z p ∨ gb B z p = q) → mean B z q p = 999 := by
        intro hh
        unfold mean
        rw [if_neg h1, if_neg (by omega)]
      by_cases a1 : gb B z p < 32
      · rw [if_pos a1, bad, if_pos (hbad (Or.inl a1))]
      rw [if_neg a1]
      by_cases a2 : 126 < gb B z p
      · rw [if_pos a2, bad, if_pos (hbad (Or.inr (Or.inl a2)))]
      rw [if_neg a2]
      by_cases a3 : gb B z p = q
      · rw [if_pos a3, bad, if_pos (hbad (Or.inr (Or.inr a3)))]
      have hgood : ¬ mean B z q p = 999 := by
        unfold mean
        rw [if_neg h1, if_pos ⟨by omega, by omega, a3⟩]
        omega
      rw [if_neg a3, if_neg hgood]
      unfold f127_134
      rw [mx_p, mx_18, nn_add1]
    · intro hh
      unfold mean at hh ⊢
      rw [if_neg h1] at hh ⊢
      by_cases a : 32 ≤ gb B z p ∧ gb B z p ≤ 126 ∧ ¬ gb B z p = q
      · rw [if_pos a]
      · rw [if_neg a] at hh; exact absurd rfl hh
end ML
