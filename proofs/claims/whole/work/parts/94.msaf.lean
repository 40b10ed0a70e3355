/-! THE REFERENCE looks up what is no name: it goes through. -/
section SF
variable {m : mS} {B : Nat → Nat} {tl z ln s l : Nat} {tb : List Sy} {base here : Int32} {ag : Bool} {P : Ps} {ts : List Tk} {j : Nat} {d : Rx (List Tk)}
theorem tk_end (hB : ∀ i, B i < 256) (hz : z ≤ 65536) {p : Nat} (hp : p ≤ z) : (tk B z p).2.2.2.1 ≤ z + 10 ∧ (tk B z p).2.1 ≤ (tk B z p).2.2.2.1 := by
  have hs := sk_le (B := B) hp
  unfold tk
  by_cases he : sk B z p = z ∨ gb B z (sk B z p) = 35
  · rw [if_pos he]; exact ⟨by show sk B z p ≤ _; omega, Nat.le_refl _⟩
  · rw [if_neg he]
    have hlt : sk B z p < z := Nat.lt_of_le_of_ne hs.2 (fun hh => he (Or.inl hh))
    generalize sk B z p = q at hlt
    rw [lx_st]
    unfold lx
    by_cases h1 : isB (gb B z q) = true ∧ (¬ gb B z q = 46 ∨ isN (gb B z (q + 1)) = true)
    · rw [if_pos h1]
      have := scan_le (P := fun i => isN (B i)) (Nat.le_of_lt hlt)
      have := scan_ge (fun i => isN (B i)) z q
      show scan _ _ _ ≤ z + 10 ∧ q ≤ scan _ _ _; omega
    rw [if_neg h1]
    by_cases h2 : isD (gb B z q) = true
    · rw [if_pos h2]
      by_cases h3 : gb B z q = 48 ∧ gb B z (q + 1) = 120
      · rw [if_pos h3]
        have hp1 : q + 1 < z := Nat.lt_of_not_le (fun hh => by have := h3.2; rw [gb_out hh] at this; omega)
        have := scan_le (P := fun i => isH (B i)) (show q + 2 ≤ z by omega)
        have := scan_ge (fun i => isH (B i)) z (q + 2)
        show scan _ _ _ ≤ z + 10 ∧ q ≤ scan _ _ _; omega
      · rw [if_neg h3]
        have := scan_le (P := fun i => isD (B i)) (Nat.le_of_lt hlt)
        have := scan_ge (fun i => isD (B i)) z q
        show scan _ _ _ ≤ z + 10 ∧ q ≤ scan _ _ _; omega
    rw [if_neg h2]
    by_cases h4 : gb B z q = 39
    · rw [if_pos h4]
      have := wid_le B z (q + 1)
      show q + 1 + wid B z (q + 1) + 1 ≤ z + 10 ∧ q ≤ q + 1 + wid B z (q + 1) + 1; omega
    rw [if_neg h4]
    by_cases h5 : gb B z q = 34
    · rw [if_pos h5]
      have hE := strE_le B z (z - q) (q + 1) (by omega)
      have := wid_le B z (strE B z (z - q) (q + 1))
      by_cases hc : gb B z (strE B z (z - q) (q + 1)) = 34
      · simp only [if_pos hc]; omega
      · simp only [if_neg hc]; omega
    rw [if_neg h5]
    by_cases h6 : gb B z q = 60 ∨ gb B z q = 62
    · rw [if_pos h6]; show q + 2 ≤ z + 10 ∧ q ≤ q + 2; omega
    rw [if_neg h6]
    by_cases h7 : sgn (gb B z q) = true
    · rw [if_pos h7]; show q + 1 ≤ z + 10 ∧ q ≤ q + 1; omega
    · rw [if_neg h7]; show q + 1 ≤ z + 10 ∧ q ≤ q + 1; omega
theorem s_39 (q5 : mS → Int32 → Int32 → Int32 → Int32 → Option Int32) {s2 k : Nat} (hk : k < 17500) (h27 : m.2 27 k = nn s2) (h2 : s2 + l ≤ 65536) (hs : s + l ≤ 65536) : ∀ (d i u : Nat) (y : Int32), l - i = d → d + 1 < u → i ≤ l → ∃ y', f133_39 q5 u m (nn s) (nn l) (nn k) y (nn i) = f133_90 q5 m (nn s) (nn l) (nn k) y' := by
  intro d
  induction d with
  | zero =>
    intro i u y hd hu hi
    have eu : u = (u - 1) + 1 := by omega
    rw [eu, f133_39, if_pos ((nn_le (by omega) (by omega)).mpr (by omega))]
    exact ⟨y, rfl⟩
  | succ d ih =>
    intro i u y hd hu hi
    have eu : u = (u - 1) + 1 := by omega
    rw [eu, f133_39, if_neg (fun h => by have := (nn_le (by omega) (by omega)).mp h; omega)]
    by_cases c : y = 0
    · rw [if_pos c]; exact ⟨y, rfl⟩
    · rw [if_neg c, if_pos ((nn_ib (by omega)).mpr hk), nn_tn (by omega), h27, nn_add, if_pos ((nn_ib (by omega)).mpr (by omega)), nn_add, if_pos ((nn_ib (by omega)).mpr (by omega))]
      unfold f133_82
      rw [nn_add1]
      obtain ⟨y1, e1⟩ := ih (i + 1) (u - 1) 1 (by omega) (by omega) (by omega)
      obtain ⟨y0, e0⟩ := ih (i + 1) (u - 1) 0 (by omega) (by omega) (by omega)
      rw [e1, e0]
      split
      · exact ⟨y1, rfl⟩
      · exact ⟨y0, rfl⟩
theorem s_5 (S : SYMm m B tl tb) (ht : tl ≤ 65536) (hs : s + l ≤ 65536) : ∀ (d k u : Nat) (x : Int32), tb.length - k = d → k ≤ tb.length → d + 1 < u → ∃ r, f133_5 u m (nn s) (nn l) x (nn k) = some r := by
  obtain ⟨S1, S2, S3⟩ := S
  intro d
  induction d with
  | zero =>
    intro k u x hd hk hu
    have eu : u = (u - 1) + 1 := by omega
    rw [eu, f133_5, S1, if_pos ((nn_le (by omega) (by omega)).mpr (by omega))]
    exact ⟨x, rfl⟩
  | succ d ih =>
    intro k u x hd hk hu
    have eu : u = (u - 1) + 1 := by omega
    rw [eu, f133_5, S1, if_neg (fun h => by have := (nn_le (by omega) (by omega)).mp h; omega)]
    by_cases c : 0 ≤ x
    · rw [if_pos c]; exact ⟨x, rfl⟩
    · rw [if_neg c, if_pos ((nn_ib (by omega)).mpr (by omega)), nn_tn (by omega)]
      obtain ⟨E, e27, e28, _⟩ := S3 k (by omega)
      have goes : ∀ y, ∃ r, f133_90 (f133_5 (u - 1)) m (nn s) (nn l) (nn k) y = some r := by
        intro y
        unfold f133_90 f133_101
        rw [nn_add1]
        obtain ⟨r1, g1⟩ := ih (k + 1) (u - 1) (-1) (by omega) (by omega) (by omega)
        obtain ⟨r2, g2⟩ := ih (k + 1) (u - 1) (nn k) (by omega) (by omega) (by omega)
        rw [g1, g2]
        split
        · exact ⟨r1, rfl⟩
        · exact ⟨r2, rfl⟩
      have h2 := E.2.1
      have hlk : (tb.getD k sy0).2.1 ≤ 65536 := by omega
      rw [e28]
      by_cases cl : nn (tb.getD k sy0).2.1 = nn l
      · have el : (tb.getD k sy0).2.1 = l := (nn_eq (by omega) (by omega)).mp cl
        rw [if_pos cl]
        unfold f133_34
        obtain ⟨y', e⟩ := s_39 (f133_5 (u - 1)) (s := s) (l := l) (k := k) (by omega) e27 (by omega) hs l 0 mm_U 1 (by omega) (by show l + 1 < 200000; omega) (by omega)
        rw [show (0 : Int32) = nn 0 from rfl, e]
        exact goes y'
      · rw [if_neg cl]
        unfold f133_34
        have e : f133_39 (f133_5 (u - 1)) mm_U m (nn s) (nn l) (nn k) 0 0 = f133_90 (f133_5 (u - 1)) m (nn s) (nn l) (nn k) 0 := by
          show f133_39 _ (199999 + 1) _ _ _ _ _ _ = _
          rw [f133_39, if_pos (show (0 : Int32) = 0 from rfl)]
          split <;> rfl
        rw [e]
        exact goes 0
theorem s_133 (S : SYMm m B tl tb) (ht : tl ≤ 65536) (hs : s + l ≤ 65536) : ∃ r, f133 m (nn s) (nn l) = some r := by
  have := S.2.1
  exact s_5 S ht hs tb.length 0 mm_U (-1) (by omega) (by omega) (by show _ < 200000; omega)
theorem s_23 {Q : Int64} (hf : f136 m (nn s) (nn l) = some Q) : ∀ (k u : Nat), k ≤ 33 → k < u → ∃ r, f135_23_6 u m (nn s) (nn l) (nn k - 1) = some r := by
  intro k
  induction k with
  | zero =>
    intro u hk hu
    have eu : u = (u - 1) + 1 := by omega
    rw [eu, f135_23_6, if_pos (show nn 0 - 1 < 0 by decide)]
    exact ⟨_, rfl⟩
  | succ k ih =>
    intro u hk hu
    have eu : u = (u - 1) + 1 := by omega
    rw [eu, f135_23_6, nn_pred, if_neg (nn_neg (by omega)), if_pos ((nn_ib (by omega)).mpr (by omega)), hf, Option.bind_some, nn_m]
    split
    · exact ⟨_, rfl⟩
    · exact ih (u - 1) (by omega) (by omega)
theorem s_134 (hs : s + l ≤ 65536) : ∃ r, f134 m (nn s) (nn l) = some r := by
  have hf := m_pack (m := m) (z := 65536) (B := fun i => b8 (m.2 4 i)) (s := s) (l := l) (by omega) (fun i _ => rfl) (fun i => b8_lt _) hs
  obtain ⟨r, hr⟩ := s_23 hf 33 mm_U (by omega) (by decide)
  have h23 : f135_23 m (nn s) (nn l) = some r := hr
  have h142 : ∀ y, ∃ r', f134_142 m r y = some r' := by
    intro y
    unfold f134_142 f134_143
    split
    · exact ⟨_, rfl⟩
    · split
      · exact ⟨_, rfl⟩
      · exact ⟨_, rfl⟩
  have h143 : ∀ y w, ∃ r', f134_143 m r y w = some r' := by
    intro y w
    unfold f134_143
    split
    · exact ⟨_, rfl⟩
    · split
      · split <;> exact ⟨_, rfl⟩
      · exact ⟨_, rfl⟩
  have h78 : ∀ y, ∃ r', f134_78 m (nn s) (nn l) r y = some r' := by
    intro y
    unfold f134_78
    rw [show (1 : Int32) = nn 1 from rfl, nn_le2 (by omega) (by omega)]
    by_cases c1 : l ≤ 1
    · rw [if_pos c1]; exact h142 y
    rw [if_neg c1, show (4 : Int32) = nn 4 from rfl, nn_le2 (by omega) (by omega)]
    by_cases c4 : 4 ≤ l
    · rw [if_pos c4]; exact h142 y
    rw [if_neg c4, if_pos ((nn_ib (by omega)).mpr (by omega))]
    split
    · rw [nn_add, if_pos ((nn_ib (by omega)).mpr (by omega))]
      split
      · exact h142 y
      · rw [nn_add, nn_sub (by omega), if_pos ((nn_ib (by omega)).mpr (by omega))]
        split
        · exact h142 y
        · split
          · exact h142 y
          · exact h143 y _
    · exact h142 y
  unfold f134
  rw [h23, Option.bind_some]
  by_cases c2 : nn l = 2
  · have el : l = 2 := (nn_eq (b := 2) (by omega) (by omega)).mp c2
    rw [if_pos c2, nn_add1, if_pos ((nn_ib (by omega)).mpr (by omega))]
    exact h78 _
  rw [if_neg c2]
  by_cases c3 : nn l = 3
  · have el : l = 3 := (nn_eq (b := 3) (by omega) (by omega)).mp c3
    rw [if_pos c3, nn_add1, if_pos ((nn_ib (by omega)).mpr (by omega)), nn_add2]
    split
    · exact h78 _
    · rw [if_pos ((nn_ib (by omega)).mpr (by omega)), if_pos ((nn_ib (by omega)).mpr (by omega))]
      exact h78 _
  rw [if_neg c3]
  exact h78 _
/-- isNew() where it is dead already -/
theorem s_132 (S : SYMm m B tl tb) (ht : tl ≤ 65536) (h21 : m.1 21 = nn s) (h18 : m.1 18 = nn (s + l)) (hs : s + l ≤ 65536) (hd : ¬ m.1 11 = 0) : f132 m = some m := by
  have hl : m.1 18 - m.1 21 = nn l := by rw [h18, h21, nn_sub (by omega), Nat.add_sub_cancel_left]
  obtain ⟨r1, e1⟩ := s_133 (s := s) (l := l) S ht hs
  obtain ⟨r2, e2⟩ := s_134 (m := m) hs
  have e47 : f132_47 m = some m := by unfold f132_47; rw [f131_dead hd]; rfl
  unfold f132
  rw [hl, h21, e1, Option.bind_some, e2, Option.bind_some, e47]
  split
  · split
    · rfl
    · split <;> rfl
  · rfl
end SF
