/-! THE REFERENCE puts bytes. -/
/-- a pass of the reference at a line: the section, the ends, the bytes -/
def PSm (m : mS) (ag : Bool) (P : Ps) (bs : List Int32) : Prop := m.1 32 = nn P.2.1 ∧ P.2.1 ≤ 1 ∧ m.2 35 0 = nn (sAdd P bs).2.2.1.length ∧ m.2 35 1 = nn (sAdd P bs).2.2.2.length ∧ (sAdd P bs).2.2.1.length ≤ 500000 ∧ (sAdd P bs).2.2.2.length ≤ 500000 ∧ (ag = true → (sAdd P bs).2.2.1.length ≤ 65420 ∧ (sAdd P bs).2.2.2.length ≤ 65420 ∧ (∀ i, i < (sAdd P bs).2.2.1.length → m.2 36 i = (sAdd P bs).2.2.1.getD i 0) ∧ ∀ i, i < (sAdd P bs).2.2.2.length → m.2 36 (65420 + i) = (sAdd P bs).2.2.2.getD i 0)
section MU
variable {m : mS} {ag : Bool} {P : Ps} {bs : List Int32}
theorem PSm_fr {I A : List Nat} {m' : mS} (F : FR I A m m') (h32 : ¬ 32 ∈ I) (h35 : ¬ 35 ∈ A) (h36 : ¬ 36 ∈ A) (h : PSm m ag P bs) : PSm m' ag P bs := by
  unfold PSm at h ⊢
  rw [F.1 32 h32, F.2 35 h35, F.2 36 h36]
  exact h
theorem mb_eq {m : mS} {k : Nat} {j x : Int32} : (mb m k j x).2 k = upd (m.2 k) j.toNatClampNeg x := by
  show (if k = k then _ else _) = _
  rw [if_pos rfl]
theorem mb_ne {m : mS} {k k2 : Nat} {j x : Int32} (h : ¬ k2 = k) : (mb m k j x).2 k2 = m.2 k2 := by
  show (if k2 = k then _ else _) = _
  rw [if_neg h]
theorem sAdd_end (P : Ps) (bs : List Int32) : sEnd P + bs.length = if P.2.1 = 0 then (sAdd P bs).2.2.1.length else (sAdd P bs).2.2.2.length := by
  unfold sEnd sAdd
  by_cases c : P.2.1 = 0
  · rw [if_pos c, if_pos c, if_pos c]; exact (List.length_append ..).symm
  · rw [if_neg c, if_neg c, if_neg c]; exact (List.length_append ..).symm
/-- where the section's end lies -/
theorem PSm_at (h : PSm m ag P bs) : m.2 35 (m.1 32).toNatClampNeg = nn (sEnd P + bs.length) := by
  rw [sAdd_end, h.1, nn_tn (by have := h.2.1; omega)]
  by_cases c : P.2.1 = 0
  · rw [if_pos c, c]; exact h.2.2.1
  · have c1 : P.2.1 = 1 := by have := h.2.1; omega
    rw [if_neg c, c1]; exact h.2.2.2.1
/-- the end goes on, the bytes lie -/
theorem PSm_go {m' : mS} {xs : List Int32} (h : PSm m ag P bs) (F : FR [] [36] m m') (hl : sEnd P + bs.length + xs.length ≤ 500000) (hr : ag = true → sEnd P + bs.length + xs.length ≤ 65420 ∧ (∀ i, (i < 65420 * P.2.1 + (sEnd P + bs.length) ∨ 65420 * P.2.1 + (sEnd P + bs.length) + xs.length ≤ i) → m'.2 36 i = m.2 36 i) ∧ ∀ i, i < xs.length → m'.2 36 (65420 * P.2.1 + (sEnd P + bs.length) + i) = xs.getD i 0) : PSm (mb m' 35 (m'.1 32) ((m'.2 35) (m'.1 32).toNatClampNeg + nn xs.length)) ag P (bs ++ xs) := by
  have hat := PSm_at h
  obtain ⟨h1, h2, h3, h4, h5, h6, h7⟩ := h
  have e1 : m'.1 32 = nn P.2.1 := by rw [F.1 32 (by decide)]; exact h1
  have e2 : m'.2 35 = m.2 35 := F.2 35 (by decide)
  rw [e1, e2, ← h1, hat, h1, nn_add]
  have e36 : (mb m' 35 (nn P.2.1) (nn (sEnd P + bs.length + xs.length))).2 36 = m'.2 36 := mb_ne (by decide)
  have e35 : (mb m' 35 (nn P.2.1) (nn (sEnd P + bs.length + xs.length))).2 35 = upd (m.2 35) P.2.1 (nn (sEnd P + bs.length + xs.length)) := by rw [mb_eq, e2, nn_tn (by omega)]
  unfold PSm
  rw [e35, e36]
  have hA := sAdd_end P bs
  by_cases c : P.2.1 = 0
  · have a0 : ∀ l, sAdd P l = (P.1, P.2.1, P.2.2.1 ++ l, P.2.2.2) := fun l => by unfold sAdd; rw [if_pos c]
    rw [a0] at h3 h4 h5 h6 h7 hA
    rw [if_pos c] at hA
    rw [a0]
    simp only at h3 h4 h5 h6 h7 hA ⊢
    have hlen : (P.2.2.1 ++ (bs ++ xs)).length = sEnd P + bs.length + xs.length := by
      rw [hA]; simp only [List.length_append]; omega
    rw [hlen]
    refine ⟨e1, h2, ?_, ?_, hl, h6, fun hag => ?_⟩
    · unfold upd; rw [if_pos c.symm]
    · unfold upd; rw [if_neg (by omega)]; exact h4
    · obtain ⟨r1, r2, r3⟩ := hr hag
      obtain ⟨g1, g2, g3, g4⟩ := h7 hag
      rw [c, Nat.mul_zero, Nat.zero_add] at r2 r3
      refine ⟨r1, g2, fun i hi => ?_, fun i hi => ?_⟩
      · rw [← List.append_assoc, getD_app]
        by_cases ci : i < (P.2.2.1 ++ bs).length
        · rw [if_pos ci, ← g3 i ci]
          exact r2 i (by omega)
        · rw [if_neg ci]
          have := r3 (i - (P.2.2.1 ++ bs).length) (by omega)
          rw [show sEnd P + bs.length + (i - (P.2.2.1 ++ bs).length) = i by omega] at this
          exact this
      · rw [← g4 i hi]
        exact r2 _ (by omega)
  · have c1 : P.2.1 = 1 := by omega
    have a0 : ∀ l, sAdd P l = (P.1, P.2.1, P.2.2.1, P.2.2.2 ++ l) := fun l => by unfold sAdd; rw [if_neg c]
    rw [a0] at h3 h4 h5 h6 h7 hA
    rw [if_neg c] at hA
    rw [a0]
    simp only at h3 h4 h5 h6 h7 hA ⊢
    have hlen : (P.2.2.2 ++ (bs ++ xs)).length = sEnd P + bs.length + xs.length := by
      rw [hA]; simp only [List.length_append]; omega
    rw [hlen]
    refine ⟨e1, h2, ?_, ?_, h5, hl, fun hag => ?_⟩
    · unfold upd; rw [if_neg (by omega)]; exact h3
    · unfold upd; rw [if_pos c1.symm]
    · obtain ⟨r1, r2, r3⟩ := hr hag
      obtain ⟨g1, g2, g3, g4⟩ := h7 hag
      rw [c1, Nat.mul_one] at r2 r3
      refine ⟨g1, r1, fun i hi => ?_, fun i hi => ?_⟩
      · rw [← g3 i hi]
        exact r2 _ (by omega)
      · rw [← List.append_assoc, getD_app]
        by_cases ci : i < (P.2.2.2 ++ bs).length
        · rw [if_pos ci, ← g4 i ci]
          exact r2 _ (by omega)
        · rw [if_neg ci]
          have := r3 (i - (P.2.2.2 ++ bs).length) (by omega)
          rw [show 65420 + (sEnd P + bs.length) + (i - (P.2.2.2 ++ bs).length) = 65420 + i by omega] at this
          exact this
theorem lp_144 {off : Nat} (h19 : m.1 19 = eb true) (h32 : m.1 32 = nn P.2.1) (hP : P.2.1 ≤ 1) (hat : m.2 35 (m.1 32).toNatClampNeg = nn off) (v : Int32) (w : Nat) (hw : w ≤ 4) (ho : off + w ≤ 65420) : ∀ (d k u : Nat) (m1 : mS), w - k = d → k ≤ w → d < u → FR [] [36] m m1 → ∃ m', f144_2 u m1 v (nn w) (nn k) = f144_52 m' (nn w) ∧ FR [] [36] m m' ∧ (∀ i, (i < 65420 * P.2.1 + off + k ∨ 65420 * P.2.1 + off + w ≤ i) → m'.2 36 i = m1.2 36 i) ∧ ∀ i, i < d → m'.2 36 (65420 * P.2.1 + off + k + i) = (le v d k).getD i 0 := by
  intro d
  induction d with
  | zero =>
    intro k u m1 hd hk hu F
    have eu : u = (u - 1) + 1 := by omega
    rw [eu, f144_2, nn_le2 (by omega) (by omega), if_pos (by omega)]
    exact ⟨m1, rfl, F, fun _ _ => rfl, fun i hi => by omega⟩
  | succ d ih =>
    intro k u m1 hd hk hu F
    have eu : u = (u - 1) + 1 := by omega
    have e19 : m1.1 19 = eb true := by rw [F.1 19 (by decide)]; exact h19
    have e32 : m1.1 32 = nn P.2.1 := by rw [F.1 32 (by decide)]; exact h32
    have e35 : m1.2 35 (nn P.2.1).toNatClampNeg = nn off := by rw [F.2 35 (by decide), ← h32]; exact hat
    have e8 : (8 : Int32) * nn k = nn (8 * k) := (Int32.ofNat_mul 8 k).symm
    have e65 : (65420 : Int32) * nn P.2.1 = nn (65420 * P.2.1) := (Int32.ofNat_mul 65420 P.2.1).symm
    have hm : 65420 * P.2.1 ≤ 65420 := by
      have := Nat.mul_le_mul_left 65420 hP
      omega
    rw [eu, f144_2, nn_le2 (by omega) (by omega), if_neg (by omega), e19, if_neg (show ¬ eb true = 0 by decide), e32, if_pos ((nn_ib (by omega)).mpr (by omega)), e35, e65, nn_add, nn_add, if_pos ((nn_ib (by omega)).mpr (by omega)), e8, i8_i8, nn_add1]
    obtain ⟨m', r1, r2, r3, r4⟩ := ih (k + 1) (u - 1) (mb m1 36 (nn (65420 * P.2.1 + off + k)) ((v >>> (nn (8 * k) &&& 31)).toInt8.toInt32)) (by omega) (by omega) (by omega) (FR_b F (by decide) _ _)
    refine ⟨m', r1, r2, fun i hi => ?_, fun i hi => ?_⟩
    · rw [r3 i (by omega), mb_eq, nn_tn (by omega)]
      unfold upd
      rw [if_neg (by omega)]
    · cases i with
      | zero =>
        rw [r3 _ (by omega), mb_eq, nn_tn (by omega)]
        unfold upd
        rw [if_pos (by omega)]
        rfl
      | succ i =>
        have := r4 i (by omega)
        rw [show 65420 * P.2.1 + off + k + (i + 1) = 65420 * P.2.1 + off + (k + 1) + i by omega, this]
        rfl
theorem f144_52_at {m' : mS} (h32 : m'.1 32 = nn P.2.1) (hP : P.2.1 ≤ 1) (x : Int32) : f144_52 m' x = some (mb m' 35 (m'.1 32) ((m'.2 35) (m'.1 32).toNatClampNeg + x)) := by
  unfold f144_52
  have : ib (m'.1 32) 2 := by rw [h32]; exact (nn_ib (by omega)).mpr (by omega)
  rw [if_pos this, if_pos this]
theorem m_pt (h19 : m.1 19 = eb ag) (h : PSm m ag P bs) (v : Int32) {w : Nat} (hw : w ≤ 4) (hb : sEnd P + bs.length + w ≤ 500000) (hr : ag = true → sEnd P + bs.length + w ≤ 65420) : ∃ m', f144 m v (nn w) = some m' ∧ FR [] [35, 36] m m' ∧ PSm m' ag P (bs ++ le v w 0) := by
  have hat := PSm_at h
  have hP := h.2.1
  have hl := le_len v w 0
  have fin : ∀ m1 : mS, FR [] [36] m m1 → f144 m v (nn w) = f144_52 m1 (nn w) → (ag = true → sEnd P + bs.length + w ≤ 65420 ∧ (∀ i, (i < 65420 * P.2.1 + (sEnd P + bs.length) ∨ 65420 * P.2.1 + (sEnd P + bs.length) + w ≤ i) → m1.2 36 i = m.2 36 i) ∧ ∀ i, i < w → m1.2 36 (65420 * P.2.1 + (sEnd P + bs.length) + i) = (le v w 0).getD i 0) → ∃ m', f144 m v (nn w) = some m' ∧ FR [] [35, 36] m m' ∧ PSm m' ag P (bs ++ le v w 0) := by
    intro m1 F e1 e2
    have e32 : m1.1 32 = nn P.2.1 := by rw [F.1 32 (by decide)]; exact h.1
    refine ⟨_, by rw [e1, f144_52_at e32 hP], FR_b (FR_mono F (by decide) (by decide)) (by decide) _ _, ?_⟩
    have := PSm_go (xs := le v w 0) h F (by rw [hl]; exact hb) (by rw [hl]; exact e2)
    rw [hl] at this
    exact this
  cases ag with
  | false =>
    refine fin m (FR_refl _ _ _) ?_ (fun h => by cases h)
    unfold f144
    show f144_2 (199999 + 1) m v (nn w) 0 = _
    rw [f144_2, h19, if_pos (show eb false = 0 from rfl)]
    split <;> rfl
  | true =>
    obtain ⟨m1, r1, r2, r3, r4⟩ := lp_144 (P := P) h19 h.1 hP hat v w hw (hr rfl) w 0 mm_U m (by omega) (by omega) (by show w < 200000; omega) (FR_refl _ _ _)
    exact fin m1 r2 r1 (fun _ => ⟨hr rfl, fun i hi => r3 i (by omega), fun i hi => r4 i hi⟩)
theorem lp_168 {off : Nat} (h19 : m.1 19 = eb true) (h32 : m.1 32 = nn P.2.1) (hP : P.2.1 ≤ 1) (hat : m.2 35 (m.1 32).toNatClampNeg = nn off) (w : Nat) (ho : off + w ≤ 65420) : ∀ (d k u : Nat) (m1 : mS), w - k = d → k ≤ w → d < u → FR [] [36] m m1 → ∃ m', f168_2 u m1 (nn w) (nn k) = f168_46 m' (nn w) ∧ FR [] [36] m m' ∧ (∀ i, (i < 65420 * P.2.1 + off + k ∨ 65420 * P.2.1 + off + w ≤ i) → m'.2 36 i = m1.2 36 i) ∧ ∀ i, i < d → m'.2 36 (65420 * P.2.1 + off + k + i) = 0 := by
  intro d
  induction d with
  | zero =>
    intro k u m1 hd hk hu F
    have eu : u = (u - 1) + 1 := by omega
    rw [eu, f168_2, nn_le2 (by omega) (by omega), if_pos (by omega)]
    exact ⟨m1, rfl, F, fun _ _ => rfl, fun i hi => by omega⟩
  | succ d ih =>
    intro k u m1 hd hk hu F
    have eu : u = (u - 1) + 1 := by omega
    have e19 : m1.1 19 = eb true := by rw [F.1 19 (by decide)]; exact h19
    have e32 : m1.1 32 = nn P.2.1 := by rw [F.1 32 (by decide)]; exact h32
    have e35 : m1.2 35 (nn P.2.1).toNatClampNeg = nn off := by rw [F.2 35 (by decide), ← h32]; exact hat
    have e65 : (65420 : Int32) * nn P.2.1 = nn (65420 * P.2.1) := (Int32.ofNat_mul 65420 P.2.1).symm
    have hm : 65420 * P.2.1 ≤ 65420 := by
      have := Nat.mul_le_mul_left 65420 hP
      omega
    rw [eu, f168_2, nn_le2 (by omega) (by omega), if_neg (by omega), e19, if_neg (show ¬ eb true = 0 by decide), e32, if_pos ((nn_ib (by omega)).mpr (by omega)), e35, e65, nn_add, nn_add, if_pos ((nn_ib (by omega)).mpr (by omega)), nn_add1]
    obtain ⟨m', r1, r2, r3, r4⟩ := ih (k + 1) (u - 1) (mb m1 36 (nn (65420 * P.2.1 + off + k)) ((0 : Int32).toInt8.toInt32)) (by omega) (by omega) (by omega) (FR_b F (by decide) _ _)
    refine ⟨m', r1, r2, fun i hi => ?_, fun i hi => ?_⟩
    · rw [r3 i (by omega), mb_eq, nn_tn (by omega)]
      unfold upd
      rw [if_neg (by omega)]
    · cases i with
      | zero =>
        rw [r3 _ (by omega), mb_eq, nn_tn (by omega)]
        unfold upd
        rw [if_pos (by omega)]
        rfl
      | succ i =>
        have := r4 i (by omega)
        rw [show 65420 * P.2.1 + off + k + (i + 1) = 65420 * P.2.1 + off + (k + 1) + i by omega, this]
theorem m_gap (h19 : m.1 19 = eb ag) (h : PSm m ag P bs) {w : Nat} (hw : w ≤ 100000) (hb : sEnd P + bs.length + w ≤ 500000) (hr : ag = true → sEnd P + bs.length + w ≤ 65420) : ∃ m', f168 m (nn w) = some m' ∧ FR [] [35, 36] m m' ∧ PSm m' ag P (bs ++ List.replicate w 0) := by
  have hat := PSm_at h
  have hP := h.2.1
  have hl : (List.replicate w (0 : Int32)).length = w := List.length_replicate ..
  have f46 : ∀ m1 x, f168_46 m1 x = f144_52 m1 x := fun _ _ => rfl
  have fin : ∀ m1 : mS, FR [] [36] m m1 → f168 m (nn w) = f168_46 m1 (nn w) → (ag = true → sEnd P + bs.length + w ≤ 65420 ∧ (∀ i, (i < 65420 * P.2.1 + (sEnd P + bs.length) ∨ 65420 * P.2.1 + (sEnd P + bs.length) + w ≤ i) → m1.2 36 i = m.2 36 i) ∧ ∀ i, i < w → m1.2 36 (65420 * P.2.1 + (sEnd P + bs.length) + i) = (List.replicate w (0 : Int32)).getD i 0) → ∃ m', f168 m (nn w) = some m' ∧ FR [] [35, 36] m m' ∧ PSm m' ag P (bs ++ List.replicate w 0) := by
    intro m1 F e1 e2
    have e32 : m1.1 32 = nn P.2.1 := by rw [F.1 32 (by decide)]; exact h.1
    refine ⟨_, by rw [e1, f46, f144_52_at e32 hP], FR_b (FR_mono F (by decide) (by decide)) (by decide) _ _, ?_⟩
    have := PSm_go (xs := List.replicate w 0) h F (by rw [hl]; exact hb) (by rw [hl]; exact e2)
    rw [hl] at this
    exact this
  cases ag with
  | false =>
    refine fin m (FR_refl _ _ _) ?_ (fun h => by cases h)
    unfold f168
    show f168_2 (199999 + 1) m (nn w) 0 = _
    rw [f168_2, h19, if_pos (show eb false = 0 from rfl)]
    split <;> rfl
  | true =>
    obtain ⟨m1, r1, r2, r3, r4⟩ := lp_168 (P := P) h19 h.1 hP hat w (hr rfl) w 0 mm_U m (by omega) (by omega) (by show w < 200000; omega) (FR_refl _ _ _)
    refine fin m1 r2 r1 (fun _ => ⟨hr rfl, fun i hi => r3 i (by omega), fun i hi => ?_⟩)
    have := r4 i hi
    rw [Nat.add_zero] at this
    rw [this, List.getD_eq_getElem?_getD, List.getElem?_replicate]
    split <;> rfl
end MU
