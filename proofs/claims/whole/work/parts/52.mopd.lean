/-! THE REFERENCE's operand (signs before it, and * / % at once) and before. -/
section ME9
variable {m : mS} {V : List Int32} {S : List Sg} {d k w : Nat} {x y f9 s9 mode : Int32}
theorem f150_nn {b : Nat} (h : b < 256) : f150 (nn b) = nn (lev b) := by
  have key : ∀ b : Nat, b < 256 → f150 (nn b) = nn (lev b) := by decide +kernel
  exact key b h
/-- the top sign is no * / % -/
def no6 (S : List Sg) : Prop := match S with
  | [] => True
  | g :: _ => g.1 < 256 ∧ ¬ lev g.1 = 6
theorem m_74 (T : ST m V S d) (h : no6 S) : f149_74 m mode = some m := by
  unfold f149_74
  cases S with
  | nil => rw [show m.1 40 = nn 0 from T.2.1, if_pos (show nn 0 ≤ (0 : Int32) by decide)]
  | cons g r =>
    obtain ⟨k, w, f9, s9⟩ := g
    obtain ⟨t1, t2, t3, t4, t5, t6⟩ := red_top T
    have e40 := T.2.1
    have a7 := T.2.2.2.2.2.2
    rw [List.length_cons] at e40 a7
    have h' : k < 256 ∧ ¬ lev k = 6 := h
    have hlev := lev_le k
    have c1 : ¬ m.1 40 ≤ 0 := by
      rw [e40]
      intro hh
      have hh : nn (r.length + 1) ≤ nn 0 := hh
      have := (nn_le (by omega) (by omega)).mp hh
      omega
    have c2 : ¬ f150 (nn k) = (6 : Int32) := by
      rw [f150_nn h'.1]
      intro hh
      exact h'.2 ((nn_eq (b := 6) (by omega) (by omega)).mp hh)
    rw [if_neg c1]
    simp only [t1, if_pos t2, t3, if_neg c2]
theorem m_74r (T : ST m V ((k, w, f9, s9) :: S) d) (hk : k < 256) (h6 : lev k = 6) : f149_74 m mode = f151 m mode := by
  unfold f149_74
  obtain ⟨t1, t2, t3, t4, t5, t6⟩ := red_top T
  have e40 := T.2.1
  have a7 := T.2.2.2.2.2.2
  rw [List.length_cons] at e40 a7
  have c1 : ¬ m.1 40 ≤ 0 := by
    rw [e40]
    intro hh
    have hh : nn (S.length + 1) ≤ nn 0 := hh
    have := (nn_le (by omega) (by omega)).mp hh
    omega
  have c2 : f150 (nn k) = (6 : Int32) := by rw [f150_nn hk, h6]; rfl
  rw [if_neg c1]
  simp only [t1, if_pos t2, t3, if_pos c2]
  cases f151 m mode <;> rfl
/-- operand: with no sign before it -/
theorem m_opd (T : ST m V S d) (h4 : ∀ g r, S = g :: r → g.1 < 256 ∧ ¬ g.1 = 4) : f149 m mode = f149_74 m mode := by
  unfold f149
  cases S with
  | nil => rw [show m.1 40 = nn 0 from T.2.1, if_pos (show nn 0 ≤ (0 : Int32) by decide)]
  | cons g r =>
    obtain ⟨k, w, f9, s9⟩ := g
    obtain ⟨t1, t2, t3, t4, t5, t6⟩ := red_top T
    have e40 := T.2.1
    have a7 := T.2.2.2.2.2.2
    rw [List.length_cons] at e40 a7
    have h' := h4 _ _ rfl
    have h' : k < 256 ∧ ¬ k = 4 := h'
    have c1 : ¬ m.1 40 ≤ 0 := by
      rw [e40]
      intro hh
      have hh : nn (r.length + 1) ≤ nn 0 := hh
      have := (nn_le (by omega) (by omega)).mp hh
      omega
    have c2 : ¬ nn k = (4 : Int32) := fun hh => h'.2 ((nn_eq (b := 4) (by omega) (by omega)).mp hh)
    rw [if_neg c1]
    simp only [t1, if_pos t2, t3, if_neg c2]
/-- operand: signs before it work on the value first -/
theorem m_opd4 (T : ST m (x :: V) ((4, w, f9, s9) :: S) d) : ∃ m', f149 m mode = f149_74 m' mode ∧ ST m' ((f9 * x + s9) :: V) S d ∧ FR [40] [42] m m' := by
  obtain ⟨t1, t2, t3, t4, t5, t6⟩ := red_top T
  obtain ⟨a1, a2, a3, a4, a5, a6, a7⟩ := T
  rw [List.length_cons] at a1 a2 a6 a7
  have e1 : m.1 39 - 1 = nn V.length := by rw [a1, nn_pred]
  have i1 : ib (nn V.length) 160 := (nn_ib (by omega)).mpr (by omega)
  have g42 : m.2 42 (nn V.length).toNatClampNeg = x := by rw [nn_tn (by omega)]; exact a4.1
  have c1 : ¬ m.1 40 ≤ 0 := by
    rw [a2]
    intro hh
    have hh : nn (S.length + 1) ≤ nn 0 := hh
    have := (nn_le (by omega) (by omega)).mp hh
    omega
  refine ⟨mb (mg m 40 (nn S.length)) 42 (nn V.length) (f9 * x + s9), ?_, ⟨?_, rfl, a3, ⟨?_, ?_⟩, ?_, by rw [List.length_cons]; omega, by omega⟩, FR_b (FR_g (FR_refl _ _ _) (by decide) _) (by decide) _ _⟩
  · unfold f149
    rw [if_neg c1]
    simp only [t1, if_pos t2, t3, e1, if_pos i1, t5, t6, g42]
    rw [if_pos (show nn 4 = (4 : Int32) from rfl)]
  · exact a1
  · show upd (m.2 42) (nn V.length).toNatClampNeg _ V.length = _
    rw [nn_tn (by omega)]; unfold upd; exact if_pos rfl
  · show PL (upd (m.2 42) (nn V.length).toNatClampNeg _) V
    rw [nn_tn (by omega)]
    exact PL_upd (Nat.le_refl _) a4.2
  · exact SL_eq (m := m) (m' := mb (mg m 40 (nn S.length)) 42 (nn V.length) (f9 * x + s9)) rfl rfl rfl rfl a5.2.2.2.2
/-- a sign before an operand, on one that stands there -/
theorem m_bef4 (T : ST m V ((4, w, f9, s9) :: S) d) (hk : k = 45 ∨ k = 43 ∨ k = 126) : ∃ m', f153_31 m (nn k) = some m' ∧ ST m' V ((4, w, (if k = 43 then f9 else -f9), (if k = 126 then s9 - f9 else s9)) :: S) d ∧ FR [] [45, 46] m m' := by
  obtain ⟨t1, t2, t3, t4, t5, t6⟩ := red_top T
  obtain ⟨a1, a2, a3, a4, a5, a6, a7⟩ := T
  rw [List.length_cons] at a2 a7
  have hk2 : k < 256 := by omega
  have low : ∀ (f : Nat → Int32) (z9 : Int32) (i : Nat), i < S.length → upd f (nn S.length).toNatClampNeg z9 i = f i := by
    intro f z9 i hi
    rw [nn_tn (by omega)]; unfold upd; exact if_neg (by omega)
  have top : ∀ (f : Nat → Int32) (z9 : Int32), upd f (nn S.length).toNatClampNeg z9 S.length = z9 := by
    intro f z9
    rw [nn_tn (by omega)]; unfold upd; exact if_pos rfl
  have core : ∀ sm : Int32, ST (mb (mb m 46 (nn S.length) sm) 45 (nn S.length) (if k = 43 then f9 else -f9)) V ((4, w, (if k = 43 then f9 else -f9), sm) :: S) d := by
    intro sm
    refine ⟨a1, by rw [List.length_cons]; exact a2, a3, a4, ⟨a5.1, a5.2.1, top _ _, top _ _, ?_⟩, a6, by rw [List.length_cons]; omega⟩
    exact SL_low (m := m) (m' := mb (mb m 46 (nn S.length) sm) 45 (nn S.length) (if k = 43 then f9 else -f9)) (j := S.length) (fun i hi => rfl) (fun i hi => rfl) (fun i hi => low _ _ i hi) (fun i hi => low _ _ i hi) (Nat.le_refl _) a5.2.2.2.2
  have fin : ∀ sm : Int32, (if nn k = (43 : Int32) then (if ib (nn S.length) 160 then f153_90 (mb m 46 (nn S.length) sm) (m.2 45 (nn S.length).toNatClampNeg) (nn S.length) else none) else (if ib (nn S.length) 160 then f153_90 (mb m 46 (nn S.length) sm) (-(m.2 45 (nn S.length).toNatClampNeg)) (nn S.length) else none)) = some (mb (mb m 46 (nn S.length) sm) 45 (nn S.length) (if k = 43 then f9 else -f9)) := by
    intro sm
    unfold f153_90
    rw [q_eq (x := 43) (k := 43) rfl hk2 (by decide), t5]
    simp only [if_pos t2]
    by_cases h : k = 43
    · rw [if_pos h, if_pos h]
    · rw [if_neg h, if_neg h]
  unfold f153_31 f153_61
  simp only [t1, if_pos t2, t5, t6]
  rw [q_eq (x := 126) (k := 126) rfl hk2 (by decide)]
  rw [t5] at fin
  simp only [if_pos t2] at fin
  by_cases h : k = 126
  · rw [if_pos h]
    refine ⟨_, fin (s9 - f9), ?_, FR_b (FR_b (FR_refl _ _ _) (by decide) _ _) (by decide) _ _⟩
    rw [if_pos h]
    exact core (s9 - f9)
  · rw [if_neg h]
    have e0 : s9 - 0 = s9 := Int32.sub_zero s9
    rw [e0]
    refine ⟨_, fin s9, ?_, FR_b (FR_b (FR_refl _ _ _) (by decide) _ _) (by decide) _ _⟩
    rw [if_neg h]
    exact core s9
end ME9
