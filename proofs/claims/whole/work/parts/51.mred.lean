/-! THE REFERENCE's reduce, operand, before. -/
section MD
variable {m : mS} {V : List Int32} {S : List Sg} {d k w : Nat} {x y f9 s9 mode : Int32}
/-- the state after a reduce, but for late and an error -/
theorem red_117 {q : mS} {n : Nat} (h39 : q.1 39 = nn (V.length + 1)) (hV : V.length + 1 < 160) (h42 : PL (q.2 42) (y :: x :: V)) (hk : 0 < lev k) (hz : (k = 47 ∨ k = 37) → ¬ y = 0) : f151_117 q (nn k) 0 = some (mb q 42 (nn V.length) (wk k x y)) := by
  unfold f151_117 f151_159
  have e1 : q.1 39 - 1 = nn V.length := by rw [h39, nn_pred]
  have i1 : ib (nn V.length) 160 := (nn_ib (by omega)).mpr (by omega)
  have i2 : ib (nn (V.length + 1)) 160 := (nn_ib (by omega)).mpr (by omega)
  have g1 : q.2 42 (nn V.length).toNatClampNeg = x := by rw [nn_tn (by omega)]; exact h42.2.1
  have g2 : q.2 42 (nn (V.length + 1)).toNatClampNeg = y := by rw [nn_tn (by omega)]; exact h42.1
  simp only [h39, nn_pred, if_pos i1, if_pos i2, g1, g2, if_true, m_worked hk x y hz, Option.bind_some]
theorem red_0 {q : mS} (h39 : q.1 39 = nn (V.length + 1)) (hV : V.length + 1 < 160) : f151_117 q (nn k) 1 = some (mb q 42 (nn V.length) 0) := by
  unfold f151_117 f151_159
  have e1 : q.1 39 - 1 = nn V.length := by rw [h39, nn_pred]
  have i1 : ib (nn V.length) 160 := (nn_ib (by omega)).mpr (by omega)
  rw [if_neg (by decide)]
  simp only [e1, if_pos i1]
theorem red_st {q : mS} (T : ST m (y :: x :: V) ((k, w, f9, s9) :: S) d) (h39 : q.1 39 = nn (V.length + 1)) (h40 : q.1 40 = nn S.length) (h41 : q.1 41 = m.1 41) (h2 : q.2 = m.2) (v : Int32) : ST (mb q 42 (nn V.length) v) (v :: V) S d := by
  obtain ⟨a1, a2, a3, a4, a5, a6, a7⟩ := T
  rw [List.length_cons, List.length_cons] at a6
  rw [List.length_cons] at a7
  refine ⟨h39, h40, h41.trans a3, ⟨?_, ?_⟩, ?_, by rw [List.length_cons]; omega, by omega⟩
  · show upd (q.2 42) (nn V.length).toNatClampNeg v V.length = _
    rw [nn_tn (by omega)]; unfold upd; exact if_pos rfl
  · show PL (upd (q.2 42) (nn V.length).toNatClampNeg v) V
    rw [nn_tn (by omega), h2]
    exact PL_upd (Nat.le_refl _) a4.2.2
  · refine SL_eq (m := m) ?_ ?_ ?_ ?_ a5.2.2.2.2
    · show q.2 43 = _; rw [h2]
    · show q.2 44 = _; rw [h2]
    · show q.2 45 = _; rw [h2]
    · show q.2 46 = _; rw [h2]
/-- the top sign, as reduce finds it -/
theorem red_top (T : ST m V ((k, w, f9, s9) :: S) d) : m.1 40 - 1 = nn S.length ∧ ib (nn S.length) 160 ∧ m.2 43 (nn S.length).toNatClampNeg = nn k ∧ m.2 44 (nn S.length).toNatClampNeg = nn w ∧ m.2 45 (nn S.length).toNatClampNeg = f9 ∧ m.2 46 (nn S.length).toNatClampNeg = s9 := by
  obtain ⟨a1, a2, a3, a4, a5, a6, a7⟩ := T
  rw [List.length_cons] at a2 a7
  have e : (nn S.length).toNatClampNeg = S.length := nn_tn (by omega)
  refine ⟨by rw [a2, nn_pred], (nn_ib (by omega)).mpr (by omega), ?_, ?_, ?_, ?_⟩
  · rw [e]; exact a5.1
  · rw [e]; exact a5.2.1
  · rw [e]; exact a5.2.2.1
  · rw [e]; exact a5.2.2.2.1
theorem m_red (T : ST m (y :: x :: V) ((k, w, f9, s9) :: S) d) (hk : 0 < lev k) (hk2 : k < 256) (hz : (k = 47 ∨ k = 37) → ¬ y = 0) (hl : bz (m.1 38)) : ∃ m', f151 m mode = some m' ∧ ST m' (wk k x y :: V) S d ∧ FR [39, 40] [42] m m' := by
  obtain ⟨t1, t2, t3, t4, t5, t6⟩ := red_top T
  have a1 := T.1
  have a4 := T.2.2.2.1
  have a6 := T.2.2.2.2.2.1
  rw [List.length_cons, List.length_cons] at a1 a6
  have e39 : m.1 39 - 1 = nn (V.length + 1) := by rw [a1, nn_pred]
  -- the state with one sign and one value less
  have main : ∀ q : mS, q.1 39 = nn (V.length + 1) → q.1 40 = nn S.length → q.1 41 = m.1 41 → q.2 = m.2 → q.1 38 = m.1 38 → FR [39, 40] [42] m q → ∃ m', f151_58 q mode (nn k) = some m' ∧ ST m' (wk k x y :: V) S d ∧ FR [39, 40] [42] m m' := by
    intro q h39 h40 h41 h2 h38 hF
    have h42 : PL (q.2 42) (y :: x :: V) := by rw [h2]; exact a4
    have fin : ∀ b : Int32, bz b → b = q.1 38 → f151_77 q mode (nn k) 0 b = some (mb q 42 (nn V.length) (wk k x y)) := by
      intro b hb he
      have e38 : mg q 38 b = q := by
        refine Prod.ext (funext fun j => ?_) rfl
        show upd q.1 38 b j = q.1 j
        unfold upd
        by_cases hj : j = 38
        · rw [if_pos hj, hj, he]
        · rw [if_neg hj]
      unfold f151_77
      rw [if_pos hb, if_pos rfl, e38]
      exact red_117 (n := 0) h39 (by omega) h42 hk hz
    refine ⟨mb q 42 (nn V.length) (wk k x y), ?_, red_st T h39 h40 h41 h2 _, FR_b hF (by decide) _ _⟩
    unfold f151_58 f151_59 f151_72
    rcases hl with hl | hl
    · rw [h38, hl, if_pos rfl, if_pos rfl]
      exact fin 0 (Or.inl rfl) (by rw [h38, hl])
    · rw [h38, hl, if_neg (by decide)]
      exact fin 1 (Or.inr rfl) (by rw [h38, hl])
  have key := main (mg (mg m 40 (nn S.length)) 39 (nn (V.length + 1))) rfl rfl rfl rfl rfl (FR_g (FR_g (FR_refl _ _ _) (by decide) _) (by decide) _)
  obtain ⟨m', k1, k2, k3⟩ := key
  refine ⟨m', ?_, k2, k3⟩
  unfold f151
  simp only [t1, if_pos t2, t3, e39]
  rw [q_eq (x := 47) (k := 47) rfl hk2 (by decide), q_eq (x := 37) (k := 37) rfl hk2 (by decide)]
  unfold f151_42
  have i2 : ib (nn (V.length + 1)) 160 := (nn_ib (by omega)).mpr (by omega)
  have g39 : (mg (mg m 40 (nn S.length)) 39 (nn (V.length + 1))).1 39 = nn (V.length + 1) := rfl
  have g42 : (mg (mg m 40 (nn S.length)) 39 (nn (V.length + 1))).2 42 (nn (V.length + 1)).toNatClampNeg = y := by
    rw [nn_tn (by omega)]; exact a4.1
  simp only [g39, if_pos i2, g42]
  by_cases h1 : k = 47
  · rw [if_pos h1, if_neg (hz (Or.inl h1)), k1]
  · rw [if_neg h1]
    by_cases h2 : k = 37
    · rw [if_pos h2, if_neg (hz (Or.inr h2)), k1]
    · rw [if_neg h2, k1]
/-- division by 0: where it is no error -/
theorem m_red0 (T : ST m (0 :: x :: V) ((k, w, f9, s9) :: S) d) (hk : k = 47 ∨ k = 37) (hm : mode = 1 ∨ mode = 3) : ∃ m', f151 m mode = some m' ∧ ST m' (0 :: V) S d ∧ FR [38, 39, 40] [42] m m' ∧ m'.1 38 = 1 := by
  obtain ⟨t1, t2, t3, t4, t5, t6⟩ := red_top T
  have a1 := T.1
  have a4 := T.2.2.2.1
  have a6 := T.2.2.2.2.2.1
  rw [List.length_cons, List.length_cons] at a1 a6
  have e39 : m.1 39 - 1 = nn (V.length + 1) := by rw [a1, nn_pred]
  have i2 : ib (nn (V.length + 1)) 160 := (nn_ib (by omega)).mpr (by omega)
  have g39 : (mg (mg m 40 (nn S.length)) 39 (nn (V.length + 1))).1 39 = nn (V.length + 1) := rfl
  have g42 : (mg (mg m 40 (nn S.length)) 39 (nn (V.length + 1))).2 42 (nn (V.length + 1)).toNatClampNeg = 0 := by
    rw [nn_tn (by omega)]; exact a4.1
  have hk2 : k < 256 := by omega
  refine ⟨mb (mg (mg (mg m 40 (nn S.length)) 39 (nn (V.length + 1))) 38 1) 42 (nn V.length) 0, ?_, red_st (q := mg (mg (mg m 40 (nn S.length)) 39 (nn (V.length + 1))) 38 1) T rfl rfl rfl rfl _, FR_b (FR_g (FR_g (FR_g (FR_refl _ _ _) (by decide) _) (by decide) _) (by decide) _) (by decide) _ _, rfl⟩
  have h42' : f151_42 (mg (mg m 40 (nn S.length)) 39 (nn (V.length + 1))) mode (nn k) = some (mb (mg (mg (mg m 40 (nn S.length)) 39 (nn (V.length + 1))) 38 1) 42 (nn V.length) 0) := by
    unfold f151_42
    simp only [g39, if_pos i2, g42, if_true]
    unfold f151_59 f151_72
    have h77 : f151_77 (mg (mg m 40 (nn S.length)) 39 (nn (V.length + 1))) mode (nn k) 1 1 = some (mb (mg (mg (mg m 40 (nn S.length)) 39 (nn (V.length + 1))) 38 1) 42 (nn V.length) 0) := by
      unfold f151_77
      rw [if_pos (Or.inr rfl), if_neg (by decide)]
      rcases hm with hm | hm
      · rw [if_pos hm]; exact red_0 rfl (by omega)
      · rw [if_neg (by rw [hm]; decide), if_pos hm]; exact red_0 rfl (by omega)
    rw [h77]
    by_cases q : (mg (mg m 40 (nn S.length)) 39 (nn (V.length + 1))).1 38 = 0
    · rw [if_pos q, if_neg (by decide)]
    · rw [if_neg q]
  unfold f151
  simp only [t1, if_pos t2, t3, e39]
  rw [q_eq (x := 47) (k := 47) rfl hk2 (by decide), q_eq (x := 37) (k := 37) rfl hk2 (by decide), h42']
  by_cases h1 : k = 47
  · rw [if_pos h1]
  · rw [if_neg h1, if_pos (by omega)]
/-- division by 0: the error -/
theorem m_redx (T : ST m (0 :: x :: V) ((k, w, f9, s9) :: S) d) (hk : k = 47 ∨ k = 37) (hm : mode = 0 ∨ mode = 2) (h0 : m.1 11 = 0) : ∃ m', f151 m mode = some m' ∧ ST m' (0 :: V) S d ∧ FR [11, 12, 13, 38, 39, 40] [42] m m' ∧ m'.1 11 = (if mode = 0 then 5 else 9) ∧ m'.1 12 = nn w - m.1 16 ∧ m'.1 13 = m.1 15 ∧ m'.1 38 = 1 := by
  obtain ⟨t1, t2, t3, t4, t5, t6⟩ := red_top T
  have a1 := T.1
  have a4 := T.2.2.2.1
  have a6 := T.2.2.2.2.2.1
  rw [List.length_cons, List.length_cons] at a1 a6
  have e39 : m.1 39 - 1 = nn (V.length + 1) := by rw [a1, nn_pred]
  have i2 : ib (nn (V.length + 1)) 160 := (nn_ib (by omega)).mpr (by omega)
  have g39 : (mg (mg m 40 (nn S.length)) 39 (nn (V.length + 1))).1 39 = nn (V.length + 1) := rfl
  have g42 : (mg (mg m 40 (nn S.length)) 39 (nn (V.length + 1))).2 42 (nn (V.length + 1)).toNatClampNeg = 0 := by
    rw [nn_tn (by omega)]; exact a4.1
  have hk2 : k < 256 := by omega
  refine ⟨mb (mg (mg (mg (mg (mg (mg m 40 (nn S.length)) 39 (nn (V.length + 1))) 38 1) 11 (if mode = 0 then 5 else 9)) 12 (nn w - m.1 16)) 13 (m.1 15)) 42 (nn V.length) 0, ?_, red_st (q := mg (mg (mg (mg (mg (mg m 40 (nn S.length)) 39 (nn (V.length + 1))) 38 1) 11 (if mode = 0 then 5 else 9)) 12 (nn w - m.1 16)) 13 (m.1 15)) T rfl rfl rfl rfl _, FR_b (FR_g (FR_g (FR_g (FR_g (FR_g (FR_g (FR_refl _ _ _) (by decide) _) (by decide) _) (by decide) _) (by decide) _) (by decide) _) (by decide) _) (by decide) _ _, rfl, rfl, rfl, rfl⟩
  have h105 : ∀ q9 : Int32, f151_105 (mg (mg (mg m 40 (nn S.length)) 39 (nn (V.length + 1))) 38 1) (nn k) 1 q9 = some (mb (mg (mg (mg (mg (mg (mg m 40 (nn S.length)) 39 (nn (V.length + 1))) 38 1) 11 q9) 12 (nn w - m.1 16)) 13 (m.1 15)) 42 (nn V.length) 0) := by
    intro q9
    unfold f151_105 f131
    have g40 : (mg (mg (mg m 40 (nn S.length)) 39 (nn (V.length + 1))) 38 1).1 40 = nn S.length := rfl
    have g11 : (mg (mg (mg m 40 (nn S.length)) 39 (nn (V.length + 1))) 38 1).1 11 = 0 := h0
    have g44 : (mg (mg (mg m 40 (nn S.length)) 39 (nn (V.length + 1))) 38 1).2 44 (nn S.length).toNatClampNeg = nn w := t4
    simp only [g40, if_pos t2, g11, if_true, g44, Option.bind_some]
    exact red_0 rfl (by omega)
  have h42' : f151_42 (mg (mg m 40 (nn S.length)) 39 (nn (V.length + 1))) mode (nn k) = some (mb (mg (mg (mg (mg (mg (mg m 40 (nn S.length)) 39 (nn (V.length + 1))) 38 1) 11 (if mode = 0 then 5 else 9)) 12 (nn w - m.1 16)) 13 (m.1 15)) 42 (nn V.length) 0) := by
    unfold f151_42
    simp only [g39, if_pos i2, g42, if_true]
    unfold f151_59 f151_72
    have h77 : f151_77 (mg (mg m 40 (nn S.length)) 39 (nn (V.length + 1))) mode (nn k) 1 1 = some (mb (mg (mg (mg (mg (mg (mg m 40 (nn S.length)) 39 (nn (V.length + 1))) 38 1) 11 (if mode = 0 then 5 else 9)) 12 (nn w - m.1 16)) 13 (m.1 15)) 42 (nn V.length) 0) := by
      unfold f151_77
      rw [if_pos (Or.inr rfl), if_neg (by decide)]
      rcases hm with hm | hm
      · rw [if_neg (by rw [hm]; decide), if_neg (by rw [hm]; decide), if_pos hm, h105, if_pos hm]
      · rw [if_neg (by rw [hm]; decide), if_neg (by rw [hm]; decide), if_neg (by rw [hm]; decide), h105, if_neg (by rw [hm]; decide)]
    rw [h77]
    by_cases q : (mg (mg m 40 (nn S.length)) 39 (nn (V.length + 1))).1 38 = 0
    · rw [if_pos q, if_neg (by decide)]
    · rw [if_neg q]
  unfold f151
  simp only [t1, if_pos t2, t3, e39]
  rw [q_eq (x := 47) (k := 47) rfl hk2 (by decide), q_eq (x := 37) (k := 37) rfl hk2 (by decide), h42']
  by_cases h1 : k = 47
  · rw [if_pos h1]
  · rw [if_neg h1, if_pos (by omega)]
end MD
