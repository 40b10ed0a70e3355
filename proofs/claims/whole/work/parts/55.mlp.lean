/-! THE REFERENCE's expression loop: its turns, and what it does behind an error. -/
section LP9
variable {m : mS} {B : Nat → Nat} {z : Nat} {ts : List Tk} {t : Tk} {r : List Tk} {V : List Int32} {S : List Sg} {d k w u : Nat} {x y f9 s9 mode : Int32}
theorem lp_dead (h : ¬ m.1 11 = 0) (w9 : Int32) : f146_19 (u + 1) m mode w9 1 = some (0, m) := by
  have c10 : ¬ (1 : Int32) = 0 := by decide
  rw [f146_19, if_neg c10, if_neg h]
  unfold f146_215
  rw [if_neg h]
theorem lp_0 (h : m.1 11 = 0) : f146_19 (u + 1) m mode 0 1 = (f147 m mode).bind fun r1 => if r1.1 = 0 then f146_19 u r1.2 mode r1.1 1 else if r1.2.1 11 = 0 then (f117 r1.2).bind fun r2 => f146_19 u r2 mode r1.1 1 else f146_19 u r1.2 mode r1.1 1 := by
  have c10 : ¬ (1 : Int32) = 0 := by decide
  rw [f146_19, if_neg c10, if_pos h, if_pos rfl]
theorem f131_alive (h : m.1 11 = 0) (a b : Int32) : f131 m a b = some (mg (mg (mg m 11 a) 12 (b - m.1 16)) 13 (m.1 15)) := by unfold f131; rw [if_pos h]
theorem f131_dead (h : ¬ m.1 11 = 0) (a b : Int32) : f131 m a b = some m := by unfold f131; rw [if_neg h]
/-- behind an error the error stays -/
def KE (m m' : mS) : Prop := m'.1 11 = m.1 11 ∧ m'.1 12 = m.1 12 ∧ m'.1 13 = m.1 13
theorem KE_of {I A : List Nat} {m' : mS} (h : FR I A m m') (h1 : ¬ 11 ∈ I ∧ ¬ 12 ∈ I ∧ ¬ 13 ∈ I) : KE m m' := ⟨h.1 11 h1.1, h.1 12 h1.2.1, h.1 13 h1.2.2⟩
theorem KE_trans {m1 m2 : mS} (h1 : KE m m1) (h2 : KE m1 m2) : KE m m2 := ⟨h2.1.trans h1.1, h2.2.1.trans h1.2.1, h2.2.2.trans h1.2.2⟩
theorem f151_dead (T : ST m (y :: x :: V) ((k, w, f9, s9) :: S) d) (hk : 0 < lev k) (hk2 : k < 256) (hb : bz (m.1 38)) (h11 : ¬ m.1 11 = 0) : ∃ m' v, f151 m mode = some m' ∧ ST m' (v :: V) S d ∧ FR [38, 39, 40] [42] m m' ∧ bz (m'.1 38) := by
  by_cases hz : (k = 47 ∨ k = 37) ∧ y = 0
  · obtain ⟨hq, rfl⟩ := hz
    obtain ⟨t1, t2, t3, t4, t5, t6⟩ := red_top T
    have a1 := T.1
    have a4 := T.2.2.2.1
    have a6 := T.2.2.2.2.2.1
    rw [List.length_cons, List.length_cons] at a1 a6
    have e39 : m.1 39 - 1 = nn (V.length + 1) := by rw [a1, nn_pred]
    have i2 : ib (nn (V.length + 1)) 160 := (nn_ib (by omega)).mpr (by omega)
    have g39 : (mg (mg m 40 (nn S.length)) 39 (nn (V.length + 1))).1 39 = nn (V.length + 1) := rfl
    have g42 : (mg (mg m 40 (nn S.length)) 39 (nn (V.length + 1))).2 42 (nn (V.length + 1)).toNatClampNeg = 0 := by
      rw [nn_tn (by omega)]; exact a4.1
    refine ⟨mb (mg (mg (mg m 40 (nn S.length)) 39 (nn (V.length + 1))) 38 1) 42 (nn V.length) 0, 0, ?_, red_st (q := mg (mg (mg m 40 (nn S.length)) 39 (nn (V.length + 1))) 38 1) T rfl rfl rfl rfl _, FR_b (FR_g (FR_g (FR_g (FR_refl _ _ _) (by decide) _) (by decide) _) (by decide) _) (by decide) _ _, Or.inr rfl⟩
    have h105 : ∀ q9 : Int32, f151_105 (mg (mg (mg m 40 (nn S.length)) 39 (nn (V.length + 1))) 38 1) (nn k) 1 q9 = some (mb (mg (mg (mg m 40 (nn S.length)) 39 (nn (V.length + 1))) 38 1) 42 (nn V.length) 0) := by
      intro q9
      unfold f151_105
      have g40 : (mg (mg (mg m 40 (nn S.length)) 39 (nn (V.length + 1))) 38 1).1 40 = nn S.length := rfl
      rw [g40, if_pos t2, f131_dead (show ¬ (mg (mg (mg m 40 (nn S.length)) 39 (nn (V.length + 1))) 38 1).1 11 = 0 from h11), Option.bind_some]
      exact red_0 rfl (by omega)
    have h42' : f151_42 (mg (mg m 40 (nn S.length)) 39 (nn (V.length + 1))) mode (nn k) = some (mb (mg (mg (mg m 40 (nn S.length)) 39 (nn (V.length + 1))) 38 1) 42 (nn V.length) 0) := by
      unfold f151_42
      simp only [g39, if_pos i2, g42, if_true]
      unfold f151_59 f151_72
      have h77 : f151_77 (mg (mg m 40 (nn S.length)) 39 (nn (V.length + 1))) mode (nn k) 1 1 = some (mb (mg (mg (mg m 40 (nn S.length)) 39 (nn (V.length + 1))) 38 1) 42 (nn V.length) 0) := by
        have r0 := red_0 (k := k) (q := mg (mg (mg m 40 (nn S.length)) 39 (nn (V.length + 1))) 38 1) (V := V) rfl (by omega)
        unfold f151_77
        rw [if_pos (Or.inr rfl), if_neg (by decide), h105, h105, r0]
        repeat' split
        all_goals rfl
      rw [h77]
      by_cases q : (mg (mg m 40 (nn S.length)) 39 (nn (V.length + 1))).1 38 = 0
      · rw [if_pos q, if_neg (by decide)]
      · rw [if_neg q]
    unfold f151
    simp only [t1, if_pos t2, t3, e39]
    rw [q_eq (x := 47) (k := 47) rfl hk2 (by decide), q_eq (x := 37) (k := 37) rfl hk2 (by decide), h42']
    by_cases h1 : k = 47
    · rw [if_pos h1]
    · rw [if_neg h1, if_pos (by omega)]
  · have hz' : (k = 47 ∨ k = 37) → ¬ y = 0 := fun h1 h2 => hz ⟨h1, h2⟩
    exact ⟨_, _, m_redE T hk hk2 hz' hb, rdS_st T _, FR_mono (rdS_fr _ _ _) (by decide) (by decide), hb⟩
/-- the signs that stand when an operand is due: no sign before one, and * / % have their first operand -/
def OKS (V : List Int32) (S : List Sg) : Prop := match S with
  | [] => True
  | g :: _ => g.1 < 256 ∧ ¬ g.1 = 4 ∧ (lev g.1 = 6 → ∃ x V', V = x :: V')
theorem f74_dead (T : ST m (y :: V) S d) (hS : OKS V S) (hb : bz (m.1 38)) (h11 : ¬ m.1 11 = 0) : ∃ m' V' S', f149_74 m mode = some m' ∧ FR [38, 39, 40] [42] m m' ∧ bz (m'.1 38) ∧ ST m' V' S' d := by
  cases S with
  | nil => exact ⟨m, _, _, m_74 T trivial, FR_refl _ _ _, hb, T⟩
  | cons g S1 =>
    obtain ⟨k, w, f9, s9⟩ := g
    obtain ⟨o1, o2, o3⟩ := hS
    have o1 : k < 256 := o1
    by_cases h6 : lev k = 6
    · obtain ⟨x, V', rfl⟩ := o3 h6
      rw [m_74r T o1 h6]
      obtain ⟨m', v, q1, q2, q3, q4⟩ := f151_dead (mode := mode) T (by omega) o1 hb h11
      exact ⟨m', _, _, q1, q3, q4, q2⟩
    · exact ⟨m, _, _, m_74 T ⟨o1, h6⟩, FR_refl _ _ _, hb, T⟩
end LP9
