/-! THE REFERENCE's brackets, whole. -/
section BS
variable {m0 m ms : mS} {E : Ev} {z : Nat} {trk : Bool} {mode : Int32} {t : Tk} {r tsS : List Tk} {V : List Int32} {S S1 : List Sg} {d what : Nat} {e : Bool} {f a x : Int32}
theorem Ru_mono {n n' : Nat} {w : Int32} {rr : Int32 × mS} (h : n ≤ n') (H : Ru mode n m w rr) : Ru mode n' m w rr := fun u hu => H u (Nat.le_trans h hu)
theorem MC_flaw {B : Nat → Nat} (M : MC m B z (t :: r)) (h4 : 4 < t.1) (h60 : ¬ t.1 = 60) (h62 : ¬ t.1 = 62) : t.2.2.2.2 = none := by
  obtain ⟨T, t', r', e0, e1, e2, e3, e4, e5, e6, e7, e8, e9, e10⟩ := M
  obtain ⟨rfl, rfl⟩ := List.cons.inj e0
  exact e10.2.1 h4 h60 h62
theorem MC_256 {B : Nat → Nat} (M : MC m B z (t :: r)) : t.1 < 256 := by
  obtain ⟨T, t', r', e0, e1, e2, e3, e4, e5, e6, e7, e8, e9, e10⟩ := M
  obtain ⟨rfl, rfl⟩ := List.cons.inj e0
  exact e8
theorem MC_21 {B : Nat → Nat} (M : MC m B z (t :: r)) : m.1 21 = nn t.2.1 := by
  obtain ⟨T, t', r', e0, e1, e2, e3, e4, e5, e6, e7, e8, e9, e10⟩ := M
  obtain ⟨rfl, rfl⟩ := List.cons.inj e0
  exact e3
theorem ov0 (A : ALV m0 E z trk m (t :: r) V S d e) (h : lev t.1 = 0) (hS : low9 S 1) : f156 m mode = some (0, m) := by
  rw [m_goes A.2.1 A.2.2.2.1, if_pos h]
  exact g86_end A.2.2.1 hS
/-- a closing bracket -/
theorem br_close {w9 : Nat} {f9 s9 : Int32} (A : ALV m0 E z trk m (t :: r) (x :: V) ((what, w9, f9, s9) :: S1) (d + 1) e) (hw : what = 1 ∨ what = 2 ∨ what = 3) (hd : d < 100) (hP : PFX S f a S1) (hO : OKS V S) (h41 : t.1 = 41) : ∃ m1, ALV m0 E z trk m1 (t :: r) ((f * brv what x + a) :: V) S d e ∧ ∀ n rr, Ct mode n m1 rr → Ru mode (n + 1) m 1 rr := by
  have M := A.2.1
  have T := A.2.2.1
  have h11 := A.2.2.2.1
  have c10 : ¬ (1 : Int32) = 0 := by decide
  obtain ⟨t1, t2, t3, t4, t5, t6⟩ := red_top T
  obtain ⟨a1, a2, a3, a4, a5, a6, a7⟩ := T
  have T := A.2.2.1
  rw [List.length_cons] at a1 a2 a6 a7
  have e39 : m.1 39 - 1 = nn V.length := by rw [a1, nn_pred]
  have i1 : ib (nn V.length) 160 := (nn_ib (by omega)).mpr (by omega)
  have g42 : m.2 42 (nn V.length).toNatClampNeg = x := by rw [nn_tn (by omega)]; exact a4.1
  have e41 : m.1 41 - 1 = nn d := by rw [a3, nn_pred]
  have hgo := ov0 (mode := mode) A (by rw [h41]; rfl) (show low9 ((what, w9, f9, s9) :: S1) 1 from (by rcases hw with rfl | rfl | rfl <;> decide : what < 256 ∧ lev what < 1))
  have is41 : f142 m 41 = 1 := by
    have := m_is M h11 (k := 41) (by decide) (by decide) (by decide)
    rw [if_pos h41] at this
    exact this
  have cd : ¬ m.1 41 ≤ 0 := by
    rw [a3]
    intro hh
    have hh : nn (d + 1) ≤ nn 0 := hh
    have := (nn_le (by omega) (by omega)).mp hh
    omega
  have Fq : FR [40, 41] [42] m (mb (mg (mg m 41 (nn d)) 40 (nn S1.length)) 42 (nn V.length) (brv what x)) := FR_b (FR_g (FR_g (FR_refl _ _ _) (by decide) _) (by decide) _) (by decide) _ _
  have Tq : ST (mb (mg (mg m 41 (nn d)) 40 (nn S1.length)) 42 (nn V.length) (brv what x)) (brv what x :: V) S1 d := by
    refine ⟨a1, rfl, rfl, ⟨?_, ?_⟩, ?_, by rw [List.length_cons]; omega, by omega⟩
    · show upd (m.2 42) (nn V.length).toNatClampNeg _ V.length = _
      rw [nn_tn (by omega)]; unfold upd; exact if_pos rfl
    · show PL (upd (m.2 42) (nn V.length).toNatClampNeg _) V
      rw [nn_tn (by omega)]
      exact PL_upd (Nat.le_refl _) a4.2
    · exact SL_eq (m := m) (m' := mb (mg (mg m 41 (nn d)) 40 (nn S1.length)) 42 (nn V.length) (brv what x)) rfl rfl rfl rfl a5.2.2.2.2
  obtain ⟨m1, d1, d2, d3⟩ := vdone2 (mode := mode) Tq hP hO
  have F1 : FR [40, 41] [42] m m1 := FR_trans Fq (FR_mono d3 (by decide) (by decide))
  refine ⟨m1, ⟨FR_trans A.1 (FR_mono F1 (by decide) (by decide)), MC_fr F1 M (by decide) (by decide), d2, by rw [F1.1 11 (by decide)]; exact h11, by rw [F1.1 38 (by decide)]; exact A.2.2.2.2.1, fun h => by rw [F1.1 38 (by decide)]; exact A.2.2.2.2.2 h⟩, ?_⟩
  intro n rr hC u hu
  have eu : u = (u - 1) + 1 := by omega
  have hCu := hC (u - 1) (by omega)
  rw [eu, f146_19, if_neg c10, if_pos h11, if_neg c10, hgo, Option.bind_some]
  have fin : ∀ y0, y0 = brv what x → f146_174 (f146_19 (u - 1)) (mg (mg m 41 (nn d)) 40 (nn S1.length)) mode 1 1 y0 (nn V.length) = some rr := by
    intro y0 hy
    subst hy
    unfold f146_174 f146_191
    rw [if_pos i1, d1]
    exact hCu
  simp only [if_true, if_neg cd, is41, if_neg c10, e39, if_pos i1, t1, if_pos t2, t3, e41, g42]
  rcases hw with rfl | rfl | rfl
  · rw [if_neg (show ¬ nn 1 = (2 : Int32) by decide), if_neg (show ¬ nn 1 = (3 : Int32) by decide)]
    exact fin _ rfl
  · rw [if_pos (show nn 2 = (2 : Int32) from rfl)]
    exact fin _ (high_eq x)
  · rw [if_neg (show ¬ nn 3 = (2 : Int32) by decide), if_pos (show nn 3 = (3 : Int32) from rfl)]
    exact fin _ (low_eq x)
/-- no closing bracket where one is due -/
theorem br_none {w9 : Nat} {f9 s9 : Int32} (A : ALV m0 E z trk m (t :: r) (x :: V) ((what, w9, f9, s9) :: S1) (d + 1) e) (hw : what = 1 ∨ what = 2 ∨ what = 3) (hd : d < 100) (hl : lev t.1 = 0) (h41 : ¬ t.1 = 41) : ∃ mD, Ru mode 2 m 1 (0, mD) ∧ DD m0 t.2.1 1 mD := by
  have M := A.2.1
  have h11 := A.2.2.2.1
  have a3 := A.2.2.1.2.2.1
  have c10 : ¬ (1 : Int32) = 0 := by decide
  have hgo := ov0 (mode := mode) A hl (show low9 ((what, w9, f9, s9) :: S1) 1 from (by rcases hw with rfl | rfl | rfl <;> decide : what < 256 ∧ lev what < 1))
  have is41 : f142 m 41 = 0 := by
    have := m_is M h11 (k := 41) (by decide) (by decide) (by decide)
    rw [if_neg h41] at this
    exact this
  have cd : ¬ m.1 41 ≤ 0 := by
    rw [a3]
    intro hh
    have hh : nn (d + 1) ≤ nn 0 := hh
    have := (nn_le (by omega) (by omega)).mp hh
    omega
  obtain ⟨q, q1, q2, q3, q4, q5⟩ := fail_at M h11 1
  have q1 : f131 m 1 (m.1 21) = some q := q1
  have nq : ¬ q.1 11 = 0 := by rw [q3]; decide
  refine ⟨q, ?_, FR_trans A.1 (FR_mono q2 (by decide) (by decide)), q3, by decide, by decide, by rw [q4, A.1.1 16 (by decide)], by rw [q5, A.1.1 15 (by decide)], by rw [q2.1 38 (by decide)]; exact A.2.2.2.2.1⟩
  intro u hu
  have eu : u = (u - 2) + 1 + 1 := by omega
  rw [eu, f146_19, if_neg c10, if_pos h11, if_neg c10, hgo, Option.bind_some]
  unfold f146_194
  simp only [if_true, if_neg cd, is41, q1, Option.bind_some]
  rw [f146_19, if_pos rfl]
  unfold f146_215
  rw [if_neg nq]
end BS
