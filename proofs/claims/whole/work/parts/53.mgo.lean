/-! THE REFERENCE's goesOn: an operator that must be reduced may as well be reduced before. -/
section MG9
variable {m : mS} {V : List Int32} {S : List Sg} {d k w : Nat} {x y f9 s9 mode : Int32}
/-- the state after a reduce -/
def rdS (m : mS) (ns nv : Nat) (v : Int32) : mS := mb (mg (mg m 40 (nn ns)) 39 (nn (nv + 1))) 42 (nn nv) v
theorem m_redE (T : ST m (y :: x :: V) ((k, w, f9, s9) :: S) d) (hk : 0 < lev k) (hk2 : k < 256) (hz : (k = 47 ∨ k = 37) → ¬ y = 0) (hl : bz (m.1 38)) : f151 m mode = some (rdS m S.length V.length (wk k x y)) := by
  obtain ⟨t1, t2, t3, t4, t5, t6⟩ := red_top T
  have a1 := T.1
  have a4 := T.2.2.2.1
  have a6 := T.2.2.2.2.2.1
  rw [List.length_cons, List.length_cons] at a1 a6
  have e39 : m.1 39 - 1 = nn (V.length + 1) := by rw [a1, nn_pred]
  have main : f151_58 (mg (mg m 40 (nn S.length)) 39 (nn (V.length + 1))) mode (nn k) = some (rdS m S.length V.length (wk k x y)) := by
    have fin : ∀ b : Int32, bz b → b = m.1 38 → f151_77 (mg (mg m 40 (nn S.length)) 39 (nn (V.length + 1))) mode (nn k) 0 b = some (rdS m S.length V.length (wk k x y)) := by
      intro b hb he
      have e38 : mg (mg (mg m 40 (nn S.length)) 39 (nn (V.length + 1))) 38 b = mg (mg m 40 (nn S.length)) 39 (nn (V.length + 1)) := by
        refine Prod.ext (funext fun j => ?_) rfl
        show upd (mg (mg m 40 (nn S.length)) 39 (nn (V.length + 1))).1 38 b j = _
        unfold upd
        by_cases hj : j = 38
        · rw [if_pos hj, hj, he]; rfl
        · rw [if_neg hj]
      unfold f151_77
      rw [if_pos hb, if_pos rfl, e38]
      exact red_117 (n := 0) rfl (by omega) a4 hk hz
    have h38 : (mg (mg m 40 (nn S.length)) 39 (nn (V.length + 1))).1 38 = m.1 38 := rfl
    unfold f151_58 f151_59 f151_72
    rcases hl with hl | hl
    · rw [h38, hl, if_pos rfl, if_pos rfl]
      exact fin 0 (Or.inl rfl) hl.symm
    · rw [h38, hl, if_neg (by decide)]
      exact fin 1 (Or.inr rfl) hl.symm
  unfold f151
  simp only [t1, if_pos t2, t3, e39]
  rw [q_eq (x := 47) (k := 47) rfl hk2 (by decide), q_eq (x := 37) (k := 37) rfl hk2 (by decide)]
  unfold f151_42
  have i2 : ib (nn (V.length + 1)) 160 := (nn_ib (by omega)).mpr (by omega)
  have g39 : (mg (mg m 40 (nn S.length)) 39 (nn (V.length + 1))).1 39 = nn (V.length + 1) := rfl
  have g42 : (mg (mg m 40 (nn S.length)) 39 (nn (V.length + 1))).2 42 (nn (V.length + 1)).toNatClampNeg = y := by
    rw [nn_tn (by omega)]; exact a4.1
  simp only [g39, if_pos i2, g42]
  by_cases h1 : k = 47
  · rw [if_pos h1, if_neg (hz (Or.inl h1)), main]
  · rw [if_neg h1]
    by_cases h2 : k = 37
    · rw [if_pos h2, if_neg (hz (Or.inr h2)), main]
    · rw [if_neg h2, main]
theorem rdS_st (T : ST m (y :: x :: V) ((k, w, f9, s9) :: S) d) (v : Int32) : ST (rdS m S.length V.length v) (v :: V) S d := red_st (q := mg (mg m 40 (nn S.length)) 39 (nn (V.length + 1))) T rfl rfl rfl rfl v
theorem rdS_fr (ns nv : Nat) (v : Int32) : FR [39, 40] [42] m (rdS m ns nv v) := FR_b (FR_g (FR_g (FR_refl _ _ _) (by decide) _) (by decide) _) (by decide) _ _
theorem g35_fuel {x2 : Int32} : ∀ (n : Nat) (m : mS) (u u2 : Nat), m.1 40 = nn n → n ≤ 160 → n < u → n < u2 → f156_35 u m mode x2 = f156_35 u2 m mode x2 := by
  intro n
  induction n with
  | zero =>
    intro m u u2 h _ h1 h2
    have e1 : u = (u - 1) + 1 := by omega
    have e2 : u2 = (u2 - 1) + 1 := by omega
    rw [e1, e2, f156_35, f156_35, h, if_pos (show nn 0 ≤ (0 : Int32) by decide), if_pos (show nn 0 ≤ (0 : Int32) by decide)]
  | succ n ih =>
    intro m u u2 h h160 h1 h2
    have e1 : u = (u - 1) + 1 := by omega
    have e2 : u2 = (u2 - 1) + 1 := by omega
    rw [e1, e2, f156_35, f156_35]
    cases hf : f151 m mode with
    | none => rfl
    | some m' =>
      have h40 := f151_40 hf
      rw [h, nn_pred] at h40
      rw [Option.bind_some, Option.bind_some, ih m' (u - 1) (u2 - 1) h40 (by omega) (by omega) (by omega)]
theorem g86_fuel : ∀ (n : Nat) (m : mS) (u u2 : Nat), m.1 40 = nn n → n ≤ 160 → n < u → n < u2 → f156_86 u m mode = f156_86 u2 m mode := by
  intro n
  induction n with
  | zero =>
    intro m u u2 h _ h1 h2
    have e1 : u = (u - 1) + 1 := by omega
    have e2 : u2 = (u2 - 1) + 1 := by omega
    rw [e1, e2, f156_86, f156_86, h, if_pos (show nn 0 ≤ (0 : Int32) by decide), if_pos (show nn 0 ≤ (0 : Int32) by decide)]
  | succ n ih =>
    intro m u u2 h h160 h1 h2
    have e1 : u = (u - 1) + 1 := by omega
    have e2 : u2 = (u2 - 1) + 1 := by omega
    rw [e1, e2, f156_86, f156_86]
    cases hf : f151 m mode with
    | none => rfl
    | some m' =>
      have h40 := f151_40 hf
      rw [h, nn_pred] at h40
      rw [Option.bind_some, Option.bind_some, ih m' (u - 1) (u2 - 1) h40 (by omega) (by omega) (by omega)]
theorem top_pos (T : ST m V ((k, w, f9, s9) :: S) d) : ¬ m.1 40 ≤ 0 := by
  have a2 := T.2.1
  have a7 := T.2.2.2.2.2.2
  rw [List.length_cons] at a2 a7
  rw [a2]
  intro hh
  have hh : nn (S.length + 1) ≤ nn 0 := hh
  have := (nn_le (by omega) (by omega)).mp hh
  omega
/-- the loop of goesOn before an operator of level l, one turn ahead -/
theorem g35_red (T : ST m (y :: x :: V) ((k, w, f9, s9) :: S) d) (hk2 : k < 256) {l : Nat} (hl0 : 0 < l) (hkl : l ≤ lev k) (hz : (k = 47 ∨ k = 37) → ¬ y = 0) (hl : bz (m.1 38)) : f156_35 mm_U m mode (nn l) = f156_35 mm_U (rdS m S.length V.length (wk k x y)) mode (nn l) := by
  obtain ⟨t1, t2, t3, t4, t5, t6⟩ := red_top T
  have hlev := lev_le k
  have a7 := T.2.2.2.2.2.2
  rw [List.length_cons] at a7
  have c2 : ¬ f150 (nn k) < nn l := by
    rw [f150_nn hk2]
    intro hh
    have := (nn_lt (by omega) (by omega)).mp hh
    omega
  rw [show mm_U = 199999 + 1 from rfl, f156_35, if_neg (top_pos T)]
  simp only [t1, if_pos t2, t3, if_neg c2]
  rw [m_redE T (by omega) hk2 hz hl, Option.bind_some]
  exact g35_fuel S.length _ _ _ rfl (by omega) (by omega) (by omega)
theorem g86_red (T : ST m (y :: x :: V) ((k, w, f9, s9) :: S) d) (hk2 : k < 256) (hkl : 0 < lev k) (hz : (k = 47 ∨ k = 37) → ¬ y = 0) (hl : bz (m.1 38)) : f156_86 mm_U m mode = f156_86 mm_U (rdS m S.length V.length (wk k x y)) mode := by
  obtain ⟨t1, t2, t3, t4, t5, t6⟩ := red_top T
  have hlev := lev_le k
  have a7 := T.2.2.2.2.2.2
  rw [List.length_cons] at a7
  have c2 : ¬ f150 (nn k) ≤ 0 := by
    rw [f150_nn hk2]
    intro hh
    have hh : nn (lev k) ≤ nn 0 := hh
    have := (nn_le (by omega) (by omega)).mp hh
    omega
  rw [show mm_U = 199999 + 1 from rfl, f156_86, if_neg (top_pos T)]
  simp only [t1, if_pos t2, t3, if_neg c2]
  rw [m_redE T hkl hk2 hz hl, Option.bind_some]
  exact g86_fuel S.length _ _ _ rfl (by omega) (by omega) (by omega)
/-- the loop of goesOn at its end: the top sign binds less, or there is none -/
def low9 (S : List Sg) (l : Nat) : Prop := match S with
  | [] => True
  | g :: _ => g.1 < 256 ∧ lev g.1 < l
theorem g35_end (T : ST m V S d) {l : Nat} (hl : low9 S l) (hl7 : l < 256) : f156_35 mm_U m mode (nn l) = f156_68 m := by
  rw [show mm_U = 199999 + 1 from rfl, f156_35]
  cases S with
  | nil => rw [show m.1 40 = nn 0 from T.2.1, if_pos (show nn 0 ≤ (0 : Int32) by decide)]
  | cons g r =>
    obtain ⟨k, w, f9, s9⟩ := g
    obtain ⟨t1, t2, t3, t4, t5, t6⟩ := red_top T
    have h' : k < 256 ∧ lev k < l := hl
    have hlev := lev_le k
    have c2 : f150 (nn k) < nn l := by
      rw [f150_nn h'.1]
      exact (nn_lt (by omega) (by omega)).mpr h'.2
    rw [if_neg (top_pos T)]
    simp only [t1, if_pos t2, t3, if_pos c2]
theorem g86_end (T : ST m V S d) (hl : low9 S 1) : f156_86 mm_U m mode = some (0, m) := by
  rw [show mm_U = 199999 + 1 from rfl, f156_86]
  cases S with
  | nil => rw [show m.1 40 = nn 0 from T.2.1, if_pos (show nn 0 ≤ (0 : Int32) by decide)]
  | cons g r =>
    obtain ⟨k, w, f9, s9⟩ := g
    obtain ⟨t1, t2, t3, t4, t5, t6⟩ := red_top T
    have h' : k < 256 ∧ lev k < 1 := hl
    have c2 : f150 (nn k) ≤ 0 := by
      rw [f150_nn h'.1]
      have e : lev k = 0 := by omega
      rw [e]; decide
    rw [if_neg (top_pos T)]
    simp only [t1, if_pos t2, t3, if_pos c2]
/-- fail and reduce change places -/
theorem fail_red (ns nv : Nat) (v why wh : Int32) (h0 : m.1 11 = 0) : ∃ mF, f131 m why wh = some mF ∧ f131 (rdS m ns nv v) why wh = some (rdS mF ns nv v) ∧ FR [11, 12, 13] [] m mF ∧ mF.1 11 = why ∧ mF.1 12 = wh - m.1 16 ∧ mF.1 13 = m.1 15 := by
  refine ⟨mg (mg (mg m 11 why) 12 (wh - m.1 16)) 13 (m.1 15), ?_, ?_, FR_g (FR_g (FR_g (FR_refl _ _ _) (by decide) _) (by decide) _) (by decide) _, rfl, rfl, rfl⟩
  · unfold f131; rw [if_pos h0]
  · unfold f131
    rw [if_pos (show (rdS m ns nv v).1 11 = 0 from h0)]
    congr 1
    refine Prod.ext (funext fun j => ?_) rfl
    show upd (upd (upd (upd (upd m.1 40 _) 39 _) 11 _) 12 _) 13 _ j = upd (upd (upd (upd (upd m.1 11 _) 12 _) 13 _) 40 _) 39 _ j
    unfold upd
    by_cases j1 : j = 11
    · simp [j1]
    by_cases j2 : j = 12
    · simp [j2]; rfl
    by_cases j3 : j = 13
    · simp [j3]; rfl
    by_cases j4 : j = 39
    · simp [j4]
    by_cases j5 : j = 40
    · simp [j5]
    simp [j1, j2, j3, j4, j5]
end MG9
