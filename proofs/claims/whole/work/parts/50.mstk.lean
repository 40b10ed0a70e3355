/-! THE REFERENCE's stacks: values and signs, the top first. -/
abbrev Sg := Nat × Nat × Int32 × Int32
def PL (f : Nat → Int32) : List Int32 → Prop
  | [] => True
  | v :: r => f r.length = v ∧ PL f r
def SL (m : mS) : List Sg → Prop
  | [] => True
  | x :: r => m.2 43 r.length = nn x.1 ∧ m.2 44 r.length = nn x.2.1 ∧ m.2 45 r.length = x.2.2.1 ∧ m.2 46 r.length = x.2.2.2 ∧ SL m r
theorem PL_upd {f : Nat → Int32} {v : Int32} {j : Nat} : ∀ {V : List Int32}, V.length ≤ j → PL f V → PL (upd f j v) V := by
  intro V
  induction V with
  | nil => intro _ _; exact trivial
  | cons x r ih =>
    intro h hp
    rw [List.length_cons] at h
    refine ⟨?_, ih (by omega) hp.2⟩
    unfold upd
    rw [if_neg (by omega)]
    exact hp.1
theorem SL_eq {m m' : mS} (h3 : m'.2 43 = m.2 43) (h4 : m'.2 44 = m.2 44) (h5 : m'.2 45 = m.2 45) (h6 : m'.2 46 = m.2 46) : ∀ {S : List Sg}, SL m S → SL m' S := by
  intro S
  induction S with
  | nil => intro _; exact trivial
  | cons x r ih =>
    intro h
    refine ⟨?_, ?_, ?_, ?_, ih h.2.2.2.2⟩
    · rw [h3]; exact h.1
    · rw [h4]; exact h.2.1
    · rw [h5]; exact h.2.2.1
    · rw [h6]; exact h.2.2.2.1
theorem SL_low {m m' : mS} {j : Nat} (h3 : ∀ i, i < j → m'.2 43 i = m.2 43 i) (h4 : ∀ i, i < j → m'.2 44 i = m.2 44 i) (h5 : ∀ i, i < j → m'.2 45 i = m.2 45 i) (h6 : ∀ i, i < j → m'.2 46 i = m.2 46 i) : ∀ {S : List Sg}, S.length ≤ j → SL m S → SL m' S := by
  intro S
  induction S with
  | nil => intro _ _; exact trivial
  | cons x r ih =>
    intro hl h
    rw [List.length_cons] at hl
    refine ⟨?_, ?_, ?_, ?_, ih (by omega) h.2.2.2.2⟩
    · rw [h3 _ (by omega)]; exact h.1
    · rw [h4 _ (by omega)]; exact h.2.1
    · rw [h5 _ (by omega)]; exact h.2.2.1
    · rw [h6 _ (by omega)]; exact h.2.2.2.1
/-- the stacks of an expression -/
def ST (m : mS) (V : List Int32) (S : List Sg) (d : Nat) : Prop := m.1 39 = nn V.length ∧ m.1 40 = nn S.length ∧ m.1 41 = nn d ∧ PL (m.2 42) V ∧ SL m S ∧ V.length ≤ 160 ∧ S.length ≤ 160
/-- what is left as it was -/
def FR (I A : List Nat) (m m' : mS) : Prop := (∀ k, ¬ k ∈ I → m'.1 k = m.1 k) ∧ ∀ k, ¬ k ∈ A → m'.2 k = m.2 k
theorem FR_refl (I A : List Nat) (m : mS) : FR I A m m := ⟨fun _ _ => rfl, fun _ _ => rfl⟩
theorem FR_trans {I A : List Nat} {m m1 m2 : mS} (h1 : FR I A m m1) (h2 : FR I A m1 m2) : FR I A m m2 := ⟨fun k hk => (h2.1 k hk).trans (h1.1 k hk), fun k hk => (h2.2 k hk).trans (h1.2 k hk)⟩
theorem FR_mono {I I' A A' : List Nat} {m m1 : mS} (h : FR I A m m1) (hi : ∀ k, k ∈ I → k ∈ I') (ha : ∀ k, k ∈ A → k ∈ A') : FR I' A' m m1 := ⟨fun k hk => h.1 k (fun hh => hk (hi k hh)), fun k hk => h.2 k (fun hh => hk (ha k hh))⟩
theorem FR_g {I A : List Nat} {m m1 : mS} (h : FR I A m m1) {k : Nat} (hk : k ∈ I) (x : Int32) : FR I A m (mg m1 k x) := by
  refine ⟨fun j hj => ?_, h.2⟩
  show upd m1.1 k x j = _
  unfold upd
  rw [if_neg (show ¬ j = k from fun e => hj (by rw [e]; exact hk))]
  exact h.1 j hj
theorem FR_b {I A : List Nat} {m m1 : mS} (h : FR I A m m1) {k : Nat} (hk : k ∈ A) (j x : Int32) : FR I A m (mb m1 k j x) := by
  refine ⟨h.1, fun i hi => ?_⟩
  show mm_bu m1.2 k _ i = _
  unfold mm_bu
  rw [if_neg (show ¬ i = k from fun e => hi (by rw [e]; exact hk))]
  exact h.2 i hi
/-- the fields of the stacks -/
def IE : List Nat := [11, 12, 13, 38, 39, 40, 41]
def AE : List Nat := [42, 43, 44, 45, 46]
section MK
variable {m : mS} {V : List Int32} {S : List Sg} {d : Nat} {mode : Int32}
theorem m_push (T : ST m V S d) (hS : S.length < 160) (cx w : Nat) : ∃ m', f154 m (nn cx) (nn w) = some m' ∧ ST m' V ((cx, w, 1, 0) :: S) d ∧ FR [40] [43, 44, 45, 46] m m' := by
  obtain ⟨h1, h2, h3, h4, h5, h6, h7⟩ := T
  have i1 : ib (nn S.length) 160 := (nn_ib (by omega)).mpr hS
  refine ⟨mg (mb (mb (mb (mb m 43 (nn S.length) (nn cx)) 44 (nn S.length) (nn w)) 45 (nn S.length) 1) 46 (nn S.length) 0) 40 (nn (S.length + 1)), ?_, ?_, ?_⟩
  · unfold f154
    simp only [h2, if_pos i1, nn_add1]
  · refine ⟨h1, rfl, h3, h4, ⟨?_, ?_, ?_, ?_, ?_⟩, h6, by rw [List.length_cons]; omega⟩
    · show upd (m.2 43) (nn S.length).toNatClampNeg (nn cx) S.length = _
      rw [nn_tn (by omega)]; unfold upd; exact if_pos rfl
    · show upd (m.2 44) (nn S.length).toNatClampNeg (nn w) S.length = _
      rw [nn_tn (by omega)]; unfold upd; exact if_pos rfl
    · show upd (m.2 45) (nn S.length).toNatClampNeg 1 S.length = _
      rw [nn_tn (by omega)]; unfold upd; exact if_pos rfl
    · show upd (m.2 46) (nn S.length).toNatClampNeg 0 S.length = _
      rw [nn_tn (by omega)]; unfold upd; exact if_pos rfl
    · have low : ∀ (f : Nat → Int32) (x : Int32) (i : Nat), i < S.length → upd f (nn S.length).toNatClampNeg x i = f i := by
        intro f x i hi
        rw [nn_tn (by omega)]; unfold upd; exact if_neg (by omega)
      exact SL_low (j := S.length) (fun i hi => low _ _ i hi) (fun i hi => low _ _ i hi) (fun i hi => low _ _ i hi) (fun i hi => low _ _ i hi) (Nat.le_refl _) h5
  · exact FR_g (FR_b (FR_b (FR_b (FR_b (FR_refl _ _ _) (by decide) _ _) (by decide) _ _) (by decide) _ _) (by decide) _ _) (by decide) _
/-- a value on top -/
theorem m_val (T : ST m V S d) (hV : V.length < 160) (x : Int32) : ST (mg (mb m 42 (m.1 39) x) 39 (m.1 39 + 1)) (x :: V) S d ∧ ib (m.1 39) 160 ∧ FR [39] [42] m (mg (mb m 42 (m.1 39) x) 39 (m.1 39 + 1)) := by
  obtain ⟨h1, h2, h3, h4, h5, h6, h7⟩ := T
  rw [h1]
  refine ⟨⟨?_, h2, h3, ⟨?_, ?_⟩, SL_eq (m := m) (m' := mg (mb m 42 (nn V.length) x) 39 (nn V.length + 1)) rfl rfl rfl rfl h5, by rw [List.length_cons]; omega, h7⟩, (nn_ib (by omega)).mpr hV, FR_g (FR_b (FR_refl _ _ _) (by decide) _ _) (by decide) _⟩
  · show nn V.length + 1 = _
    rw [nn_add1]; rfl
  · show upd (m.2 42) (nn V.length).toNatClampNeg x V.length = _
    rw [nn_tn (by omega)]; unfold upd; exact if_pos rfl
  · show PL (upd (m.2 42) (nn V.length).toNatClampNeg x) V
    rw [nn_tn (by omega)]
    exact PL_upd (Nat.le_refl _) h4
/-- what two values with an operator between make; none: a division by 0 -/
def wk (k : Nat) (x y : Int32) : Int32 := if k = 38 then x &&& y else if k = 42 then x * y else if k = 43 then x + y else if k = 45 then x - y else if k = 60 then x <<< (y &&& 31) else if k = 62 then x >>> (y &&& 31) else if k = 94 then x ^^^ y else if k = 124 then x ||| y else if k = 47 then x / y else x - x / y * y
theorem m_worked {k : Nat} (hk : 0 < lev k) (x y : Int32) (hz : (k = 47 ∨ k = 37) → ¬ y = 0) : f152 (nn k) x y = some (wk k x y) := by
  have hc : k = 37 ∨ k = 38 ∨ k = 42 ∨ k = 43 ∨ k = 45 ∨ k = 47 ∨ k = 60 ∨ k = 62 ∨ k = 94 ∨ k = 124 := by
    unfold lev at hk
    repeat' split at hk
    all_goals omega
  rcases hc with rfl | rfl | rfl | rfl | rfl | rfl | rfl | rfl | rfl | rfl
  · have := hz (Or.inr rfl)
    show (if ¬ y = 0 then some (x - x / y * y) else none) = _
    rw [if_pos this]; rfl
  · rfl
  · rfl
  · rfl
  · rfl
  · have := hz (Or.inl rfl)
    show (if ¬ y = 0 then some (x / y) else none) = _
    rw [if_pos this]; rfl
  · rfl
  · rfl
  · rfl
  · rfl
theorem nn_pm {n : Nat} (h : 0 < n) : nn n - 1 = nn (n - 1) := by
  have e : n = (n - 1) + 1 := by omega
  rw [e, nn_pred]
  rfl
theorem f151_40 {m m' : mS} (h : f151 m mode = some m') : m'.1 40 = m.1 40 - 1 := by
  have h131 : ∀ (q q' : mS) (a b : Int32), f131 q a b = some q' → q'.1 40 = q.1 40 := by
    intro q q' a b hh
    unfold f131 at hh
    by_cases h0 : q.1 11 = 0
    · rw [if_pos h0] at hh; cases hh; rfl
    · rw [if_neg h0] at hh; cases hh; rfl
  have h159 : ∀ (q q' : mS) (a b : Int32), f151_159 q a b = some q' → q'.1 40 = q.1 40 := by
    intro q q' a b hh
    unfold f151_159 at hh
    obtain ⟨_, hh⟩ := of_if hh
    cases hh; rfl
  have h117 : ∀ (q q' : mS) (a b : Int32), f151_117 q a b = some q' → q'.1 40 = q.1 40 := by
    intro q q' a b hh
    unfold f151_117 at hh
    by_cases h0 : b = 0
    · rw [if_pos h0] at hh
      obtain ⟨_, hh⟩ := of_if hh
      obtain ⟨_, hh⟩ := of_if hh
      obtain ⟨_, _, hh⟩ := of_bind hh
      exact h159 _ _ _ _ hh
    · rw [if_neg h0] at hh; exact h159 _ _ _ _ hh
  have h105 : ∀ (q q' : mS) (a b y : Int32), f151_105 q a b y = some q' → q'.1 40 = q.1 40 := by
    intro q q' a b y hh
    unfold f151_105 at hh
    obtain ⟨_, hh⟩ := of_if hh
    obtain ⟨r, h1, hh⟩ := of_bind hh
    rw [h117 _ _ _ _ hh, h131 _ _ _ _ h1]
  have h77 : ∀ (q q' : mS) (a b e y : Int32), f151_77 q a b e y = some q' → q'.1 40 = q.1 40 := by
    intro q q' a b e y hh
    unfold f151_77 at hh
    obtain ⟨_, hh⟩ := of_if hh
    repeat' split at hh
    · rw [h117 _ _ _ _ hh]; rfl
    · rw [h117 _ _ _ _ hh]; rfl
    · rw [h117 _ _ _ _ hh]; rfl
    · rw [h105 _ _ _ _ _ hh]; rfl
    · rw [h105 _ _ _ _ _ hh]; rfl
  have h59 : ∀ (q q' : mS) (a b y : Int32), f151_59 q a b y = some q' → q'.1 40 = q.1 40 := by
    intro q q' a b y hh
    unfold f151_59 f151_72 at hh
    repeat' split at hh
    all_goals exact h77 _ _ _ _ _ _ hh
  unfold f151 f151_42 f151_58 at h
  obtain ⟨_, h⟩ := of_if h
  repeat' split at h
  all_goals first | (exact (h59 _ _ _ _ _ h)) | (cases h)
end MK
