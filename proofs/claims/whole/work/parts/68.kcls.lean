/-! THE CLASS's statements: frames, the cursor, what is thrown. -/
def CF (I : List (Nat × Nat)) (c c' : cS) : Prop := (∀ i j, ¬ (i, j) ∈ I → c'.1 i j = c.1 i j) ∧ c'.2 = c.2
theorem CF_refl (I : List (Nat × Nat)) (c : cS) : CF I c c := ⟨fun _ _ _ => rfl, rfl⟩
theorem CF_trans {I : List (Nat × Nat)} {c c1 c2 : cS} (h1 : CF I c c1) (h2 : CF I c1 c2) : CF I c c2 := ⟨fun i j h => (h2.1 i j h).trans (h1.1 i j h), h2.2.trans h1.2⟩
theorem CF_mono {I J : List (Nat × Nat)} {c c1 : cS} (h : CF I c c1) (hi : ∀ x, x ∈ I → x ∈ J) : CF J c c1 := ⟨fun i j hj => h.1 i j (fun hh => hj (hi _ hh)), h.2⟩
theorem CF_g {I : List (Nat × Nat)} {c c1 : cS} (h : CF I c c1) {i j : Nat} (hi : (i, j) ∈ I) (x : Int32) : CF I c (cg c1 i j x) := by
  refine ⟨fun p q hq => ?_, h.2⟩
  show (if q = j ∧ p = i then x else c1.1 p q) = c.1 p q
  rw [if_neg (fun hh => hq (by rw [hh.1, hh.2]; exact hi))]
  exact h.1 p q hq
def ICU : List (Nat × Nat) := [(11, 3), (11, 4), (11, 5), (11, 15), (17, 3)]
theorem cz_cf (c : cS) (i : Nat) (t : Tk) (er : Int32) : CF ICU c (cz c i t er) := by
  refine ⟨fun p q hq => ?_, rfl⟩
  show (if q = 3 ∧ p = 11 then nn t.1 else if q = 4 ∧ p = 11 then nn t.2.1 else if q = 5 ∧ p = 11 then t.2.2.1 else if q = 15 ∧ p = 11 then nn i else if q = 3 ∧ p = 17 then er else c.1 p q) = c.1 p q
  unfold ICU at hq
  rw [if_neg (fun hh => hq (by rw [hh.1, hh.2]; decide)), if_neg (fun hh => hq (by rw [hh.1, hh.2]; decide)), if_neg (fun hh => hq (by rw [hh.1, hh.2]; decide)), if_neg (fun hh => hq (by rw [hh.1, hh.2]; decide)), if_neg (fun hh => hq (by rw [hh.1, hh.2]; decide))]
/-- the cursor -/
def CUi (s : cS) (T0 : List Tk) (ts : List Tk) (er : Int32) : Prop := ∃ i t r, ts = t :: r ∧ T0.drop i = t :: r ∧ s.1 11 3 = nn t.1 ∧ s.1 11 4 = nn t.2.1 ∧ s.1 11 5 = t.2.2.1 ∧ s.1 11 15 = nn i ∧ s.1 17 3 = er
abbrev CU (s : cS) (T0 : List Tk) (ts : List Tk) (e : Bool) : Prop := CUi s T0 ts (eb e)
theorem cz_self {s : cS} {i : Nat} {t : Tk} {er : Int32} (h1 : s.1 11 3 = nn t.1) (h2 : s.1 11 4 = nn t.2.1) (h3 : s.1 11 5 = t.2.2.1) (h4 : s.1 11 15 = nn i) (h5 : s.1 17 3 = er) : cz s i t er = s := by
  refine Prod.ext ?_ rfl
  funext p q
  show (if q = 3 ∧ p = 11 then nn t.1 else if q = 4 ∧ p = 11 then nn t.2.1 else if q = 5 ∧ p = 11 then t.2.2.1 else if q = 15 ∧ p = 11 then nn i else if q = 3 ∧ p = 17 then er else s.1 p q) = s.1 p q
  by_cases c1 : q = 3 ∧ p = 11
  · rw [if_pos c1, c1.1, c1.2, h1]
  rw [if_neg c1]
  by_cases c2 : q = 4 ∧ p = 11
  · rw [if_pos c2, c2.1, c2.2, h2]
  rw [if_neg c2]
  by_cases c3 : q = 5 ∧ p = 11
  · rw [if_pos c3, c3.1, c3.2, h3]
  rw [if_neg c3]
  by_cases c4 : q = 15 ∧ p = 11
  · rw [if_pos c4, c4.1, c4.2, h4]
  rw [if_neg c4]
  by_cases c5 : q = 3 ∧ p = 17
  · rw [if_pos c5, c5.1, c5.2, h5]
  rw [if_neg c5]
theorem CU_cz {c : cS} {T0 : List Tk} {i : Nat} {t : Tk} {r : List Tk} {er : Int32} (hd : T0.drop i = t :: r) : CUi (cz c i t er) T0 (t :: r) er := ⟨i, t, r, rfl, hd, rfl, rfl, rfl, rfl, rfl⟩
theorem CU_cf {I : List (Nat × Nat)} {s s' : cS} {T0 ts : List Tk} {er : Int32} (F : CF I s s') (hI : ∀ x ∈ ICU, ¬ x ∈ I) (U : CUi s T0 ts er) : CUi s' T0 ts er := by
  obtain ⟨i, t, r, h0, h1, h2, h3, h4, h5, h6⟩ := U
  refine ⟨i, t, r, h0, h1, ?_, ?_, ?_, ?_, ?_⟩
  · rw [F.1 11 3 (hI _ (by decide))]; exact h2
  · rw [F.1 11 4 (hI _ (by decide))]; exact h3
  · rw [F.1 11 5 (hI _ (by decide))]; exact h4
  · rw [F.1 11 15 (hI _ (by decide))]; exact h5
  · rw [F.1 17 3 (hI _ (by decide))]; exact h6
/-- what is done: as the spec says, or thrown from a state with D -/
def KR {α β : Type} (D : cS → Prop) (P : α → β → Prop) (x : Option (Rx α)) (y : Option (β ⊕ cS)) : Prop := match x with
  | none => True
  | some (.inl q) => ∃ b, y = some (.inl b) ∧ P q b
  | some (.inr p) => ∃ s', y = some (.inr (f46 s' (nn p.1) (nn p.2))) ∧ D s'
theorem kr_b {α β γ δ : Type} {D : cS → Prop} {P : α → β → Prop} {Q : γ → δ → Prop} {x : Option (Rx α)} {y : Option (β ⊕ cS)} {g : α → Option (Rx γ)} {h : β → Option (δ ⊕ cS)} (H : KR D P x y) (K : ∀ q b, P q b → KR D Q (g q) (h b)) : KR D Q (xb x g) (tb y h) := by
  cases x with
  | none => exact trivial
  | some x9 =>
    cases x9 with
    | inl q =>
      obtain ⟨b, rfl, h2⟩ := H
      exact K q b h2
    | inr p =>
      obtain ⟨s', rfl, h2⟩ := H
      exact ⟨s', rfl, h2⟩
theorem kr_mono {α β : Type} {D D' : cS → Prop} {P P' : α → β → Prop} {x : Option (Rx α)} {y : Option (β ⊕ cS)} (H : KR D P x y) (hD : ∀ s, D s → D' s) (hP : ∀ q b, P q b → P' q b) : KR D' P' x y := by
  cases x with
  | none => exact trivial
  | some x9 =>
    cases x9 with
    | inl q =>
      obtain ⟨b, h1, h2⟩ := H
      exact ⟨b, h1, hP q b h2⟩
    | inr p =>
      obtain ⟨s', h1, h2⟩ := H
      exact ⟨s', h1, hD s' h2⟩
section KC
variable {s : cS} {L a z tl Ls : Nat} {T0 ts : List Tk} {E : Ev} {e : Bool}
/-- an expression's context does not hang on the cursor and the operands -/
def ICX : List (Nat × Nat) := [(11, 9), (11, 10), (11, 14), (11, 16), (11, 17), (11, 6), (2, 0), (17, 0), (17, 1), (17, 2)]
theorem CTX_cf {I : List (Nat × Nat)} {s' : cS} (F : CF I s s') (hI : ∀ x ∈ ICX, ¬ x ∈ I) (X : CTX s L a z tl Ls T0 E) : CTX s' L a z tl Ls T0 E := by
  obtain ⟨f, s2⟩ := s
  obtain ⟨f', s2'⟩ := s'
  have e2 : s2' = s2 := F.2
  subst e2
  have g1 : f' 11 9 = f 11 9 := F.1 11 9 (hI _ (by decide))
  have g2 : f' 11 10 = f 11 10 := F.1 11 10 (hI _ (by decide))
  have g3 : f' 11 14 = f 11 14 := F.1 11 14 (hI _ (by decide))
  have g4 : f' 11 16 = f 11 16 := F.1 11 16 (hI _ (by decide))
  have g5 : f' 11 17 = f 11 17 := F.1 11 17 (hI _ (by decide))
  have g6 : f' 11 6 = f 11 6 := F.1 11 6 (hI _ (by decide))
  have g7 : f' 2 0 = f 2 0 := F.1 2 0 (hI _ (by decide))
  have g8 : f' 17 0 = f 17 0 := F.1 17 0 (hI _ (by decide))
  have g9 : f' 17 1 = f 17 1 := F.1 17 1 (hI _ (by decide))
  have g10 : f' 17 2 = f 17 2 := F.1 17 2 (hI _ (by decide))
  obtain ⟨x1, x2, x3, x4, x5, x6, x7, x8, x9, x10, x11, x12, x13⟩ := X
  refine ⟨⟨x1.1, x1.2.1, x1.2.2.1, x1.2.2.2.1, ?_, ?_⟩, ⟨?_, ?_, x2.2.2⟩, x3, x4, x5, ⟨?_, x6.2⟩, ?_, x8, ?_, ?_, ?_, x12, x13⟩
  · intro h
    have := x1.2.2.2.2.1 h
    exact ⟨g4.trans this.1, g3.trans this.2⟩
  · intro w h
    have := x1.2.2.2.2.2 w h
    exact ⟨g4.trans this.1, g5.trans this.2.1, g3.trans this.2.2.1, this.2.2.2⟩
  · exact g1.trans x2.1
  · exact g2.trans x2.2.1
  · exact g7.trans x6.1
  · exact g8.trans x7
  · exact g9.trans x9
  · exact g10.trans x10
  · exact g6.trans x11
theorem k_exp (D : cS → Prop) (hD : ∀ s', CF ICU s s' → D s') (X : CTX s L a z tl Ls T0 E) (U : CU s T0 ts e) {k : Nat} (hk : k < 256) (hk0 : 0 < k) : KR D (fun r s' => CU s' T0 r e ∧ CF ICU s s') (xExp k ts) (f45 s (nn k)) := by
  obtain ⟨i, t, r, rfl, h1, h2, h3, h4, h5, h6⟩ := U
  have hs := cz_self h2 h3 h4 h5 h6
  have H := c_exp (er := eb e) X.1 h1 (tok_of X h1).1 hk hk0
  rw [hs] at H
  cases hx : xExp k (t :: r) with
  | none => exact trivial
  | some y =>
    rw [hx] at H
    cases y with
    | inl q =>
      obtain ⟨i', t', r', rfl, g2, g3⟩ := H
      exact ⟨_, g3, CU_cz g2, cz_cf s i' t' (eb e)⟩
    | inr p =>
      obtain ⟨i', t', er', g3⟩ := H
      exact ⟨_, g3, hD _ (cz_cf s i' t' er')⟩
theorem k_x (D : cS → Prop) (hD : ∀ s', CF ICU s s' → D s') (X : CTX s L a z tl Ls T0 E) (hT : T0.length ≤ 65000) (U : CU s T0 ts e) : KR D (fun (q : Xv) (b : Int32 × cS) => b.1 = q.1 ∧ CU b.2 T0 q.2.2 q.2.1 ∧ CF ICU s b.2) (xX E e ts) (f68 s 1 0) := by
  obtain ⟨i, t, r, rfl, h1, h2, h3, h4, h5, h6⟩ := U
  have hs := cz_self h2 h3 h4 h5 h6
  have H := c_expr X hT 150 1 0 e i t r (by decide) (by decide) (by decide) h1
  rw [hs] at H
  unfold xX
  cases hx : xE E 150 1 0 e (t :: r) with
  | none => exact trivial
  | some y =>
    rw [hx] at H
    cases y with
    | inl q =>
      obtain ⟨i', t', r', g1, g2, g3⟩ := H
      refine ⟨_, g3, rfl, ?_, cz_cf s i' t' (eb q.2.1)⟩
      rw [g1]
      exact CU_cz g2
    | inr p =>
      obtain ⟨i', t', er', g3⟩ := H
      exact ⟨_, g3, hD _ (cz_cf s i' t' er')⟩
end KC
