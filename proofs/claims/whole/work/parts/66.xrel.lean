/-! EXPRESSIONS: the same form with other values; what is known early is the same. -/
section XR
def AGR (E1 E2 : Ev) : Prop := ∀ w, cBf E1.2.1 E1.2.2.1 (sfind E1.1 E1.2.1 w) = cBf E2.2.1 E2.2.2.1 (sfind E2.1 E2.2.1 w) ∧ (cBf E1.2.1 E1.2.2.1 (sfind E1.1 E1.2.1 w) = true → sVal E1.2.1 E1.2.2.2.1 (sfind E1.1 E1.2.1 w) = sVal E2.2.1 E2.2.2.2.1 (sfind E2.1 E2.2.1 w))
def RR {α : Type} (md : Nat) (P : α → α → Prop) (x y : Option (Rx α)) : Prop := match x with
  | none => True
  | some (.inl q) => (∃ q2, y = some (.inl q2) ∧ P q q2) ∨ (md = 2 ∧ ∃ p, y = some (.inr p) ∧ (p.2 = 8 ∨ p.2 = 9))
  | some (.inr p) => md = 1 → y = some (.inr p)
theorem rr_b {α β : Type} {md : Nat} {P : α → α → Prop} {Q : β → β → Prop} {x y : Option (Rx α)} {g h : α → Option (Rx β)} (H : RR md P x y) (K : ∀ q q2, P q q2 → RR md Q (g q) (h q2)) : RR md Q (xb x g) (xb y h) := by
  cases x with
  | none => exact trivial
  | some x9 =>
    cases x9 with
    | inr p => intro h1; rw [H h1]; rfl
    | inl q =>
      rcases H with ⟨q2, rfl, h2⟩ | ⟨h1, p, rfl, h2⟩
      · exact K q q2 h2
      · show RR md Q (g q) (some (.inr p))
        cases hg : g q with
        | none => exact trivial
        | some y9 =>
          cases y9 with
          | inl q9 => exact Or.inr ⟨h1, p, rfl, h2⟩
          | inr p9 => intro h9; omega
theorem rr_refl {α : Type} {md : Nat} {P : α → α → Prop} {x : Option (Rx α)} (h : ∀ q, P q q) : RR md P x x := by
  cases x with
  | none => exact trivial
  | some y =>
    cases y with
    | inl q => exact Or.inl ⟨q, rfl, h q⟩
    | inr p => exact fun _ => rfl
def XR (ag : Prop) (e : Bool) (q q2 : Xv) : Prop := q.2.2 = q2.2.2 ∧ (ag → q.2.1 = q2.2.1 ∧ (q.2.1 = true → q.1 = q2.1)) ∧ (q.2.1 = true → e = true)
variable {E1 E2 : Ev} {e1 e2 : Bool} {ts : List Tk} {d md : Nat} {ag : Prop}
theorem rr_name (hB : E1.1 = E2.1) (h1 : E1.2.2.2.2.2 = 1) (h2 : E2.2.2.2.2.2 = 1 ∨ E2.2.2.2.2.2 = 2) (hag : ag → AGR E1 E2) (he : ag → e1 = e2) : RR E2.2.2.2.2.2 (XR ag e1) (xName E1 e1 ts) (xName E2 e2 ts) := by
  cases ts with
  | nil => exact trivial
  | cons t r =>
    unfold xName
    refine rr_b (P := fun a b => a = b) (rr_refl fun _ => rfl) ?_
    intro q q2 hq
    subst hq
    rw [if_neg (by omega), if_neg (by omega), if_neg (by omega)]
    by_cases c : sfind E2.1 E2.2.1 (tname E2.1 t) = none ∧ E2.2.2.2.2.2 = 2
    · rw [if_pos c]
      exact Or.inr ⟨c.2, _, rfl, Or.inl rfl⟩
    · rw [if_neg c]
      refine Or.inl ⟨_, rfl, rfl, fun h => ?_, fun h => ?_⟩
      · have a := hag h (tname E1.1 t)
        rw [← hB] at a ⊢
        refine ⟨?_, fun h9 => ?_⟩
        · show (e1 && _) = (e2 && _)
          rw [he h, a.1]
        · have h9 : (e1 && cBf E1.2.1 E1.2.2.1 (sfind E1.1 E1.2.1 (tname E1.1 t))) = true := h9
          rw [Bool.and_eq_true] at h9
          exact a.2 h9.2
      · have h : (e1 && cBf E1.2.1 E1.2.2.1 (sfind E1.1 E1.2.1 (tname E1.1 t))) = true := h
        rw [Bool.and_eq_true] at h
        exact h.1
theorem rr_here (h1 : E1.2.2.2.2.2 = 1) (h2 : E2.2.2.2.2.2 = 1 ∨ E2.2.2.2.2.2 = 2) : RR E2.2.2.2.2.2 (XR ag e1) (xHere E1 ts) (xHere E2 ts) := by
  cases ts with
  | nil => exact trivial
  | cons t r =>
    unfold xHere
    simp only [if_neg (show ¬ E1.2.2.2.2.2 = 0 by omega), if_neg (show ¬ E2.2.2.2.2.2 = 0 by omega)]
    refine rr_b (P := fun a b => a = b) (rr_refl fun _ => rfl) ?_
    intro q q2 hq
    subst hq
    exact Or.inl ⟨_, rfl, rfl, fun _ => ⟨rfl, fun h => by cases h⟩, fun h => by cases h⟩
def RX9 (ag : Prop) (md : Nat) (X1 X2 : Nat → Nat → Bool → List Tk → Option (Rx Xv)) : Prop := ∀ least d e1 e2 ts, (ag → e1 = e2) → RR md (XR ag e1) (X1 least d e1 ts) (X2 least d e2 ts)
theorem rr_br {X1 X2 : Nat → Nat → Bool → List Tk → Option (Rx Xv)} (H : RX9 ag md X1 X2) (he : ag → e1 = e2) : RR md (XR ag e1) (xBr X1 d e1 ts) (xBr X2 d e2 ts) := by
  cases ts with
  | nil => exact trivial
  | cons t r =>
    unfold xBr
    by_cases c : 16 ≤ d
    · simp only [if_pos c]; exact fun _ => rfl
    · simp only [if_neg c]
      refine rr_b (P := fun a b => a = b) (rr_refl fun _ => rfl) ?_
      intro q q2 hq
      subst hq
      refine rr_b (H 1 (d + 1) e1 e2 q he) ?_
      intro p p2 hp
      rw [← hp.1]
      refine rr_b (P := fun a b => a = b) (rr_refl fun _ => rfl) ?_
      intro w w2 hw
      subst hw
      exact Or.inl ⟨_, rfl, rfl, hp.2.1, hp.2.2⟩
theorem rr_atom {X1 X2 : Nat → Nat → Bool → List Tk → Option (Rx Xv)} (H : RX9 ag E2.2.2.2.2.2 X1 X2) (hB : E1.1 = E2.1) (h1 : E1.2.2.2.2.2 = 1) (h2 : E2.2.2.2.2.2 = 1 ∨ E2.2.2.2.2.2 = 2) (hag : ag → AGR E1 E2) (he : ag → e1 = e2) : RR E2.2.2.2.2.2 (XR ag e1) (xAtom E1 X1 d e1 ts) (xAtom E2 X2 d e2 ts) := by
  cases ts with
  | nil => exact trivial
  | cons t r =>
    unfold xAtom
    by_cases c1 : t.1 = 1
    · simp only [if_pos c1]; exact rr_name hB h1 h2 hag he
    · simp only [if_neg c1]
      by_cases c2 : t.1 = 37
      · simp only [if_pos c2]
        rw [hB]
        refine rr_b (P := fun a b => a = b) (rr_refl fun _ => rfl) ?_
        intro q q2 hq
        subst hq
        refine rr_b (rr_br H he) ?_
        intro p p2 hp
        refine Or.inl ⟨_, rfl, hp.1, fun h => ⟨(hp.2.1 h).1, fun h9 => ?_⟩, hp.2.2⟩
        have := (hp.2.1 h).2 h9
        show (if q.1 = true then f77 p.1 else f78 p.1) = (if q.1 = true then f77 p2.1 else f78 p2.1)
        rw [this]
      · simp only [if_neg c2]
        by_cases c3 : t.1 = 40
        · simp only [if_pos c3]; exact rr_br H he
        · simp only [if_neg c3]
          by_cases c4 : t.1 = 46
          · simp only [if_pos c4]; exact rr_here h1 h2
          · simp only [if_neg c4]
            refine rr_b (P := fun a b => a = b) (rr_refl fun _ => rfl) ?_
            intro q q2 hq
            subst hq
            exact Or.inl ⟨_, rfl, rfl, fun h => ⟨he h, fun _ => rfl⟩, fun h => h⟩
theorem rr_opd {X1 X2 : Nat → Nat → Bool → List Tk → Option (Rx Xv)} (H : RX9 ag E2.2.2.2.2.2 X1 X2) (hB : E1.1 = E2.1) (h1 : E1.2.2.2.2.2 = 1) (h2 : E2.2.2.2.2.2 = 1 ∨ E2.2.2.2.2.2 = 2) (hag : ag → AGR E1 E2) (he : ag → e1 = e2) : RR E2.2.2.2.2.2 (XR ag e1) (xOpd E1 X1 d e1 ts) (xOpd E2 X2 d e2 ts) := by
  unfold xOpd
  refine rr_b (rr_atom H hB h1 h2 hag he) ?_
  intro p p2 hp
  refine Or.inl ⟨_, rfl, hp.1, fun h => ⟨(hp.2.1 h).1, fun h9 => ?_⟩, hp.2.2⟩
  have := (hp.2.1 h).2 h9
  show (xPfx ts 1 0).1 * p.1 + (xPfx ts 1 0).2.1 = (xPfx ts 1 0).1 * p2.1 + (xPfx ts 1 0).2.1
  rw [this]
theorem rr_join {k pl : Nat} {l r l2 r2 : Int32} (h2 : md = 1 ∨ md = 2) (hv : ag → e1 = e2 ∧ (e1 = true → l = l2 ∧ r = r2)) : RR md (fun w w2 : Int32 × Bool => (ag → w.2 = w2.2 ∧ (w.2 = true → w.1 = w2.1)) ∧ (w.2 = true → e1 = true)) (some (xJoin 1 k l r pl e1)) (some (xJoin md k l2 r2 pl e2)) := by
  unfold xJoin
  have fin : ∀ f : Int32 → Int32 → Int32, RR md (fun w w2 : Int32 × Bool => (ag → w.2 = w2.2 ∧ (w.2 = true → w.1 = w2.1)) ∧ (w.2 = true → e1 = true)) (some (.inl (f l r, e1))) (some (.inl (f l2 r2, e2))) := by
    intro f
    refine Or.inl ⟨_, rfl, fun h => ⟨(hv h).1, fun h9 => ?_⟩, fun h => h⟩
    have := (hv h).2 h9
    show f l r = f l2 r2
    rw [this.1, this.2]
  by_cases c1 : k = 38
  · simp only [if_pos c1]; exact fin fun a b => a &&& b
  simp only [if_neg c1]
  by_cases c2 : k = 42
  · simp only [if_pos c2]; exact fin fun a b => a * b
  simp only [if_neg c2]
  by_cases c3 : k = 43
  · simp only [if_pos c3]; exact fin fun a b => a + b
  simp only [if_neg c3]
  by_cases c4 : k = 45
  · simp only [if_pos c4]; exact fin fun a b => a - b
  simp only [if_neg c4]
  by_cases c5 : k = 60
  · simp only [if_pos c5]; exact fin fun a b => a <<< ((b &&& (31 : Int32)) &&& 31)
  simp only [if_neg c5]
  by_cases c6 : k = 62
  · simp only [if_pos c6]; exact fin fun a b => a >>> ((b &&& (31 : Int32)) &&& 31)
  simp only [if_neg c6]
  by_cases c7 : k = 94
  · simp only [if_pos c7]; exact fin fun a b => a ^^^ b
  simp only [if_neg c7]
  by_cases c8 : k = 124
  · simp only [if_pos c8]; exact fin fun a b => a ||| b
  simp only [if_neg c8, if_neg (show ¬ (1 : Nat) = 0 by decide), if_neg (show ¬ (1 : Nat) = 2 by decide), if_neg (show ¬ md = 0 by omega)]
  by_cases hr : r = 0
  · rw [if_pos hr]
    by_cases hr2 : r2 = 0
    · rw [if_pos hr2]
      rcases h2 with h2 | h2
      · rw [if_neg (by omega)]
        exact Or.inl ⟨_, rfl, fun _ => ⟨rfl, fun h => by cases h⟩, fun h => by cases h⟩
      · rw [if_pos h2]
        exact Or.inr ⟨h2, _, rfl, Or.inr rfl⟩
    · rw [if_neg hr2]
      have hf : ag → e2 = false := by
        intro h
        have := hv h
        cases he : e1 with
        | false => rw [← this.1]; exact he
        | true => exact absurd ((this.2 he).2 ▸ hr) hr2
      by_cases c9 : k = 47
      · rw [if_pos c9]
        exact Or.inl ⟨_, rfl, fun h => ⟨(hf h).symm, fun h => by cases h⟩, fun h => by cases h⟩
      · rw [if_neg c9]
        exact Or.inl ⟨_, rfl, fun h => ⟨(hf h).symm, fun h => by cases h⟩, fun h => by cases h⟩
  · rw [if_neg hr]
    by_cases hr2 : r2 = 0
    · rw [if_pos hr2]
      rcases h2 with h2 | h2
      · rw [if_neg (show ¬ md = 2 by omega)]
        have hf : ag → e1 = false := by
          intro h
          have := hv h
          cases he : e1 with
          | false => rfl
          | true => exact absurd ((this.2 he).2.trans hr2) hr
        have hq : ∀ x : Int32, RR md (fun w w2 : Int32 × Bool => (ag → w.2 = w2.2 ∧ (w.2 = true → w.1 = w2.1)) ∧ (w.2 = true → e1 = true)) (some (.inl (x, e1))) (some (.inl (0, false))) := fun x => Or.inl ⟨_, rfl, fun h => ⟨hf h, fun h9 => by rw [show e1 = false from hf h] at h9; cases h9⟩, fun h => h⟩
        by_cases c9 : k = 47
        · rw [if_pos c9]; exact hq _
        · rw [if_neg c9]; exact hq _
      · rw [if_pos h2]
        by_cases c9 : k = 47
        · rw [if_pos c9]; exact Or.inr ⟨h2, _, rfl, Or.inr rfl⟩
        · rw [if_neg c9]; exact Or.inr ⟨h2, _, rfl, Or.inr rfl⟩
    · rw [if_neg hr2]
      by_cases c9 : k = 47
      · simp only [if_pos c9]; exact fin fun a b => a / b
      · simp only [if_neg c9]; exact fin fun a b => a - a / b * b
theorem rr_lp {X1 X2 : Nat → Nat → Bool → List Tk → Option (Rx Xv)} (H : RX9 ag md X1 X2) (h2 : md = 1 ∨ md = 2) {least : Nat} {e0 : Bool} : ∀ (u : Nat) (l l2 : Int32) (e1 e2 : Bool) (ts : List Tk), (ag → e1 = e2 ∧ (e1 = true → l = l2)) → (e1 = true → e0 = true) → RR md (XR ag e0) (xLp X1 1 least d u l e1 ts) (xLp X2 md least d u l2 e2 ts) := by
  intro u
  induction u with
  | zero => intro l l2 e1 e2 ts _ _; exact trivial
  | succ u ih =>
    intro l l2 e1 e2 ts hv h0
    cases ts with
    | nil => exact trivial
    | cons t r =>
      rw [xLp, xLp]
      by_cases c : least ≤ lev t.1
      · simp only [if_pos c]
        refine rr_b (P := fun a b => a = b) (rr_refl fun _ => rfl) ?_
        intro q q2 hq
        subst hq
        refine rr_b (H (lev t.1 + 1) d e1 e2 q (fun h => (hv h).1)) ?_
        intro p p2 hp
        refine rr_b (rr_join h2 (fun h => ⟨(hp.2.1 h).1, fun h9 => ⟨(hv h).2 (hp.2.2 h9), (hp.2.1 h).2 h9⟩⟩)) ?_
        intro w w2 hw
        rw [← hp.1]
        exact ih w.1 w2.1 w.2 w2.2 p.2.2 hw.1 (fun h => h0 (hp.2.2 (hw.2 h)))
      · simp only [if_neg c]
        exact Or.inl ⟨_, rfl, rfl, hv, h0⟩
theorem rr_E (hB : E1.1 = E2.1) (h1 : E1.2.2.2.2.2 = 1) (h2 : E2.2.2.2.2.2 = 1 ∨ E2.2.2.2.2.2 = 2) (hag : ag → AGR E1 E2) : ∀ v, RX9 ag E2.2.2.2.2.2 (xE E1 v) (xE E2 v) := by
  intro v
  induction v with
  | zero => intro least d e1 e2 ts _; exact trivial
  | succ v ih =>
    intro least d e1 e2 ts he
    rw [xE, xE]
    refine rr_b (rr_opd ih hB h1 h2 hag he) ?_
    intro p p2 hp
    rw [h1, ← hp.1]
    exact rr_lp ih h2 _ p.1 p2.1 p.2.1 p2.2.1 p.2.2 hp.2.1 hp.2.2
/-- among the names known early alone: the same -/
theorem x0_E (hB : E1.1 = E2.1) (h1 : E1.2.2.2.2.2 = 0) (h2 : E2.2.2.2.2.2 = 0) (hag : AGR E1 E2) : ∀ v, xE E1 v = xE E2 v := by
  have hn : ∀ e ts, xName E1 e ts = xName E2 e ts := by
    intro e ts
    cases ts with
    | nil => rfl
    | cons t r =>
      unfold xName
      have a := hag (tname E1.1 t)
      rw [← hB] at a ⊢
      refine congrArg (xb (xExp 1 (t :: r))) ?_
      funext q
      rw [a.1, h1, h2]
      cases hc : cBf E2.2.1 E2.2.2.1 (sfind E1.1 E2.2.1 (tname E1.1 t)) with
      | false => rw [if_pos ⟨rfl, rfl⟩, if_pos ⟨rfl, rfl⟩]
      | true =>
        have p0 : ¬ (true = false ∧ 0 = 0) := fun h => by cases h.1
        rw [if_neg p0, if_neg p0, if_neg (show ¬ (sfind E1.1 E1.2.1 (tname E1.1 t) = none ∧ 0 = 2) from fun h => absurd h.2 (by decide)), if_neg (show ¬ (sfind E1.1 E2.2.1 (tname E1.1 t) = none ∧ 0 = 2) from fun h => absurd h.2 (by decide)), a.2 (by rw [a.1]; exact hc)]
  have hh : ∀ ts, xHere E1 ts = xHere E2 ts := by
    intro ts
    cases ts with
    | nil => rfl
    | cons t r => unfold xHere; simp only [h1, h2, if_true]
  intro v
  induction v with
  | zero => rfl
  | succ v ih =>
    funext least d e ts
    rw [xE, xE, ih, h1, h2]
    have ha : xOpd E1 (xE E2 v) d e ts = xOpd E2 (xE E2 v) d e ts := by
      unfold xOpd
      congr 1
      cases (xPfx ts 1 0).2.2 with
      | nil => rfl
      | cons t r => unfold xAtom; simp only [hn, hh, hB]
    rw [ha]
end XR
