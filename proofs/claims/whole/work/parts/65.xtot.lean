/-! EXPRESSIONS end: the spec's fuel is enough. -/
section XT
def TT {α : Type} (P : α → Prop) (x : Option (Rx α)) : Prop := match x with
  | none => False
  | some (.inl q) => P q
  | some (.inr _) => True
theorem tt_b {α β : Type} {P : α → Prop} {Q : β → Prop} {x : Option (Rx α)} {g : α → Option (Rx β)} (h : TT P x) (k : ∀ q, P q → TT Q (g q)) : TT Q (xb x g) := by
  cases x with
  | none => exact h.elim
  | some y =>
    cases y with
    | inl q => exact k q h
    | inr p => exact trivial
/-- a line's tokens, and signs are not flawed but the double ones -/
def WQ (ts : List Tk) : Prop := WFT ts ∧ ∀ t ∈ ts, 4 < t.1 → ¬ t.1 = 60 → ¬ t.1 = 62 → t.2.2.2.2 = none
variable {E : Ev} {t : Tk} {r ts : List Tk} {e : Bool} {d k : Nat}
theorem WQ_next (h : WQ (t :: r)) (h0 : ¬ t.1 = 0) (hf : t.2.2.2.2 = none) : WQ r := by
  obtain ⟨t', r', rfl⟩ := WFT_next h.1 hf h0
  exact ⟨h.1.2.2, fun x hx => h.2 x (List.mem_cons_of_mem _ hx)⟩
theorem WQ_ne (h : WQ ts) : ∃ t r, ts = t :: r := by
  cases ts with
  | nil => exact h.1.elim
  | cons t r => exact ⟨t, r, rfl⟩
def LQ (n : Nat) (r : List Tk) : Prop := WQ r ∧ r.length < n
def LX (n : Nat) (q : Xv) : Prop := WQ q.2.2 ∧ q.2.2.length < n
theorem tt_exp (h : WQ ts) (hk : ¬ k = 0) : TT (LQ ts.length) (xExp k ts) := by
  obtain ⟨t, r, rfl⟩ := WQ_ne h
  unfold xExp
  by_cases h1 : t.1 = k
  · simp only [if_pos h1]
    cases hf : t.2.2.2.2 with
    | some w => exact trivial
    | none => exact ⟨WQ_next h (by omega) hf, by rw [List.length_cons]; omega⟩
  · simp only [if_neg h1]; exact trivial
theorem tt_name (h : WQ ts) : TT (LX ts.length) (xName E e ts) := by
  obtain ⟨t, r, rfl⟩ := WQ_ne h
  unfold xName
  refine tt_b (tt_exp h (by decide)) fun q hq => ?_
  by_cases c1 : cBf E.2.1 E.2.2.1 (sfind E.1 E.2.1 (tname E.1 t)) = false ∧ E.2.2.2.2.2 = 0
  · rw [if_pos c1]; exact trivial
  · rw [if_neg c1]
    by_cases c2 : sfind E.1 E.2.1 (tname E.1 t) = none ∧ E.2.2.2.2.2 = 2
    · rw [if_pos c2]; exact trivial
    · rw [if_neg c2]; exact hq
theorem tt_here (h : WQ ts) : TT (LX ts.length) (xHere E ts) := by
  obtain ⟨t, r, rfl⟩ := WQ_ne h
  unfold xHere
  by_cases c1 : E.2.2.2.2.2 = 0
  · simp only [if_pos c1]; exact trivial
  · simp only [if_neg c1]
    exact tt_b (tt_exp h (by decide)) fun q hq => hq
theorem tt_hilo {B : Nat → Nat} (h : WQ ts) : TT (fun q : Bool × List Tk => LQ ts.length q.2) (xHiLo B ts) := by
  unfold xHiLo
  refine tt_b (tt_exp h (by decide)) fun q hq => ?_
  obtain ⟨t, r, rfl⟩ := WQ_ne hq.1
  refine tt_b (tt_exp hq.1 (by decide)) fun q2 hq2 => ?_
  have h9 : LQ ts.length q2 := ⟨hq2.1, by have := hq2.2; have := hq.2; omega⟩
  by_cases c1 : tname B t = [104, 105]
  · rw [if_pos c1]; exact h9
  · rw [if_neg c1]
    by_cases c2 : tname B t = [108, 111]
    · rw [if_pos c2]; exact h9
    · rw [if_neg c2]; exact trivial
theorem tt_br {X : Nat → Nat → Bool → List Tk → Option (Rx Xv)} (hX : d < 16 → ∀ e ts, WQ ts → TT (LX ts.length) (X 1 (d + 1) e ts)) (h : WQ ts) : TT (LX ts.length) (xBr X d e ts) := by
  obtain ⟨t, r, rfl⟩ := WQ_ne h
  unfold xBr
  by_cases c1 : 16 ≤ d
  · simp only [if_pos c1]; exact trivial
  · simp only [if_neg c1]
    refine tt_b (tt_exp h (by decide)) fun q hq => ?_
    refine tt_b (hX (by omega) e q hq.1) fun q2 hq2 => ?_
    refine tt_b (tt_exp hq2.1 (by decide)) fun q3 hq3 => ?_
    exact ⟨hq3.1, by have := hq3.2; have := hq2.2; have := hq.2; show q3.length < _; omega⟩
theorem tt_atom {X : Nat → Nat → Bool → List Tk → Option (Rx Xv)} (hX : d < 16 → ∀ e ts, WQ ts → TT (LX ts.length) (X 1 (d + 1) e ts)) (h : WQ ts) : TT (LX ts.length) (xAtom E X d e ts) := by
  obtain ⟨t, r, rfl⟩ := WQ_ne h
  unfold xAtom
  by_cases c1 : t.1 = 1
  · simp only [if_pos c1]; exact tt_name h
  · simp only [if_neg c1]
    by_cases c2 : t.1 = 37
    · simp only [if_pos c2]
      refine tt_b (tt_hilo h) fun q hq => ?_
      refine tt_b (tt_br hX hq.1) fun q2 hq2 => ?_
      exact ⟨hq2.1, by have := hq2.2; have := hq.2; show q2.2.2.length < _; omega⟩
    · simp only [if_neg c2]
      by_cases c3 : t.1 = 40
      · simp only [if_pos c3]; exact tt_br hX h
      · simp only [if_neg c3]
        by_cases c4 : t.1 = 46
        · simp only [if_pos c4]; exact tt_here h
        · simp only [if_neg c4]
          exact tt_b (tt_exp h (by decide)) fun q hq => hq
theorem pfx_w : ∀ (ts : List Tk) (f a : Int32), WQ ts → WQ (xPfx ts f a).2.2 ∧ (xPfx ts f a).2.2.length ≤ ts.length := by
  intro ts
  induction ts with
  | nil => intro f a h; exact h.1.elim
  | cons t r ih =>
    intro f a h
    rw [xPfx]
    by_cases c : t.1 = 45 ∨ t.1 = 43 ∨ t.1 = 126
    · rw [if_pos c]
      have hf := h.2 t (List.mem_cons_self ..) (by omega) (by omega) (by omega)
      have := ih (if t.1 = 43 then f else -f) (if t.1 = 126 then a - f else a) (WQ_next h (by omega) hf)
      exact ⟨this.1, by rw [List.length_cons]; omega⟩
    · rw [if_neg c]; exact ⟨h, Nat.le_refl _⟩
theorem tt_opd {X : Nat → Nat → Bool → List Tk → Option (Rx Xv)} (hX : d < 16 → ∀ e ts, WQ ts → TT (LX ts.length) (X 1 (d + 1) e ts)) (h : WQ ts) : TT (LX ts.length) (xOpd E X d e ts) := by
  unfold xOpd
  have hp := pfx_w ts 1 0 h
  refine tt_b (tt_atom hX hp.1) fun q hq => ?_
  exact ⟨hq.1, by have := hq.2; show q.2.2.length < _; omega⟩
theorem tt_lp {X : Nat → Nat → Bool → List Tk → Option (Rx Xv)} {mode least : Nat} (h0 : 0 < least) (hX : ∀ l, least < l → l ≤ 7 → ∀ e ts, WQ ts → TT (LX ts.length) (X l d e ts)) : ∀ (u : Nat) (left : Int32) (e : Bool) (ts : List Tk), WQ ts → ts.length < u → TT (LX (ts.length + 1)) (xLp X mode least d u left e ts) := by
  intro u
  induction u with
  | zero => intro left e ts _ hu; omega
  | succ u ih =>
    intro left e ts h hu
    obtain ⟨t, r, rfl⟩ := WQ_ne h
    have hl := lev_le t.1
    rw [xLp]
    by_cases c : least ≤ lev t.1
    · simp only [if_pos c]
      have h4 := lev_pos (show 0 < lev t.1 by omega)
      refine tt_b (tt_exp h (by omega)) fun q hq => ?_
      refine tt_b (hX (lev t.1 + 1) (by omega) (by omega) e q hq.1) fun q2 hq2 => ?_
      have hj : TT (fun _ => True) (some (xJoin mode t.1 left q2.1 t.2.1 q2.2.1)) := by
        cases xJoin mode t.1 left q2.1 t.2.1 q2.2.1 <;> exact trivial
      refine tt_b hj fun w _ => ?_
      have a1 := hq.2
      have a2 := hq2.2
      have := ih w.1 w.2 q2.2.2 hq2.1 (by omega)
      cases hh : xLp X mode least d u w.1 w.2 q2.2.2 with
      | none => rw [hh] at this; exact this.elim
      | some y =>
        rw [hh] at this
        cases y with
        | inr p => exact trivial
        | inl q3 => exact ⟨this.1, by have := this.2; omega⟩
    · simp only [if_neg c]
      exact ⟨h, by show (t :: r).length < _; omega⟩
theorem tt_E : ∀ (v least d : Nat) (e : Bool) (ts : List Tk), 8 * (16 - d) + (8 - least) ≤ v → d ≤ 16 → 0 < least → least ≤ 7 → WQ ts → TT (LX ts.length) (xE E v least d e ts) := by
  intro v
  induction v with
  | zero => intro least d e ts h _ _ h7 _; omega
  | succ v ih =>
    intro least d e ts hv hd h0 h7 h
    rw [xE]
    refine tt_b (tt_opd (fun hd e ts h => ih 1 (d + 1) e ts (by omega) (by omega) (by omega) (by omega) h) h) fun q hq => ?_
    have a1 := hq.2
    have := tt_lp (mode := E.2.2.2.2.2) (d := d) h0 (fun l hl h7' e ts h => ih l d e ts (by omega) hd (by omega) h7' h) (ts.length + 1) q.1 q.2.1 q.2.2 hq.1 (by omega)
    cases hh : xLp (xE E v) E.2.2.2.2.2 least d (ts.length + 1) q.1 q.2.1 q.2.2 with
    | none => rw [hh] at this; exact this.elim
    | some y =>
      rw [hh] at this
      cases y with
      | inr p => exact trivial
      | inl q3 => exact ⟨this.1, by have := this.2; omega⟩
/-- an expression as a line has it -/
def xX (E : Ev) (e : Bool) (ts : List Tk) : Option (Rx Xv) := xE E 150 1 0 e ts
theorem tt_X (h : WQ ts) : TT (LX ts.length) (xX E e ts) := tt_E 150 1 0 e ts (by decide) (by decide) (by decide) (by decide) h
end XT
