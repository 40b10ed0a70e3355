/-! EXPRESSIONS: what is known early needs nothing more; statements' forms the first and the second time. -/
section XY
variable {E1 E2 : Ev} {e : Bool} {ts : List Tk} {d : Nat} {q : Xv}
def EX (X1 X2 : Nat → Nat → Bool → List Tk → Option (Rx Xv)) : Prop := ∀ least d e ts q, X1 least d e ts = some (.inl q) → q.2.1 = true → e = true ∧ X2 least d e ts = some (.inl q)
theorem ee_name (hB : E1.1 = E2.1) (h1 : E1.2.2.2.2.2 = 1) (h2 : E2.2.2.2.2.2 = 2) (hag : AGR E1 E2) (h : xName E1 e ts = some (.inl q)) (he : q.2.1 = true) : e = true ∧ xName E2 e ts = some (.inl q) := by
  cases ts with
  | nil => cases h
  | cons t r =>
    unfold xName at h ⊢
    obtain ⟨r9, x1, x2⟩ := xb_some h
    rw [if_neg (by omega), if_neg (by omega)] at x2
    have a := hag (tname E1.1 t)
    rw [← hB] at a ⊢
    have x3 := Sum.inl.inj (Option.some.inj x2)
    subst x3
    have he : (e && cBf E1.2.1 E1.2.2.1 (sfind E1.1 E1.2.1 (tname E1.1 t))) = true := he
    rw [Bool.and_eq_true] at he
    refine ⟨he.1, ?_⟩
    rw [x1]
    show (if cBf E2.2.1 E2.2.2.1 (sfind E1.1 E2.2.1 (tname E1.1 t)) = false ∧ E2.2.2.2.2.2 = 0 then _ else _) = _
    have c2 : cBf E2.2.1 E2.2.2.1 (sfind E1.1 E2.2.1 (tname E1.1 t)) = true := a.1.symm.trans he.2
    rw [if_neg (by omega), if_neg (fun h9 => by rw [h9.1] at c2; cases c2), c2, he.2, a.2 he.2]
theorem ee_here (h1 : E1.2.2.2.2.2 = 1) (h : xHere E1 ts = some (.inl q)) (he : q.2.1 = true) : False := by
  cases ts with
  | nil => cases h
  | cons t r =>
    unfold xHere at h
    simp only [if_neg (show ¬ E1.2.2.2.2.2 = 0 by omega)] at h
    obtain ⟨r9, x1, x2⟩ := xb_some h
    have x3 := Sum.inl.inj (Option.some.inj x2)
    subst x3
    cases he
theorem ee_br {X1 X2 : Nat → Nat → Bool → List Tk → Option (Rx Xv)} (H : EX X1 X2) (h : xBr X1 d e ts = some (.inl q)) (he : q.2.1 = true) : e = true ∧ xBr X2 d e ts = some (.inl q) := by
  cases ts with
  | nil => cases h
  | cons t r =>
    unfold xBr at h ⊢
    by_cases c : 16 ≤ d
    · simp only [if_pos c] at h; cases h
    · simp only [if_neg c] at h ⊢
      obtain ⟨r1, x1, h⟩ := xb_some h
      obtain ⟨r2, x2, h⟩ := xb_some h
      obtain ⟨r3, x3, h⟩ := xb_some h
      have x4 := Sum.inl.inj (Option.some.inj h)
      subst x4
      obtain ⟨y1, y2⟩ := H 1 (d + 1) e r1 r2 x2 he
      refine ⟨y1, ?_⟩
      rw [x1]
      show xb (X2 1 (d + 1) e r1) _ = _
      rw [y2]
      show xb (xExp 41 r2.2.2) _ = _
      rw [x3]
      rfl
theorem ee_atom {X1 X2 : Nat → Nat → Bool → List Tk → Option (Rx Xv)} (H : EX X1 X2) (hB : E1.1 = E2.1) (h1 : E1.2.2.2.2.2 = 1) (h2 : E2.2.2.2.2.2 = 2) (hag : AGR E1 E2) (h : xAtom E1 X1 d e ts = some (.inl q)) (he : q.2.1 = true) : e = true ∧ xAtom E2 X2 d e ts = some (.inl q) := by
  cases ts with
  | nil => cases h
  | cons t r =>
    unfold xAtom at h ⊢
    by_cases c1 : t.1 = 1
    · simp only [if_pos c1] at h ⊢
      exact ee_name hB h1 h2 hag h he
    simp only [if_neg c1] at h ⊢
    by_cases c2 : t.1 = 37
    · simp only [if_pos c2] at h ⊢
      obtain ⟨r1, x1, h⟩ := xb_some h
      obtain ⟨r2, x2, h⟩ := xb_some h
      have x4 := Sum.inl.inj (Option.some.inj h)
      subst x4
      obtain ⟨y1, y2⟩ := ee_br H x2 he
      refine ⟨y1, ?_⟩
      rw [← hB, x1]
      show xb (xBr X2 d e r1.2) _ = _
      rw [y2]
      rfl
    simp only [if_neg c2] at h ⊢
    by_cases c3 : t.1 = 40
    · simp only [if_pos c3] at h ⊢
      exact ee_br H h he
    simp only [if_neg c3] at h ⊢
    by_cases c4 : t.1 = 46
    · simp only [if_pos c4] at h
      exact (ee_here h1 h he).elim
    simp only [if_neg c4] at h ⊢
    obtain ⟨r1, x1, x2⟩ := xb_some h
    have x4 := Sum.inl.inj (Option.some.inj x2)
    rw [← x4] at he
    exact ⟨he, h⟩
theorem ee_join {k pl : Nat} {l r : Int32} {w : Int32 × Bool} (h : xJoin 1 k l r pl e = .inl w) (he : w.2 = true) : e = true ∧ xJoin 2 k l r pl e = .inl w := by
  unfold xJoin at h ⊢
  by_cases c1 : k = 38
  · rw [if_pos c1] at h ⊢; have x := Sum.inl.inj h; subst x; exact ⟨he, rfl⟩
  rw [if_neg c1] at h ⊢
  by_cases c2 : k = 42
  · rw [if_pos c2] at h ⊢; have x := Sum.inl.inj h; subst x; exact ⟨he, rfl⟩
  rw [if_neg c2] at h ⊢
  by_cases c3 : k = 43
  · rw [if_pos c3] at h ⊢; have x := Sum.inl.inj h; subst x; exact ⟨he, rfl⟩
  rw [if_neg c3] at h ⊢
  by_cases c4 : k = 45
  · rw [if_pos c4] at h ⊢; have x := Sum.inl.inj h; subst x; exact ⟨he, rfl⟩
  rw [if_neg c4] at h ⊢
  by_cases c5 : k = 60
  · rw [if_pos c5] at h ⊢; have x := Sum.inl.inj h; subst x; exact ⟨he, rfl⟩
  rw [if_neg c5] at h ⊢
  by_cases c6 : k = 62
  · rw [if_pos c6] at h ⊢; have x := Sum.inl.inj h; subst x; exact ⟨he, rfl⟩
  rw [if_neg c6] at h ⊢
  by_cases c7 : k = 94
  · rw [if_pos c7] at h ⊢; have x := Sum.inl.inj h; subst x; exact ⟨he, rfl⟩
  rw [if_neg c7] at h ⊢
  by_cases c8 : k = 124
  · rw [if_pos c8] at h ⊢; have x := Sum.inl.inj h; subst x; exact ⟨he, rfl⟩
  rw [if_neg c8] at h ⊢
  by_cases c9 : r = 0
  · rw [if_pos c9, if_neg (by decide), if_neg (by decide)] at h
    have x := Sum.inl.inj h
    rw [← x] at he
    cases he
  rw [if_neg c9] at h ⊢
  by_cases c10 : k = 47
  · rw [if_pos c10] at h ⊢; have x := Sum.inl.inj h; subst x; exact ⟨he, rfl⟩
  rw [if_neg c10] at h ⊢
  have x := Sum.inl.inj h
  subst x
  exact ⟨he, rfl⟩
theorem ee_lp {X1 X2 : Nat → Nat → Bool → List Tk → Option (Rx Xv)} (H : EX X1 X2) {least : Nat} : ∀ (u : Nat) (l : Int32) (e : Bool) (ts : List Tk) (q : Xv), xLp X1 1 least d u l e ts = some (.inl q) → q.2.1 = true → e = true ∧ xLp X2 2 least d u l e ts = some (.inl q) := by
  intro u
  induction u with
  | zero => intro l e ts q h; cases h
  | succ u ih =>
    intro l e ts q h he
    cases ts with
    | nil => cases h
    | cons t r =>
      rw [xLp] at h ⊢
      by_cases c : least ≤ lev t.1
      · simp only [if_pos c] at h ⊢
        obtain ⟨r1, x1, h⟩ := xb_some h
        obtain ⟨r2, x2, h⟩ := xb_some h
        obtain ⟨r3, x3, h⟩ := xb_some h
        obtain ⟨y1, y2⟩ := ih r3.1 r3.2 r2.2.2 q h he
        obtain ⟨z1, z2⟩ := ee_join (Option.some.inj x3) y1
        obtain ⟨w1, w2⟩ := H (lev t.1 + 1) d e r1 r2 x2 z1
        refine ⟨w1, ?_⟩
        rw [x1]
        show xb (X2 (lev t.1 + 1) d e r1) _ = _
        rw [w2]
        show xb (some (xJoin 2 t.1 l r2.1 t.2.1 r2.2.1)) _ = _
        rw [z2]
        exact y2
      · simp only [if_neg c] at h ⊢
        have x := Sum.inl.inj (Option.some.inj h)
        rw [← x] at he
        exact ⟨he, h⟩
theorem ee_E (hB : E1.1 = E2.1) (h1 : E1.2.2.2.2.2 = 1) (h2 : E2.2.2.2.2.2 = 2) (hag : AGR E1 E2) : ∀ v, EX (xE E1 v) (xE E2 v) := by
  intro v
  induction v with
  | zero => intro least d e ts q h; cases h
  | succ v ih =>
    intro least d e ts q h he
    rw [xE] at h ⊢
    obtain ⟨r1, x1, h⟩ := xb_some h
    rw [h1] at h
    obtain ⟨y1, y2⟩ := ee_lp ih _ _ _ _ _ h he
    unfold xOpd at x1
    obtain ⟨r2, x2, x3⟩ := xb_some x1
    have x4 := Sum.inl.inj (Option.some.inj x3)
    subst x4
    obtain ⟨z1, z2⟩ := ee_atom ih hB h1 h2 hag x2 y1
    refine ⟨z1, ?_⟩
    unfold xOpd
    rw [z2, h2]
    exact y2
theorem ee_X (hB : E1.1 = E2.1) (h1 : E1.2.2.2.2.2 = 1) (h2 : E2.2.2.2.2.2 = 2) (hag : AGR E1 E2) (h : xX E1 e ts = some (.inl q)) (he : q.2.1 = true) : xX E2 e ts = some (.inl q) := (ee_E hB h1 h2 hag 150 1 0 e ts q h he).2
end XY
section XZ
variable {E1 E2 : Ev} {ts : List Tk} {ag : Prop}
theorem rr_reg {B : Nat → Nat} {md : Nat} : RR md (fun a b => a = b) (xReg B ts) (xReg B ts) := rr_refl fun _ => rfl
/-- operands of the same form -/
def OR9 (ag : Prop) (o o2 : Op) : Prop := ag → o.2.2.2.2 = o2.2.2.2.2 ∧ (o.2.2.2.2 = true → o.2.2.2.1 = o2.2.2.2.1)
theorem rr_ops (hB : E1.1 = E2.1) (h1 : E1.2.2.2.2.2 = 1) (h2 : E2.2.2.2.2.2 = 1 ∨ E2.2.2.2.2.2 = 2) (hag : ag → AGR E1 E2) : ∀ (ps : List Int32) (o o2 : Op) (ts : List Tk), OR9 ag o o2 → RR E2.2.2.2.2.2 (fun q q2 : Op × List Tk => OR9 ag q.1 q2.1 ∧ q.2 = q2.2) (xOps E1 ps o ts) (xOps E2 ps o2 ts) := by
  intro ps
  induction ps with
  | nil => intro o o2 ts h; exact Or.inl ⟨_, rfl, h, rfl⟩
  | cons p ps ih =>
    intro o o2 ts h
    rw [xOps, xOps]
    by_cases c1 : p = 97
    · rw [if_pos c1, if_pos c1, ← hB]
      refine rr_b rr_reg ?_
      intro q q2 hq
      subst hq
      exact ih _ _ _ h
    rw [if_neg c1, if_neg c1]
    by_cases c2 : p = 98
    · rw [if_pos c2, if_pos c2, ← hB]
      refine rr_b rr_reg ?_
      intro q q2 hq
      subst hq
      exact ih _ _ _ h
    rw [if_neg c2, if_neg c2]
    by_cases c3 : p = 100
    · rw [if_pos c3, if_pos c3, ← hB]
      refine rr_b rr_reg ?_
      intro q q2 hq
      subst hq
      exact ih _ _ _ h
    rw [if_neg c3, if_neg c3]
    by_cases c4 : p = 101
    · rw [if_pos c4, if_pos c4, ← hB]
      by_cases c5 : alone E1.1 ps ts = true
      · rw [if_pos c5, if_pos c5]; exact ih _ _ _ h
      · rw [if_neg c5, if_neg c5]
        refine rr_b (rr_E hB h1 h2 hag 150 1 0 o.2.2.2.2 o2.2.2.2.2 ts (fun h9 => (h h9).1)) ?_
        intro q q2 hq
        rw [← hq.1]
        exact ih _ _ _ hq.2.1
    rw [if_neg c4, if_neg c4]
    by_cases c6 : p = 110
    · rw [if_pos c6, if_pos c6]
      refine rr_b (P := fun a b => a = b) (rr_refl fun _ => rfl) ?_
      intro q q2 hq
      subst hq
      exact ih _ _ _ h
    rw [if_neg c6, if_neg c6]
    refine rr_b (P := fun a b => a = b) (rr_refl fun _ => rfl) ?_
    intro q q2 hq
    subst hq
    exact ih _ _ _ h
theorem rr_lst {w : Nat} (hB : E1.1 = E2.1) (h1 : E1.2.2.2.2.2 = 1) (h2 : E2.2.2.2.2.2 = 1 ∨ E2.2.2.2.2.2 = 2) : ∀ (n : Nat) (e e2 : Bool) (ts : List Tk), RR E2.2.2.2.2.2 (fun q q2 : List Int32 × Bool × List Tk => q.1.length = q2.1.length ∧ q.2.2 = q2.2.2) (xLst E1 w n e ts) (xLst E2 w n e2 ts) := by
  intro n
  induction n with
  | zero => intro e e2 ts; exact trivial
  | succ n ih =>
    intro e e2 ts
    rw [xLst, xLst]
    refine rr_b (rr_E (ag := False) hB h1 h2 (fun h => h.elim) 150 1 0 e e2 ts (fun h => h.elim)) ?_
    intro q q2 hq
    rw [← hq.1]
    cases hr : q.2.2 with
    | nil => exact trivial
    | cons t r =>
      show RR _ _ (if t.1 = 44 then _ else _) (if t.1 = 44 then _ else _)
      by_cases c : t.1 = 44
      · rw [if_pos c, if_pos c]
        refine rr_b (P := fun a b => a = b) (rr_refl fun _ => rfl) ?_
        intro r1 r2 h9
        subst h9
        refine rr_b (ih q.2.1 q2.2.1 r1) ?_
        intro l l2 hl
        refine Or.inl ⟨_, rfl, ?_, hl.2⟩
        show (le q.1 w 0 ++ l.1).length = (le q2.1 w 0 ++ l2.1).length
        rw [List.length_append, List.length_append, le_len, le_len, hl.1]
      · rw [if_neg c, if_neg c]
        refine Or.inl ⟨_, rfl, ?_, rfl⟩
        show (le q.1 w 0).length = (le q2.1 w 0).length
        rw [le_len, le_len]
theorem x0_ops (hB : E1.1 = E2.1) (h1 : E1.2.2.2.2.2 = 0) (h2 : E2.2.2.2.2.2 = 0) (hag : AGR E1 E2) : ∀ (ps : List Int32) (o : Op) (ts : List Tk), xOps E1 ps o ts = xOps E2 ps o ts := by
  intro ps
  induction ps with
  | nil => intro o ts; rfl
  | cons p ps ih =>
    intro o ts
    rw [xOps, xOps, hB]
    have hx : xX E1 = xX E2 := by
      funext e ts
      unfold xX
      rw [x0_E hB h1 h2 hag]
    have hi : xOps E1 ps = xOps E2 ps := by funext o ts; exact ih o ts
    rw [hx, hi]
/-- the first and the second time: the same size -/
def RQ (j : Nat) (q1 q2 : Rd) : Prop := q1.2.2.2 = q2.2.2.2 ∧ q1.2.1.length = q2.2.1.length ∧ (sFrm j = 15 → q1.1.2.2.2.2 = q2.1.2.2.2.2 ∧ (q1.1.2.2.2.2 = true → q1.1.2.2.2.1 = q2.1.2.2.2.1)) ∧ (sFrm j = 4 ∨ sFrm j = 5 → q1.1.2.2.2.1 = q2.1.2.2.2.1)
theorem rr_read {B : Nat → Nat} {z ln j : Nat} {tb1 tb2 : List Sy} {b1 b2 h1 h2 : Int32} {ts : List Tk} (hag : AGR (B, tb1, ln, b1, h1, 1) (B, tb2, ln, b2, h2, 1)) : RR 2 (RQ j) (xRead B z false tb1 ln b1 h1 j ts) (xRead B z true tb2 ln b2 h2 j ts) := by
  have hag0 : AGR (B, tb1, ln, b1, h1, 0) (B, tb2, ln, b2, h2, 0) := hag
  have hag2 : AGR (B, tb1, ln, b1, h1, 1) (B, tb2, ln, b2, h2, 2) := hag
  unfold xRead
  by_cases c2 : sFrm j = 2
  · have n15 : ¬ sFrm j = 15 := by rw [c2]; decide
    have n4 : ¬ (sFrm j = 4 ∨ sFrm j = 5) := by rw [c2]; decide
    rw [if_pos c2, if_pos c2, show eMode false (sFrm j) = 1 by rw [c2]; rfl, show eMode true (sFrm j) = 2 by rw [c2]; rfl]
    refine rr_b (rr_lst (E1 := (B, tb1, ln, b1, h1, 1)) (E2 := (B, tb2, ln, b2, h2, 2)) rfl rfl (Or.inr rfl) (ts.length + 1) true true ts) ?_
    intro q q2 hq
    exact Or.inl ⟨_, rfl, hq.2, hq.1, fun h => absurd h n15, fun h => absurd h n4⟩
  rw [if_neg c2, if_neg c2]
  by_cases c3 : sFrm j = 3
  · rw [if_pos c3, if_pos c3]
    exact rr_refl fun q => ⟨rfl, rfl, fun _ => ⟨rfl, fun _ => rfl⟩, fun _ => rfl⟩
  rw [if_neg c3, if_neg c3]
  by_cases c6 : sFrm j = 6
  · have n15 : ¬ sFrm j = 15 := by rw [c6]; decide
    have n4 : ¬ (sFrm j = 4 ∨ sFrm j = 5) := by rw [c6]; decide
    rw [if_pos c6, if_pos c6, show eMode false (sFrm j) = 0 by rw [c6]; rfl, show eMode true (sFrm j) = 0 by rw [c6]; rfl]
    unfold xEqu
    cases ts with
    | nil => exact trivial
    | cons t r =>
      refine rr_b (P := fun a b => a = b) (rr_refl fun _ => rfl) ?_
      intro r1 r2 h9
      subst h9
      rw [if_neg (show ¬ (true = false ∧ isNew B tb2 t = false) from fun h => by cases h.1)]
      by_cases c : false = false ∧ isNew B tb1 t = false
      · rw [if_pos c]; intro h; omega
      · rw [if_neg c]
        have hx : xX (B, tb1, ln, b1, h1, 0) = xX (B, tb2, ln, b2, h2, 0) := by
          funext e ts
          unfold xX
          rw [x0_E (E1 := (B, tb1, ln, b1, h1, 0)) (E2 := (B, tb2, ln, b2, h2, 0)) rfl rfl rfl hag0]
        rw [hx]
        refine rr_b (P := fun a b => a = b) (rr_refl fun _ => rfl) ?_
        intro r3 r4 h9
        subst h9
        refine rr_b (P := fun a b => a = b) (rr_refl fun _ => rfl) ?_
        intro r5 r6 h9
        subst h9
        exact Or.inl ⟨_, rfl, rfl, rfl, fun h => absurd h n15, fun h => absurd h n4⟩
  rw [if_neg c6, if_neg c6]
  by_cases c4 : sFrm j = 4 ∨ sFrm j = 5
  · have e0 : ∀ g, eMode g (sFrm j) = 0 := by
      intro g
      unfold eMode
      rw [if_pos (by rcases c4 with h | h; exact Or.inl h; exact Or.inr (Or.inl h))]
    rw [e0, e0, x0_ops (E1 := (B, tb1, ln, b1, h1, 0)) (E2 := (B, tb2, ln, b2, h2, 0)) rfl rfl rfl hag0]
    exact rr_refl fun q => ⟨rfl, rfl, fun _ => ⟨rfl, fun _ => rfl⟩, fun _ => rfl⟩
  · have e0 : ¬ (sFrm j = 4 ∨ sFrm j = 5 ∨ sFrm j = 6) := by
      intro h
      rcases h with h | h | h
      · exact c4 (Or.inl h)
      · exact c4 (Or.inr h)
      · exact c6 h
    have e1 : eMode false (sFrm j) = 1 := by unfold eMode; rw [if_neg e0]; rfl
    have e2 : eMode true (sFrm j) = 2 := by unfold eMode; rw [if_neg e0]; rfl
    rw [e1, e2]
    refine rr_b (rr_ops (ag := True) (E1 := (B, tb1, ln, b1, h1, 1)) (E2 := (B, tb2, ln, b2, h2, 2)) rfl rfl (Or.inr rfl) (fun _ => hag2) (pat (xPat B j ts).1) ((xPat B j ts).2, op0.2) ((xPat B j ts).2, op0.2) ts (fun _ => ⟨rfl, fun _ => rfl⟩)) ?_
    intro q q2 hq
    exact Or.inl ⟨_, rfl, hq.2, rfl, fun _ => hq.1 trivial, fun h => absurd h c4⟩
theorem RQ_sz {j off : Nat} {q1 q2 : Rd} (h : RQ j q1 q2) : sSz (sFrm j) off q1 = sSz (sFrm j) off q2 := by
  obtain ⟨_, h2, h3, h4⟩ := h
  generalize sFrm j = f at h3 h4 ⊢
  unfold sSz
  by_cases c0 : f = 0 ∨ f = 1 ∨ f = 6
  · rw [if_pos c0, if_pos c0]
  rw [if_neg c0, if_neg c0]
  by_cases c2 : f = 2 ∨ f = 3
  · rw [if_pos c2, if_pos c2, h2]
  rw [if_neg c2, if_neg c2]
  by_cases c4 : f = 4
  · rw [if_pos c4, if_pos c4, h4 (Or.inl c4)]
  rw [if_neg c4, if_neg c4]
  by_cases c5 : f = 5
  · rw [if_pos c5, if_pos c5, h4 (Or.inr c5)]
  rw [if_neg c5, if_neg c5]
  by_cases c14 : f = 14
  · rw [if_pos c14, if_pos c14]
  rw [if_neg c14, if_neg c14]
  by_cases c15 : f = 15
  · rw [if_pos c15, if_pos c15]
    have hs : isSh q1.1 = isSh q2.1 := by
      obtain ⟨x1, x2⟩ := h3 c15
      unfold isSh
      cases hq : q1.1.2.2.2.2 with
      | false => rw [← x1, hq, Bool.false_and, Bool.false_and]
      | true => rw [← x1, hq, x2 hq]
    rw [hs]
  rw [if_neg c15, if_neg c15]
theorem RQ_gap {j : Nat} {q1 q2 : Rd} (h : RQ j q1 q2) (G : GAP j q1) : GAP j q2 := by
  obtain ⟨_, _, _, h4⟩ := h
  exact ⟨fun c => by rw [← h4 (Or.inl c)]; exact G.1 c, fun c => by rw [← h4 (Or.inr c)]; exact G.2 c⟩
end XZ
