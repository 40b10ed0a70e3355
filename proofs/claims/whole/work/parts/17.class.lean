/-! THE CLASS's OBJECTS as a state: s.1 ints by cell and field, s.2.1 references, s.2.2.1 arrays (kind, length, contents) by cell, s.2.2.2 how many cells were made since the start. -/
abbrev cS := (Nat → Nat → Int32) × (Nat → Nat → Nat) × (Nat → Nat × Nat × (Nat → Int32)) × Nat
def cf0 (s : cS) : List Value := [.ref (s.2.1 0 0), .int (s.1 0 1), .ref 11, .ref 16]
def cf2 (s : cS) : List Value := [.int (s.1 2 0), .ref (s.2.1 2 1), .ref (s.2.1 2 2), .ref (s.2.1 2 3), .ref (s.2.1 2 4), .ref (s.2.1 2 5), .ref (s.2.1 2 6), .ref (s.2.1 2 7), .ref (s.2.1 2 8)]
def cf11 (s : cS) : List Value := [.int (s.1 11 0), .int (s.1 11 1), .int (s.1 11 2), .int (s.1 11 3), .int (s.1 11 4), .int (s.1 11 5), .int (s.1 11 6), .ref (s.2.1 11 7), .int (s.1 11 8), .int (s.1 11 9), .int (s.1 11 10), .ref (s.2.1 11 11), .ref (s.2.1 11 12), .ref (s.2.1 11 13), .int (s.1 11 14), .int (s.1 11 15), .int (s.1 11 16), .int (s.1 11 17)]
def cf16 (s : cS) : List Value := [.ref (s.2.1 16 0), .ref (s.2.1 16 1), .ref 11, .ref 2, .ref 17, .int (s.1 16 5), .int (s.1 16 6), .int (s.1 16 7), .int (s.1 16 8), .int (s.1 16 9), .int (s.1 16 10), .int (s.1 16 11), .int (s.1 16 12), .int (s.1 16 13), .int (s.1 16 14), .int (s.1 16 15)]
def cf17 (s : cS) : List Value := [.int (s.1 17 0), .int (s.1 17 1), .int (s.1 17 2), .int (s.1 17 3), .ref 11, .ref 2]
def cf18 (s : cS) : List Value := [.int (s.1 18 0), .int (s.1 18 1), .int (s.1 18 2), .int (s.1 18 3), .ref (s.2.1 18 4)]
def cf20 (s : cS) : List Value := [.int (s.1 20 0), .int (s.1 20 1), .int (s.1 20 2), .int (s.1 20 3), .ref (s.2.1 20 4)]
def cfr (i : Nat) : Bool := match i with
  | 0 => false
  | 2 => false
  | 11 => false
  | 16 => false
  | 17 => false
  | 18 => false
  | 20 => false
  | i => Nat.blt i 22 || Nat.ble 42 i
def ca9 (a : Nat × Nat × (Nat → Int32)) : ab_C := bif a.1 == 9 then .inr (7, []) else .inl (a.1, a.2.1, .inl a.2.2)
def cc_F (s : cS) (Z : Nat → ab_C) : Nat → ab_C := fun i => match i with
  | 0 => .inr (5, cf0 s)
  | 2 => .inr (3, cf2 s)
  | 11 => .inr (4, cf11 s)
  | 16 => .inr (0, cf16 s)
  | 17 => .inr (1, cf17 s)
  | 18 => .inr (2, cf18 s)
  | 20 => .inr (2, cf20 s)
  | i => bif cfr i then ca9 (s.2.2.1 i) else Z i
def ch (s : cS) (Z : Nat → ab_C) : ab_H := ab_hl (42 + s.2.2.2) (cc_F s Z)
def cg (s : cS) (r k : Nat) (v : Int32) : cS := (fun i j => if j = k ∧ i = r then v else s.1 i j, s.2)
def cr (s : cS) (r k : Nat) (v : Nat) : cS := (s.1, fun i j => if j = k ∧ i = r then v else s.2.1 i j, s.2.2)
def ca (s : cS) (q : Nat) (f : Nat → Int32) : cS := (s.1, s.2.1, fun i => if i = q then ((s.2.2.1 q).1, (s.2.2.1 q).2.1, f) else s.2.2.1 i, s.2.2.2)
def cl (s : cS) (q : Nat) : Nat := (s.2.2.1 q).2.1
def ce (s : cS) (q : Nat) (j : Int32) : Int32 := (s.2.2.1 q).2.2 j.toNatClampNeg
def cw (s : cS) (q : Nat) (j v : Int32) : cS := ca s q (upd (s.2.2.1 q).2.2 j.toNatClampNeg v)
def cy (s : cS) (q0 : Nat) (sp : Int32) (q1 : Nat) (dp n : Int32) : cS := ca s q1 (va_cpy (s.2.2.1 q0).2.2 (s.2.2.1 q1).2.2 sp.toNatClampNeg dp.toNatClampNeg n.toNatClampNeg)
def cn (s : cS) (t m : Nat) : cS := (s.1, s.2.1, fun i => if i = 42 + s.2.2.2 then (t, m, fun _ => 0) else s.2.2.1 i, s.2.2.2 + 1)
abbrev cA (s : cS) (t q : Nat) : Prop := cfr q = true ∧ q < 42 + s.2.2.2 ∧ (s.2.2.1 q).1 = t
abbrev cB (s : cS) (t q : Nat) (j : Int32) : Prop := cA s t q ∧ ib j (cl s q)
abbrev cN (x : Int32) : Prop := ¬ x < 0 ∧ x.toNatClampNeg ≤ 1000000
abbrev cY (s : cS) (t q0 : Nat) (sp : Int32) (q1 : Nat) (dp n : Int32) : Prop := cA s t q0 ∧ cA s t q1 ∧ ¬ sp < 0 ∧ ¬ dp < 0 ∧ ¬ n < 0 ∧ sp.toNatClampNeg + n.toNatClampNeg ≤ cl s q0 ∧ dp.toNatClampNeg + n.toNatClampNeg ≤ cl s q1 ∧ (t = 0 → ∀ i, i < n.toNatClampNeg → fits .byte (.int ((s.2.2.1 q0).2.2 (sp.toNatClampNeg + i))) = true)
abbrev cQ (q : Nat) : Prop := q = 18 ∨ q = 20
abbrev cE (k : Nat) : Prop := 400 ≤ k ∧ k < 483
def en (k : Nat) : Nat × Nat × Int32 × Int32 := ab_enm.getD (k - 400) (0, 0, 0, 0)
def sl (k : Nat) : Nat := (ab_strs.getD k []).length
def sc (k : Nat) (j : Int32) : Int32 := (ab_strs.getD k []).getD j.toNatClampNeg 0
abbrev cJ (k : Nat) (j : Int32) : Prop := k < 106 ∧ ib j (sl k)
/-- what a method ends with that can throw -/
def tb {α β : Type} (x : Option (α ⊕ cS)) (g : α → Option (β ⊕ cS)) : Option (β ⊕ cS) := match x with
  | none => none
  | some (.inl q) => g q
  | some (.inr t) => some (.inr t)
theorem of_tb {α β : Type} {x : Option (α ⊕ cS)} {g : α → Option (β ⊕ cS)} {r : β ⊕ cS} (e : tb x g = some r) : (∃ q, x = some (.inl q) ∧ g q = some r) ∨ (∃ t, x = some (.inr t) ∧ r = .inr t) := by
  cases x with
  | none => cases e
  | some z =>
    cases z with
    | inl q => exact Or.inl ⟨q, rfl, e⟩
    | inr t => cases e; exact Or.inr ⟨t, rfl, rfl⟩
def oV (r : cS ⊕ cS) : Option Value ⊕ Unit := match r with
  | .inl _ => .inl none
  | .inr _ => .inr ()
def zV (r : cS ⊕ cS) : cS := match r with
  | .inl s => s
  | .inr s => s
def oI (r : (Int32 × cS) ⊕ cS) : Option Value ⊕ Unit := match r with
  | .inl q => .inl (some (.int q.1))
  | .inr _ => .inr ()
def zI (r : (Int32 × cS) ⊕ cS) : cS := match r with
  | .inl q => q.2
  | .inr s => s
def ov (r : Option Nat) : Value := match r with
  | none => .null
  | some k => .retAddr k
theorem cc_arr {s : cS} {Z : Nat → ab_C} {q : Nat} (h : cfr q = true) : cc_F s Z q = ca9 (s.2.2.1 q) := by
  unfold cc_F
  split
  all_goals first | (exact absurd h Bool.false_ne_true) | (rw [h]; rfl)
theorem ca9_of {a : Nat × Nat × (Nat → Int32)} {t : Nat} (h : a.1 = t) (ht : t < 3) : ca9 a = .inl (t, a.2.1, .inl a.2.2) := by
  unfold ca9
  have : (a.1 == 9) = false := by rw [beq_eq_false_iff_ne]; omega
  rw [this, h]; rfl
theorem cc_at {s : cS} {Z : Nat → ab_C} {t q : Nat} (h : cA s t q) (ht : t < 3) : cc_F s Z q = .inl (t, cl s q, .inl (s.2.2.1 q).2.2) := by
  rw [cc_arr h.1, ca9_of h.2.2 ht]; rfl
theorem cc_ca {s : cS} {Z : Nat → ab_C} {t q : Nat} (h : cA s t q) (ht : t < 3) (f : Nat → Int32) : ab_fu (cc_F s Z) q (.inl (t, cl s q, .inl f)) = cc_F (ca s q f) Z := by
  funext i
  unfold ab_fu
  by_cases hi : i = q
  · subst hi
    rw [if_pos rfl, cc_arr h.1]
    have : (ca s i f).2.2.1 i = ((s.2.2.1 i).1, (s.2.2.1 i).2.1, f) := by simp only [ca, if_pos]
    rw [this, ca9_of (a := ((s.2.2.1 i).1, (s.2.2.1 i).2.1, f)) h.2.2 ht]
    rfl
  · rw [if_neg hi]
    unfold cc_F
    split
    all_goals first | rfl | (simp only [ca, if_neg hi])
theorem cc_cn {s : cS} {Z : Nat → ab_C} {t m : Nat} {x : ab_C} (hx : x = ca9 (t, m, fun _ => 0)) : ab_hl (42 + s.2.2.2 + 1) (ab_fu (cc_F s Z) (42 + s.2.2.2) x) = ch (cn s t m) Z := by
  unfold ch
  have h0 : 42 + (cn s t m).2.2.2 = 42 + s.2.2.2 + 1 := by simp only [cn]; omega
  rw [h0]
  congr 1
  funext i
  unfold ab_fu
  by_cases hi : i = 42 + s.2.2.2
  · rw [if_pos hi]
    have hc : cfr i = true := by
      unfold cfr
      split
      all_goals first | omega | skip
      simp; omega
    rw [cc_arr hc, hx]
    simp only [cn, if_pos hi]
  · rw [if_neg hi]
    unfold cc_F
    split
    all_goals first | rfl | (simp only [cn, if_neg hi])
theorem cc_g0 (s : cS) (Z : Nat → ab_C) (k : Nat) (v : Int32) : ab_fu (cc_F s Z) 0 (.inr (5, cf0 (cg s 0 k v))) = cc_F (cg s 0 k v) Z := by
  funext i
  unfold ab_fu
  by_cases h : i = 0
  · subst h; rfl
  · rw [if_neg h]
    unfold cc_F
    split
    all_goals first | rfl | (exact absurd rfl h) | (simp [cf2, cf11, cf16, cf17, cf18, cf20, cg])
theorem cc_r0 (s : cS) (Z : Nat → ab_C) (k : Nat) (v : Nat) : ab_fu (cc_F s Z) 0 (.inr (5, cf0 (cr s 0 k v))) = cc_F (cr s 0 k v) Z := by
  funext i
  unfold ab_fu
  by_cases h : i = 0
  · subst h; rfl
  · rw [if_neg h]
    unfold cc_F
    split
    all_goals first | rfl | (exact absurd rfl h) | (simp [cf2, cf11, cf16, cf17, cf18, cf20, cr])
theorem cc_g2 (s : cS) (Z : Nat → ab_C) (k : Nat) (v : Int32) : ab_fu (cc_F s Z) 2 (.inr (3, cf2 (cg s 2 k v))) = cc_F (cg s 2 k v) Z := by
  funext i
  unfold ab_fu
  by_cases h : i = 2
  · subst h; rfl
  · rw [if_neg h]
    unfold cc_F
    split
    all_goals first | rfl | (exact absurd rfl h) | (simp [cf0, cf11, cf16, cf17, cf18, cf20, cg])
theorem cc_r2 (s : cS) (Z : Nat → ab_C) (k : Nat) (v : Nat) : ab_fu (cc_F s Z) 2 (.inr (3, cf2 (cr s 2 k v))) = cc_F (cr s 2 k v) Z := by
  funext i
  unfold ab_fu
  by_cases h : i = 2
  · subst h; rfl
  · rw [if_neg h]
    unfold cc_F
    split
    all_goals first | rfl | (exact absurd rfl h) | (simp [cf0, cf11, cf16, cf17, cf18, cf20, cr])
theorem cc_g11 (s : cS) (Z : Nat → ab_C) (k : Nat) (v : Int32) : ab_fu (cc_F s Z) 11 (.inr (4, cf11 (cg s 11 k v))) = cc_F (cg s 11 k v) Z := by
  funext i
  unfold ab_fu
  by_cases h : i = 11
  · subst h; rfl
  · rw [if_neg h]
    unfold cc_F
    split
    all_goals first | rfl | (exact absurd rfl h) | (simp [cf0, cf2, cf16, cf17, cf18, cf20, cg])
theorem cc_r11 (s : cS) (Z : Nat → ab_C) (k : Nat) (v : Nat) : ab_fu (cc_F s Z) 11 (.inr (4, cf11 (cr s 11 k v))) = cc_F (cr s 11 k v) Z := by
  funext i
  unfold ab_fu
  by_cases h : i = 11
  · subst h; rfl
  · rw [if_neg h]
    unfold cc_F
    split
    all_goals first | rfl | (exact absurd rfl h) | (simp [cf0, cf2, cf16, cf17, cf18, cf20, cr])
theorem cc_g16 (s : cS) (Z : Nat → ab_C) (k : Nat) (v : Int32) : ab_fu (cc_F s Z) 16 (.inr (0, cf16 (cg s 16 k v))) = cc_F (cg s 16 k v) Z := by
  funext i
  unfold ab_fu
  by_cases h : i = 16
  · subst h; rfl
  · rw [if_neg h]
    unfold cc_F
    split
    all_goals first | rfl | (exact absurd rfl h) | (simp [cf0, cf2, cf11, cf17, cf18, cf20, cg])
theorem cc_r16 (s : cS) (Z : Nat → ab_C) (k : Nat) (v : Nat) : ab_fu (cc_F s Z) 16 (.inr (0, cf16 (cr s 16 k v))) = cc_F (cr s 16 k v) Z := by
  funext i
  unfold ab_fu
  by_cases h : i = 16
  · subst h; rfl
  · rw [if_neg h]
    unfold cc_F
    split
    all_goals first | rfl | (exact absurd rfl h) | (simp [cf0, cf2, cf11, cf17, cf18, cf20, cr])
theorem cc_g17 (s : cS) (Z : Nat → ab_C) (k : Nat) (v : Int32) : ab_fu (cc_F s Z) 17 (.inr (1, cf17 (cg s 17 k v))) = cc_F (cg s 17 k v) Z := by
  funext i
  unfold ab_fu
  by_cases h : i = 17
  · subst h; rfl
  · rw [if_neg h]
    unfold cc_F
    split
    all_goals first | rfl | (exact absurd rfl h) | (simp [cf0, cf2, cf11, cf16, cf18, cf20, cg])
theorem cc_r17 (s : cS) (Z : Nat → ab_C) (k : Nat) (v : Nat) : ab_fu (cc_F s Z) 17 (.inr (1, cf17 (cr s 17 k v))) = cc_F (cr s 17 k v) Z := by
  funext i
  unfold ab_fu
  by_cases h : i = 17
  · subst h; rfl
  · rw [if_neg h]
    unfold cc_F
    split
    all_goals first | rfl | (exact absurd rfl h) | (simp [cf0, cf2, cf11, cf16, cf18, cf20, cr])
theorem cc_g18 (s : cS) (Z : Nat → ab_C) (k : Nat) (v : Int32) : ab_fu (cc_F s Z) 18 (.inr (2, cf18 (cg s 18 k v))) = cc_F (cg s 18 k v) Z := by
  funext i
  unfold ab_fu
  by_cases h : i = 18
  · subst h; rfl
  · rw [if_neg h]
    unfold cc_F
    split
    all_goals first | rfl | (exact absurd rfl h) | (simp [cf0, cf2, cf11, cf16, cf17, cf20, cg])
theorem cc_r18 (s : cS) (Z : Nat → ab_C) (k : Nat) (v : Nat) : ab_fu (cc_F s Z) 18 (.inr (2, cf18 (cr s 18 k v))) = cc_F (cr s 18 k v) Z := by
  funext i
  unfold ab_fu
  by_cases h : i = 18
  · subst h; rfl
  · rw [if_neg h]
    unfold cc_F
    split
    all_goals first | rfl | (exact absurd rfl h) | (simp [cf0, cf2, cf11, cf16, cf17, cf20, cr])
theorem cc_g20 (s : cS) (Z : Nat → ab_C) (k : Nat) (v : Int32) : ab_fu (cc_F s Z) 20 (.inr (2, cf20 (cg s 20 k v))) = cc_F (cg s 20 k v) Z := by
  funext i
  unfold ab_fu
  by_cases h : i = 20
  · subst h; rfl
  · rw [if_neg h]
    unfold cc_F
    split
    all_goals first | rfl | (exact absurd rfl h) | (simp [cf0, cf2, cf11, cf16, cf17, cf18, cg])
theorem cc_r20 (s : cS) (Z : Nat → ab_C) (k : Nat) (v : Nat) : ab_fu (cc_F s Z) 20 (.inr (2, cf20 (cr s 20 k v))) = cc_F (cr s 20 k v) Z := by
  funext i
  unfold ab_fu
  by_cases h : i = 20
  · subst h; rfl
  · rw [if_neg h]
    unfold cc_F
    split
    all_goals first | rfl | (exact absurd rfl h) | (simp [cf0, cf2, cf11, cf16, cf17, cf18, cr])
theorem cs0_0 (s : cS) (v : Nat) : (cf0 s).set 0 (.ref v) = cf0 (cr s 0 0 v) := rfl
theorem cs0_1 (s : cS) (v : Int32) : (cf0 s).set 1 (.int v) = cf0 (cg s 0 1 v) := rfl
theorem cs2_0 (s : cS) (v : Int32) : (cf2 s).set 0 (.int v) = cf2 (cg s 2 0 v) := rfl
theorem cs2_1 (s : cS) (v : Nat) : (cf2 s).set 1 (.ref v) = cf2 (cr s 2 1 v) := rfl
theorem cs2_2 (s : cS) (v : Nat) : (cf2 s).set 2 (.ref v) = cf2 (cr s 2 2 v) := rfl
theorem cs2_3 (s : cS) (v : Nat) : (cf2 s).set 3 (.ref v) = cf2 (cr s 2 3 v) := rfl
theorem cs2_4 (s : cS) (v : Nat) : (cf2 s).set 4 (.ref v) = cf2 (cr s 2 4 v) := rfl
theorem cs2_5 (s : cS) (v : Nat) : (cf2 s).set 5 (.ref v) = cf2 (cr s 2 5 v) := rfl
theorem cs2_6 (s : cS) (v : Nat) : (cf2 s).set 6 (.ref v) = cf2 (cr s 2 6 v) := rfl
theorem cs2_7 (s : cS) (v : Nat) : (cf2 s).set 7 (.ref v) = cf2 (cr s 2 7 v) := rfl
theorem cs2_8 (s : cS) (v : Nat) : (cf2 s).set 8 (.ref v) = cf2 (cr s 2 8 v) := rfl
theorem cs11_0 (s : cS) (v : Int32) : (cf11 s).set 0 (.int v) = cf11 (cg s 11 0 v) := rfl
theorem cs11_1 (s : cS) (v : Int32) : (cf11 s).set 1 (.int v) = cf11 (cg s 11 1 v) := rfl
theorem cs11_2 (s : cS) (v : Int32) : (cf11 s).set 2 (.int v) = cf11 (cg s 11 2 v) := rfl
theorem cs11_3 (s : cS) (v : Int32) : (cf11 s).set 3 (.int v) = cf11 (cg s 11 3 v) := rfl
theorem cs11_4 (s : cS) (v : Int32) : (cf11 s).set 4 (.int v) = cf11 (cg s 11 4 v) := rfl
theorem cs11_5 (s : cS) (v : Int32) : (cf11 s).set 5 (.int v) = cf11 (cg s 11 5 v) := rfl
theorem cs11_6 (s : cS) (v : Int32) : (cf11 s).set 6 (.int v) = cf11 (cg s 11 6 v) := rfl
theorem cs11_7 (s : cS) (v : Nat) : (cf11 s).set 7 (.ref v) = cf11 (cr s 11 7 v) := rfl
theorem cs11_8 (s : cS) (v : Int32) : (cf11 s).set 8 (.int v) = cf11 (cg s 11 8 v) := rfl
theorem cs11_9 (s : cS) (v : Int32) : (cf11 s).set 9 (.int v) = cf11 (cg s 11 9 v) := rfl
theorem cs11_10 (s : cS) (v : Int32) : (cf11 s).set 10 (.int v) = cf11 (cg s 11 10 v) := rfl
theorem cs11_11 (s : cS) (v : Nat) : (cf11 s).set 11 (.ref v) = cf11 (cr s 11 11 v) := rfl
theorem cs11_12 (s : cS) (v : Nat) : (cf11 s).set 12 (.ref v) = cf11 (cr s 11 12 v) := rfl
theorem cs11_13 (s : cS) (v : Nat) : (cf11 s).set 13 (.ref v) = cf11 (cr s 11 13 v) := rfl
theorem cs11_14 (s : cS) (v : Int32) : (cf11 s).set 14 (.int v) = cf11 (cg s 11 14 v) := rfl
theorem cs11_15 (s : cS) (v : Int32) : (cf11 s).set 15 (.int v) = cf11 (cg s 11 15 v) := rfl
theorem cs11_16 (s : cS) (v : Int32) : (cf11 s).set 16 (.int v) = cf11 (cg s 11 16 v) := rfl
theorem cs11_17 (s : cS) (v : Int32) : (cf11 s).set 17 (.int v) = cf11 (cg s 11 17 v) := rfl
theorem cs16_0 (s : cS) (v : Nat) : (cf16 s).set 0 (.ref v) = cf16 (cr s 16 0 v) := rfl
theorem cs16_1 (s : cS) (v : Nat) : (cf16 s).set 1 (.ref v) = cf16 (cr s 16 1 v) := rfl
theorem cs16_5 (s : cS) (v : Int32) : (cf16 s).set 5 (.int v) = cf16 (cg s 16 5 v) := rfl
theorem cs16_6 (s : cS) (v : Int32) : (cf16 s).set 6 (.int v) = cf16 (cg s 16 6 v) := rfl
theorem cs16_7 (s : cS) (v : Int32) : (cf16 s).set 7 (.int v) = cf16 (cg s 16 7 v) := rfl
theorem cs16_8 (s : cS) (v : Int32) : (cf16 s).set 8 (.int v) = cf16 (cg s 16 8 v) := rfl
theorem cs16_9 (s : cS) (v : Int32) : (cf16 s).set 9 (.int v) = cf16 (cg s 16 9 v) := rfl
theorem cs16_10 (s : cS) (v : Int32) : (cf16 s).set 10 (.int v) = cf16 (cg s 16 10 v) := rfl
theorem cs16_11 (s : cS) (v : Int32) : (cf16 s).set 11 (.int v) = cf16 (cg s 16 11 v) := rfl
theorem cs16_12 (s : cS) (v : Int32) : (cf16 s).set 12 (.int v) = cf16 (cg s 16 12 v) := rfl
theorem cs16_13 (s : cS) (v : Int32) : (cf16 s).set 13 (.int v) = cf16 (cg s 16 13 v) := rfl
theorem cs16_14 (s : cS) (v : Int32) : (cf16 s).set 14 (.int v) = cf16 (cg s 16 14 v) := rfl
theorem cs16_15 (s : cS) (v : Int32) : (cf16 s).set 15 (.int v) = cf16 (cg s 16 15 v) := rfl
theorem cs17_0 (s : cS) (v : Int32) : (cf17 s).set 0 (.int v) = cf17 (cg s 17 0 v) := rfl
theorem cs17_1 (s : cS) (v : Int32) : (cf17 s).set 1 (.int v) = cf17 (cg s 17 1 v) := rfl
theorem cs17_2 (s : cS) (v : Int32) : (cf17 s).set 2 (.int v) = cf17 (cg s 17 2 v) := rfl
theorem cs17_3 (s : cS) (v : Int32) : (cf17 s).set 3 (.int v) = cf17 (cg s 17 3 v) := rfl
theorem cs18_0 (s : cS) (v : Int32) : (cf18 s).set 0 (.int v) = cf18 (cg s 18 0 v) := rfl
theorem cs18_1 (s : cS) (v : Int32) : (cf18 s).set 1 (.int v) = cf18 (cg s 18 1 v) := rfl
theorem cs18_2 (s : cS) (v : Int32) : (cf18 s).set 2 (.int v) = cf18 (cg s 18 2 v) := rfl
theorem cs18_3 (s : cS) (v : Int32) : (cf18 s).set 3 (.int v) = cf18 (cg s 18 3 v) := rfl
theorem cs18_4 (s : cS) (v : Nat) : (cf18 s).set 4 (.ref v) = cf18 (cr s 18 4 v) := rfl
theorem cs20_0 (s : cS) (v : Int32) : (cf20 s).set 0 (.int v) = cf20 (cg s 20 0 v) := rfl
theorem cs20_1 (s : cS) (v : Int32) : (cf20 s).set 1 (.int v) = cf20 (cg s 20 1 v) := rfl
theorem cs20_2 (s : cS) (v : Int32) : (cf20 s).set 2 (.int v) = cf20 (cg s 20 2 v) := rfl
theorem cs20_3 (s : cS) (v : Int32) : (cf20 s).set 3 (.int v) = cf20 (cg s 20 3 v) := rfl
theorem cs20_4 (s : cS) (v : Nat) : (cf20 s).set 4 (.ref v) = cf20 (cr s 20 4 v) := rfl
/-- an image's fields, by its cell -/
def cfi (s : cS) (q : Nat) : List Value := [.int (s.1 q 0), .int (s.1 q 1), .int (s.1 q 2), .int (s.1 q 3), .ref (s.2.1 q 4)]
theorem cc_img {s : cS} {Z : Nat → ab_C} {q : Nat} (h : cQ q) : cc_F s Z q = .inr (2, cfi s q) := by rcases h with rfl | rfl <;> rfl
section CC
variable {d mi pc len a b : Nat} {l : ab_L} {r st : List Value} {h h1 h' : ab_H} {o : Option Value ⊕ Unit} {P P2 : ab_M × List ab_I} {s : cS} {Z : Nat → ab_C}
theorem c_get {i ci k idx : Nat} {fs : List Value} {v : Value} (hi : Nat.blt i 22 = true) (hP : ab_prog[mi]? = some P) (hf : ab_fetch P.2 pc = some (.getfield idx, len, ci, k)) (hF : cc_F s Z i = .inr (ci, fs)) (hc : Nat.blt ci 7 = true) (hv : fs[k]? = some v) (K : ab_Rn d mi (pc + 3) l (v :: r) (ch s Z) o h') : ab_Rn d mi pc l (.ref i :: r) (ch s Z) o h' := by
  simp at hi hc
  exact r_getf hP hf (by omega) hF hc hv K
theorem c_getI {q k idx : Nat} {v : Value} (hq : cQ q) (hP : ab_prog[mi]? = some P) (hf : ab_fetch P.2 pc = some (.getfield idx, len, 2, k)) (hv : (cfi s q)[k]? = some v) (K : ab_Rn d mi (pc + 3) l (v :: r) (ch s Z) o h') : ab_Rn d mi pc l (.ref q :: r) (ch s Z) o h' := r_getf hP hf (by rcases hq with rfl | rfl <;> omega) (cc_img hq) (by decide) hv K
theorem c_put {i ci k idx : Nat} {fs fs' : List Value} {v : Int32} (hi : Nat.blt i 22 = true) (hP : ab_prog[mi]? = some P) (hf : ab_fetch P.2 pc = some (.putfield idx, len, ci, k)) (hF : cc_F s Z i = .inr (ci, fs)) (hc : Nat.blt ci 7 = true) (hk : Nat.blt k fs.length = true) (hg : ab_fu (cc_F s Z) i (.inr (ci, fs')) = cc_F (cg s i k v) Z) (hs : fs.set k (.int v) = fs') (hv : ab_fit (ab_ty ci k) (.int v) = true) (hfin : ab_fin ci k = false) (K : ab_Rn d mi (pc + 3) l r (ch (cg s i k v) Z) o h') : ab_Rn d mi pc l (.int v :: .ref i :: r) (ch s Z) o h' := by
  simp at hi hc hk
  refine r_putf hP hf (by omega) hF hc hk hv (Or.inl hfin) ?_
  rw [hs, hg]
  exact K
theorem c_putR {i ci k idx q : Nat} {fs fs' : List Value} (hi : Nat.blt i 22 = true) (hP : ab_prog[mi]? = some P) (hf : ab_fetch P.2 pc = some (.putfield idx, len, ci, k)) (hF : cc_F s Z i = .inr (ci, fs)) (hc : Nat.blt ci 7 = true) (hk : Nat.blt k fs.length = true) (hg : ab_fu (cc_F s Z) i (.inr (ci, fs')) = cc_F (cr s i k q) Z) (hs : fs.set k (.ref q) = fs') (hv : ab_fit (ab_ty ci k) (.ref q) = true) (hfin : ab_fin ci k = false) (K : ab_Rn d mi (pc + 3) l r (ch (cr s i k q) Z) o h') : ab_Rn d mi pc l (.ref q :: .ref i :: r) (ch s Z) o h' := by
  simp at hi hc hk
  refine r_putf hP hf (by omega) hF hc hk hv (Or.inl hfin) ?_
  rw [hs, hg]
  exact K
theorem c_putI {k idx q : Nat} {v : Int32} (hq : cQ q) (hP : ab_prog[mi]? = some P) (hf : ab_fetch P.2 pc = some (.putfield idx, len, 2, k)) (hk : Nat.blt k 4 = true) (K : ab_Rn d mi (pc + 3) l r (ch (cg s q k v) Z) o h') : ab_Rn d mi pc l (.int v :: .ref q :: r) (ch s Z) o h' := by
  have hk' : k = 0 ∨ k = 1 ∨ k = 2 ∨ k = 3 := by simp at hk; omega
  rcases hq with rfl | rfl
  · refine c_put (i := 18) (ci := 2) (fs' := cf18 (cg s 18 k v)) rfl hP hf rfl rfl ?_ (cc_g18 s Z k v) ?_ ?_ ?_ K <;> rcases hk' with rfl | rfl | rfl | rfl <;> rfl
  · refine c_put (i := 20) (ci := 2) (fs' := cf20 (cg s 20 k v)) rfl hP hf rfl rfl ?_ (cc_g20 s Z k v) ?_ ?_ ?_ K <;> rcases hk' with rfl | rfl | rfl | rfl <;> rfl
theorem c_putIR {idx q x : Nat} (hq : cQ q) (hP : ab_prog[mi]? = some P) (hf : ab_fetch P.2 pc = some (.putfield idx, len, 2, 4)) (K : ab_Rn d mi (pc + 3) l r (ch (cr s q 4 x) Z) o h') : ab_Rn d mi pc l (.ref x :: .ref q :: r) (ch s Z) o h' := by
  rcases hq with rfl | rfl
  · exact c_putR (i := 18) (ci := 2) (fs' := cf18 (cr s 18 4 x)) rfl hP hf rfl rfl rfl (cc_r18 s Z 4 x) rfl rfl rfl K
  · exact c_putR (i := 20) (ci := 2) (fs' := cf20 (cr s 20 4 x)) rfl hP hf rfl rfl rfl (cc_r20 s Z 4 x) rfl rfl rfl K
theorem c_alen {t q : Nat} (hP : ab_prog[mi]? = some P) (hf : ab_fetch P.2 pc = some (.arraylength, len, a, b)) (ht : Nat.blt t 3 = true) (hA : cA s t q) (K : ab_Rn d mi (pc + 1) l (.int (Int32.ofNat (cl s q)) :: r) (ch s Z) o h') : ab_Rn d mi pc l (.ref q :: r) (ch s Z) o h' := by
  simp at ht
  exact r_alen hP hf hA.2.1 (cc_at hA ht) ht K
theorem c_ild {q : Nat} {j : Int32} (hP : ab_prog[mi]? = some P) (hf : ab_fetch P.2 pc = some (.iaload, len, a, b)) (hA : cB s 1 q j) (K : ab_Rn d mi (pc + 1) l (.int (ce s q j) :: r) (ch s Z) o h') : ab_Rn d mi pc l (.int j :: .ref q :: r) (ch s Z) o h' := r_iald hP hf hA.1.2.1 (cc_at hA.1 (by decide)) hA.2 K
theorem c_bld {q : Nat} {j : Int32} (hP : ab_prog[mi]? = some P) (hf : ab_fetch P.2 pc = some (.baload, len, a, b)) (hA : cB s 0 q j) (K : ab_Rn d mi (pc + 1) l (.int (ce s q j) :: r) (ch s Z) o h') : ab_Rn d mi pc l (.int j :: .ref q :: r) (ch s Z) o h' := r_bald hP hf hA.1.2.1 (cc_at hA.1 (by decide)) hA.2 K
theorem c_ist {q : Nat} {j x : Int32} (hP : ab_prog[mi]? = some P) (hf : ab_fetch P.2 pc = some (.iastore, len, a, b)) (hA : cB s 1 q j) (K : ab_Rn d mi (pc + 1) l r (ch (cw s q j x) Z) o h') : ab_Rn d mi pc l (.int x :: .int j :: .ref q :: r) (ch s Z) o h' := by
  refine r_iast hP hf hA.1.2.1 (cc_at hA.1 (by decide)) hA.2 ?_
  rw [cc_ca hA.1 (by decide)]
  exact K
theorem c_bst {q : Nat} {j x : Int32} (hP : ab_prog[mi]? = some P) (hf : ab_fetch P.2 pc = some (.bastore, len, a, b)) (hA : cB s 0 q j) (K : ab_Rn d mi (pc + 1) l r (ch (cw s q j x.toInt8.toInt32) Z) o h') : ab_Rn d mi pc l (.int x :: .int j :: .ref q :: r) (ch s Z) o h' := by
  refine r_bast hP hf hA.1.2.1 (cc_at hA.1 (by decide)) hA.2 ?_
  rw [cc_ca hA.1 (by decide)]
  exact K
theorem c_newI {x : Int32} (hP : ab_prog[mi]? = some P) (hf : ab_fetch P.2 pc = some (.newarray .int, len, a, b)) (hc : cN x) (K : ab_Rn d mi (pc + 2) l (.ref (42 + s.2.2.2) :: r) (ch (cn s 1 x.toNatClampNeg) Z) o h') : ab_Rn d mi pc l (.int x :: r) (ch s Z) o h' := by
  refine r_newa hP hf ⟨by decide, hc.1, hc.2⟩ ?_
  rw [cc_cn (x := ab_a0 (ab_at .int) x.toNatClampNeg) (t := 1) (m := x.toNatClampNeg) rfl]
  exact K
theorem c_newB {x : Int32} (hP : ab_prog[mi]? = some P) (hf : ab_fetch P.2 pc = some (.newarray .byte, len, a, b)) (hc : cN x) (K : ab_Rn d mi (pc + 2) l (.ref (42 + s.2.2.2) :: r) (ch (cn s 0 x.toNatClampNeg) Z) o h') : ab_Rn d mi pc l (.int x :: r) (ch s Z) o h' := by
  refine r_newa hP hf ⟨by decide, hc.1, hc.2⟩ ?_
  rw [cc_cn (x := ab_a0 (ab_at .byte) x.toNatClampNeg) (t := 0) (m := x.toNatClampNeg) rfl]
  exact K
theorem c_cpy {idx t q0 q1 : Nat} {sp dp n : Int32} (hP : ab_prog[mi]? = some P) (hf : ab_fetch P.2 pc = some (.invokestatic idx, len, 999, b)) (ht : Nat.blt t 2 = true) (hcat : Nat.ble (ab_cat r) 8 = true) (hA : cY s t q0 sp q1 dp n) (K : ab_Rn d mi (pc + 3) l r (ch (cy s q0 sp q1 dp n) Z) o h') : ab_Rn d mi pc l (.int n :: .int dp :: .ref q1 :: .int sp :: .ref q0 :: r) (ch s Z) o h' := by
  obtain ⟨h0, h1, h2, h3, h4, h5, h6, h7⟩ := hA
  simp at ht
  have hcat := Nat.le_of_ble_eq_true hcat
  refine r_nx (z := (pc + 3, l, r, ch (cy s q0 sp q1 dp n) Z)) hP hf ?_ K
  have e0 : (ch s Z)[q0]? = some (.inl (t, cl s q0, .inl (s.2.2.1 q0).2.2)) := ab_hl_at h0.2.1 (cc_at h0 (by omega))
  have e1 : (ch s Z)[q1]? = some (.inl (t, cl s q1, .inl (s.2.2.1 q1).2.2)) := ab_hl_at h1.2.1 (cc_at h1 (by omega))
  have eh : (ch s Z).set q1 (.inl (t, cl s q1, .inl (va_cpy (s.2.2.1 q0).2.2 (s.2.2.1 q1).2.2 sp.toNatClampNeg dp.toNatClampNeg n.toNatClampNeg))) = ch (cy s q0 sp q1 dp n) Z := by
    unfold ch
    rw [ab_hl_set, cc_ca h1 (by omega)]
    rfl
  have hx : ab_cpy (ch s Z) (.int n :: .int dp :: .ref q1 :: .int sp :: .ref q0 :: r) = some (r, ch (cy s q0 sp q1 dp n) Z) := by
    simp only [ab_cpy, e0, e1]
    by_cases t1 : t = 1
    · rw [if_pos ⟨t1, t1, h2, h3, h4, h5, h6, hcat⟩, eh]
    · rw [if_neg (fun hh => t1 hh.1), if_pos ⟨by omega, by omega, h2, h3, h4, h5, h6, hcat, h7 (by omega)⟩, eh]
  simp only [ab_nx, ab_op, ab_ld, ab_sto, ab_br, ab_hp, ab_con, ab_acmp, ab_nat]
  rw [if_neg (by decide), if_neg (by decide), if_pos trivial, hx]
theorem r_min {idx : Nat} {x y : Int32} (hP : ab_prog[mi]? = some P) (hf : ab_fetch P.2 pc = some (.invokestatic idx, len, 997, b)) (hcat : Nat.ble (ab_cat r) 8 = true) (K : ab_Rn d mi (pc + 3) l (.int (if y < x then y else x) :: r) h o h') : ab_Rn d mi pc l (.int y :: .int x :: r) h o h' := by
  refine r_nx (z := (pc + 3, l, .int (if y < x then y else x) :: r, h)) hP hf ?_ K
  simp only [ab_nx, ab_op, ab_ld, ab_sto, ab_br, ab_hp, ab_con, ab_acmp, ab_nat, ab_mm]
  rw [if_pos trivial, if_pos (Nat.le_of_ble_eq_true hcat)]
theorem r_max {idx : Nat} {x y : Int32} (hP : ab_prog[mi]? = some P) (hf : ab_fetch P.2 pc = some (.invokestatic idx, len, 996, b)) (hcat : Nat.ble (ab_cat r) 8 = true) (K : ab_Rn d mi (pc + 3) l (.int (if x < y then y else x) :: r) h o h') : ab_Rn d mi pc l (.int y :: .int x :: r) h o h' := by
  refine r_nx (z := (pc + 3, l, .int (if x < y then y else x) :: r, h)) hP hf ?_ K
  simp only [ab_nx, ab_op, ab_ld, ab_sto, ab_br, ab_hp, ab_con, ab_acmp, ab_nat, ab_mm]
  rw [if_neg (by decide), if_pos trivial, if_pos (Nat.le_of_ble_eq_true hcat)]
theorem r_ldS {idx : Nat} (hP : ab_prog[mi]? = some P) (hf : ab_fetch P.2 pc = some (.ldc idx, len, a, 1)) (K : ab_Rn d mi (pc + 2) l (.retAddr a :: r) h o h') : ab_Rn d mi pc l r h o h' := r_nx (z := (pc + 2, l, .retAddr a :: r, h)) hP hf rfl K
theorem r_gstS {idx : Nat} (hP : ab_prog[mi]? = some P) (hf : ab_fetch P.2 pc = some (.getstatic idx, len, a, 0)) (K : ab_Rn d mi (pc + 3) l (.retAddr a :: r) h o h') : ab_Rn d mi pc l r h o h' := r_nx (z := (pc + 3, l, .retAddr a :: r, h)) hP hf rfl K
theorem r_gstI {idx : Nat} (hP : ab_prog[mi]? = some P) (hf : ab_fetch P.2 pc = some (.getstatic idx, len, a, 1)) (K : ab_Rn d mi (pc + 3) l (.int (Int32.ofNat a) :: r) h o h') : ab_Rn d mi pc l r h o h' := r_nx (z := (pc + 3, l, .int (Int32.ofNat a) :: r, h)) hP hf rfl K
theorem r_gstF {idx : Nat} (hP : ab_prog[mi]? = some P) (hf : ab_fetch P.2 pc = some (.getstatic idx, len, a, 2)) (K : ab_Rn d mi (pc + 3) l (.float 1 :: r) h o h') : ab_Rn d mi pc l r h o h' := r_nx (z := (pc + 3, l, .float 1 :: r, h)) hP hf rfl K
theorem r_sget {idx k : Nat} {v : Value} (hP : ab_prog[mi]? = some P) (hf : ab_fetch P.2 pc = some (.getfield idx, len, 100, b)) (hv : ab_sfv b k = some v) (K : ab_Rn d mi (pc + 3) l (v :: r) h o h') : ab_Rn d mi pc l (.retAddr k :: r) h o h' := by
  refine r_nx (z := (pc + 3, l, v :: r, h)) hP hf ?_ K
  simp only [ab_nx, ab_op, ab_ld, ab_sto, ab_br, ab_hp, ab_fget, Option.map_none, ab_con, ab_sfget, hv, ab_len]
  rfl
theorem en_at {k : Nat} (h : cE k) : ab_enm[k - 400]? = some (en k) := by
  unfold en
  have h2 : ab_enm.length = 83 := rfl
  have : k - 400 < ab_enm.length := by rw [h2]; omega
  rw [List.getElem?_eq_getElem this, List.getD_eq_getElem?_getD, List.getElem?_eq_getElem this]
  rfl
theorem en_spell {k : Nat} (h : cE k) : ab_sfv 2 k = some (.retAddr (en k).1) := by simp only [ab_sfv, if_pos h.1, en_at h]
theorem en_patt {k : Nat} (h : cE k) : ab_sfv 3 k = some (.retAddr (en k).2.1) := by simp only [ab_sfv, if_pos h.1, en_at h]
theorem en_form {k : Nat} (h : cE k) : ab_sfv 4 k = some (.int (en k).2.2.1) := by simp only [ab_sfv, if_pos h.1, en_at h]
theorem en_code {k : Nat} (h : cE k) : ab_sfv 5 k = some (.int (en k).2.2.2) := by simp only [ab_sfv, if_pos h.1, en_at h]
theorem r_slen (hP : ab_prog[mi]? = some P) (hf : ab_fetch P.2 pc = some (.arraylength, len, a, b)) (K : ab_Rn d mi (pc + 1) l (.int 83 :: r) h o h') : ab_Rn d mi pc l (.retAddr 500 :: r) h o h' := r_nx (z := (pc + 1, l, .int 83 :: r, h)) hP hf rfl K
theorem r_sald {j : Int32} (hP : ab_prog[mi]? = some P) (hf : ab_fetch P.2 pc = some (.aaload, len, a, b)) (hj : ib j 83) (K : ab_Rn d mi (pc + 1) l (.retAddr (400 + j.toNatClampNeg) :: r) h o h') : ab_Rn d mi pc l (.int j :: .retAddr 500 :: r) h o h' := by
  refine r_nx (z := (pc + 1, l, .retAddr (400 + j.toNatClampNeg) :: r, h)) hP hf ?_ K
  simp only [ab_nx, ab_op, ab_ld, ab_sto, ab_br, ab_hp, ab_con, ab_sald]
  rw [if_pos ⟨trivial, hj⟩]
  rfl
theorem r_acmp {off : Int} {x y : Nat} (hP : ab_prog[mi]? = some P) (hf : ab_fetch P.2 pc = some (.if_acmp .ne off, len, a, b)) (hx : cE x) (hy : cE y) (kt : ¬ x = y → ab_Rn d mi a l r h o h') (kf : x = y → ab_Rn d mi (pc + 3) l r h o h') : ab_Rn d mi pc l (.retAddr y :: .retAddr x :: r) h o h' := by
  by_cases c : x = y
  · refine r_nx (z := (pc + 3, l, r, h)) hP hf ?_ (kf c)
    have e9 : (x == y) = true := by simpa using c
    simp only [ab_nx, ab_op, ab_ld, ab_sto, ab_br, ab_hp, ab_con, ab_acmp, if_pos (And.intro hx hy), e9, cond_true]
  · refine r_nx (z := (a, l, r, h)) hP hf ?_ (kt c)
    have e9 : (x == y) = false := by simpa using c
    simp only [ab_nx, ab_op, ab_ld, ab_sto, ab_br, ab_hp, ab_con, ab_acmp, if_pos (And.intro hx hy), e9, cond_false]
theorem r_nn0 {off : Int} (hP : ab_prog[mi]? = some P) (hf : ab_fetch P.2 pc = some (.ifnonnull off, len, a, b)) (K : ab_Rn d mi (pc + 3) l r h o h') : ab_Rn d mi pc l (.null :: r) h o h' := r_nx (z := (pc + 3, l, r, h)) hP hf rfl K
theorem r_nn1 {off : Int} {k : Nat} (hP : ab_prog[mi]? = some P) (hf : ab_fetch P.2 pc = some (.ifnonnull off, len, a, b)) (K : ab_Rn d mi a l r h o h') : ab_Rn d mi pc l (.retAddr k :: r) h o h' := r_nx (z := (a, l, r, h)) hP hf rfl K
theorem r_retR {q : Nat} (hP : ab_prog[mi]? = some P) (hf : ab_fetch P.2 pc = some (.areturn, len, a, b)) (hr : ab_isr P.1.2.2.2.2.1 = true) : ab_Rn d mi pc l [.ref q] h (.inl (some (.ref q))) h := r_ret hP hf rfl (by simp only [ab_ret, if_pos hr])
theorem r_retS {q : Nat} (hP : ab_prog[mi]? = some P) (hf : ab_fetch P.2 pc = some (.areturn, len, a, b)) (hr : ab_isr P.1.2.2.2.2.1 = true) : ab_Rn d mi pc l [.retAddr q] h (.inl (some (.retAddr q))) h := r_ret hP hf rfl (by simp only [ab_ret, if_pos hr])
theorem r_retN (hP : ab_prog[mi]? = some P) (hf : ab_fetch P.2 pc = some (.areturn, len, a, b)) (hr : ab_isr P.1.2.2.2.2.1 = true) : ab_Rn d mi pc l [.null] h (.inl (some .null)) h := r_ret hP hf rfl (by simp only [ab_ret, if_pos hr])
/-- the one throw -/
theorem c_thr {idx : Nat} (hP : ab_prog[46]? = some P) (hf : ab_fetch P.2 23 = some (.new idx, len, 7, b)) : ab_Rn d 46 23 l [] (ch s Z) (.inr ()) (ch (cn s 9 0) Z) := by
  have := r_thr (d := d) (l := l) (st := []) (h := ch s Z) hP hf rfl rfl rfl
  have e : ch s Z ++ [.inr (7, [])] = ch (cn s 9 0) Z := by
    unfold ch
    rw [ab_hl_push]
    exact cc_cn rfl
  rw [e] at this
  exact this
theorem c_cv {i ci idx : Nat} {fs : List Value} {v : Option Value} {w : List Value} (hi : Nat.blt i 22 = true) (hP : ab_prog[mi]? = some P) (hf : ab_fetch P.2 pc = some (.invokevirtual idx, len, a, b)) (ht : ab_thr mi pc st = false) (hP2 : ab_prog[a]? = some P2) (hst : st.drop P2.1.2.2.2.2.2.1 = .ref i :: r) (hlen : (st.take P2.1.2.2.2.2.2.1).length = P2.1.2.2.2.2.2.1) (hcat : Nat.ble (ab_cat r) 8 = true) (hF : cc_F s Z i = .inr (ci, fs)) (hcn : ab_cn ci = P2.1.2.1.cls) (hl : Nat.ble (lg_sl (.ref i :: (st.take P2.1.2.2.2.2.2.1).reverse)).length P2.1.2.2.2.1 = true)
    (hc : ab_Rn d a 0 (lv_args 0 (.ref i :: (st.take P2.1.2.2.2.2.2.1).reverse)) [] (ch s Z) (.inl v) h1) (hw : v.toList ++ r = w) (K : ab_Rn (d + 1) mi (pc + 3) l w h1 o h') : ab_Rn (d + 1) mi pc l st (ch s Z) o h' := by
  subst hw
  simp at hi
  exact r_cv hP hf ht hP2 hst hlen (Nat.le_of_ble_eq_true hcat) (by omega) hF hcn (Nat.le_of_ble_eq_true hl) hc K
theorem c_cvx {i ci idx : Nat} {fs : List Value} (hi : Nat.blt i 22 = true) (hP : ab_prog[mi]? = some P) (hf : ab_fetch P.2 pc = some (.invokevirtual idx, len, a, b)) (ht : ab_thr mi pc st = false) (hP2 : ab_prog[a]? = some P2) (hst : st.drop P2.1.2.2.2.2.2.1 = .ref i :: r) (hlen : (st.take P2.1.2.2.2.2.2.1).length = P2.1.2.2.2.2.2.1) (hcat : Nat.ble (ab_cat r) 8 = true) (hF : cc_F s Z i = .inr (ci, fs)) (hcn : ab_cn ci = P2.1.2.1.cls) (hl : Nat.ble (lg_sl (.ref i :: (st.take P2.1.2.2.2.2.2.1).reverse)).length P2.1.2.2.2.1 = true)
    (hc : ab_Rn d a 0 (lv_args 0 (.ref i :: (st.take P2.1.2.2.2.2.2.1).reverse)) [] (ch s Z) (.inr ()) h') : ab_Rn (d + 1) mi pc l st (ch s Z) (.inr ()) h' := by
  simp at hi
  exact r_cvx hP hf ht hP2 hst hlen (Nat.le_of_ble_eq_true hcat) (by omega) hF hcn (Nat.le_of_ble_eq_true hl) hc
theorem c_cvI {q idx : Nat} {v : Option Value} {w : List Value} (hq : cQ q) (hP : ab_prog[mi]? = some P) (hf : ab_fetch P.2 pc = some (.invokevirtual idx, len, a, b)) (ht : ab_thr mi pc st = false) (hP2 : ab_prog[a]? = some P2) (hst : st.drop P2.1.2.2.2.2.2.1 = .ref q :: r) (hlen : (st.take P2.1.2.2.2.2.2.1).length = P2.1.2.2.2.2.2.1) (hcat : Nat.ble (ab_cat r) 8 = true) (hcn : ab_cn 2 = P2.1.2.1.cls) (hl : Nat.ble (lg_sl (.ref q :: (st.take P2.1.2.2.2.2.2.1).reverse)).length P2.1.2.2.2.1 = true)
    (hc : ab_Rn d a 0 (lv_args 0 (.ref q :: (st.take P2.1.2.2.2.2.2.1).reverse)) [] (ch s Z) (.inl v) h1) (hw : v.toList ++ r = w) (K : ab_Rn (d + 1) mi (pc + 3) l w h1 o h') : ab_Rn (d + 1) mi pc l st (ch s Z) o h' := by
  subst hw
  exact r_cv hP hf ht hP2 hst hlen (Nat.le_of_ble_eq_true hcat) (by rcases hq with rfl | rfl <;> omega) (cc_img hq) hcn (Nat.le_of_ble_eq_true hl) hc K
/-- a call on a constant string -/
theorem r_cvs {k idx : Nat} {v : Option Value} {w : List Value} (hk : k < 106) (hP : ab_prog[mi]? = some P) (hf : ab_fetch P.2 pc = some (.invokevirtual idx, len, a, b)) (ht : ab_thr mi pc st = false) (hP2 : ab_prog[a]? = some P2) (hst : st.drop P2.1.2.2.2.2.2.1 = .retAddr k :: r) (hlen : (st.take P2.1.2.2.2.2.2.1).length = P2.1.2.2.2.2.2.1) (hcat : Nat.ble (ab_cat r) 8 = true) (hcn : "java/lang/String" = P2.1.2.1.cls) (hl : Nat.ble (lg_sl (.retAddr k :: (st.take P2.1.2.2.2.2.2.1).reverse)).length P2.1.2.2.2.1 = true)
    (hc : ab_Rn d a 0 (lv_args 0 (.retAddr k :: (st.take P2.1.2.2.2.2.2.1).reverse)) [] h (.inl v) h1) (hw : v.toList ++ r = w) (K : ab_Rn (d + 1) mi (pc + 3) l w h1 o h') : ab_Rn (d + 1) mi pc l st h o h' := by
  subst hw
  refine r_call (z := (.retAddr k :: (st.take P2.1.2.2.2.2.2.1).reverse, r)) hP hf rfl rfl ht hP2 ?_ (Nat.le_of_ble_eq_true hl) hc K
  simp only [ab_inv, hst]
  rw [if_pos ⟨hcn, hk, hlen, Nat.le_of_ble_eq_true hcat⟩]
theorem r_csx {idx : Nat} {v : Option Value} {w : List Value} (hP : ab_prog[mi]? = some P) (hf : ab_fetch P.2 pc = some (.invokestatic idx, len, a, b)) (hna : ab_nat (.invokestatic idx) a (ch s Z) st = none) (ht : ab_thr mi pc st = false) (hP2 : ab_prog[a]? = some P2) (hst : st.drop P2.1.2.2.2.2.2.1 = r) (hlen : (st.take P2.1.2.2.2.2.2.1).length = P2.1.2.2.2.2.2.1) (hcat : Nat.ble (ab_cat r) 8 = true) (hl : Nat.ble (lg_sl (st.take P2.1.2.2.2.2.2.1).reverse).length P2.1.2.2.2.1 = true)
    (hc : ab_Rn d a 0 (lv_args 0 (st.take P2.1.2.2.2.2.2.1).reverse) [] (ch s Z) (.inl v) h1) (hw : v.toList ++ r = w) (K : ab_Rn (d + 1) mi (pc + 3) l w h1 o h') : ab_Rn (d + 1) mi pc l st (ch s Z) o h' := r_csv hP hf hna ht hP2 hst hlen hcat hl hc hw K
theorem tsw_d {pc T : Nat} {dflt lo hi : Int} {offs : Array Int} {x : Int32} {r : List Value} (h0 : 0 ≤ (pc : Int) + dflt) (hT : ((pc : Int) + dflt).toNat = T) (hs : hi = lo + offs.size - 1) (H : ∀ k : Nat, k < offs.size → x.toInt = lo + k → offs[k]? = some dflt) : ab_tsw pc dflt lo hi offs (.int x :: r) = some (T, r) := by
  unfold ab_tsw
  simp only
  by_cases c : x.toInt < lo ∨ hi < x.toInt
  · rw [if_pos c]
    simp only [if_pos h0, hT]
  · rw [if_neg c]
    have := H (x.toInt - lo).toNat (by omega) (by omega)
    rw [this]
    simp only [if_pos h0, hT]
theorem lsw_d {pc T : Nat} {dflt : Int} {ps : Array (Int × Int)} {x : Int32} {r : List Value} (hb : (ps.toList.zip (ps.toList.drop 1)).all (fun (a, next) => a.1 < next.1) = true) (h0 : 0 ≤ (pc : Int) + dflt) (hT : ((pc : Int) + dflt).toNat = T) (H : ∀ q ∈ ps.toList, ¬ q.1 = x.toInt) : ab_lsw pc dflt ps (.int x :: r) = some (T, r) := by
  have e : Op.lookupswitch.offset ps.toList dflt x.toInt = dflt := by
    apply Op.lookupswitch.offset_none
    rw [List.find?_eq_none]
    intro q hq
    simpa using H q hq
  unfold ab_lsw
  simp only [e]
  rw [if_pos ⟨hb, h0⟩, hT]
theorem r_tswd {x : Int32} {dflt lo hi : Int} {offs : Array Int} {T : Nat} (hP : ab_prog[mi]? = some P) (hf : ab_fetch P.2 pc = some (.tableswitch dflt lo hi offs, len, a, b)) (h0 : 0 ≤ (pc : Int) + dflt) (hT : ((pc : Int) + dflt).toNat = T) (hs : hi = lo + offs.size - 1) (H : ∀ k : Nat, k < offs.size → x.toInt = lo + k → offs[k]? = some dflt) (K : ab_Rn d mi T l r h o h') : ab_Rn d mi pc l (.int x :: r) h o h' := r_sw hP hf rfl rfl rfl (tsw_d h0 hT hs H) K
theorem r_lswd {x : Int32} {dflt : Int} {ps : Array (Int × Int)} {T : Nat} (hP : ab_prog[mi]? = some P) (hf : ab_fetch P.2 pc = some (.lookupswitch dflt ps, len, a, b)) (hb : (ps.toList.zip (ps.toList.drop 1)).all (fun (a, next) => a.1 < next.1) = true) (h0 : 0 ≤ (pc : Int) + dflt) (hT : ((pc : Int) + dflt).toNat = T) (H : ∀ q ∈ ps.toList, ¬ q.1 = x.toInt) (K : ab_Rn d mi T l r h o h') : ab_Rn d mi pc l (.int x :: r) h o h' := r_sw hP hf rfl rfl rfl (lsw_d hb h0 hT H) K
theorem r_aloadS_n {k4 : Fin 4} {i : Nat} (hP : ab_prog[mi]? = some P) (hf : ab_fetch P.2 pc = some (.aload_n k4, len, a, b)) (e : ab_get l k4 = some (.retAddr i)) (K : ab_Rn d mi (pc + 1) l (.retAddr i :: r) h o h') : ab_Rn d mi pc l r h o h' := r_ld hP hf rfl (by simp only [ab_ld, e, ab_k]; rfl) K
theorem r_aloadN_n {k4 : Fin 4} (hP : ab_prog[mi]? = some P) (hf : ab_fetch P.2 pc = some (.aload_n k4, len, a, b)) (e : ab_get l k4 = some .null) (K : ab_Rn d mi (pc + 1) l (.null :: r) h o h') : ab_Rn d mi pc l r h o h' := r_ld hP hf rfl (by simp only [ab_ld, e, ab_k]; rfl) K
theorem r_astoreS_n {k4 : Fin 4} {i : Nat} (hP : ab_prog[mi]? = some P) (hf : ab_fetch P.2 pc = some (.astore_n k4, len, a, b)) (hk : (k4 : Nat) < P.1.2.2.2.1) (K : ∀ l' : ab_L, (∀ (j : Nat) (w : Value), j ≠ (k4 : Nat) → ab_get l j = some w → w.category = 1 ∨ j + 1 ≠ (k4 : Nat) → ab_get l' j = some w) → ab_get l' (k4 : Nat) = some (.retAddr i) → ab_Rn d mi (pc + 1) l' r h o h') : ab_Rn d mi pc l (.retAddr i :: r) h o h' := r_sto (l' := ab_set1 l (k4 : Nat) (.retAddr i)) (st' := r) hP hf rfl rfl (by simp only [ab_sto, ab_st1, ab_k, if_pos hk]; rfl) (K _ (fun _ _ hj e hc => ab_get_set1 hj e hc) (ab_get_set1_self _ _ _))
theorem r_astoreN_n {k4 : Fin 4} (hP : ab_prog[mi]? = some P) (hf : ab_fetch P.2 pc = some (.astore_n k4, len, a, b)) (hk : (k4 : Nat) < P.1.2.2.2.1) (K : ∀ l' : ab_L, (∀ (j : Nat) (w : Value), j ≠ (k4 : Nat) → ab_get l j = some w → w.category = 1 ∨ j + 1 ≠ (k4 : Nat) → ab_get l' j = some w) → ab_get l' (k4 : Nat) = some .null → ab_Rn d mi (pc + 1) l' r h o h') : ab_Rn d mi pc l (.null :: r) h o h' := r_sto (l' := ab_set1 l (k4 : Nat) .null) (st' := r) hP hf rfl rfl (by simp only [ab_sto, ab_st1, ab_k, if_pos hk]; rfl) (K _ (fun _ _ hj e hc => ab_get_set1 hj e hc) (ab_get_set1_self _ _ _))
end CC
