/-! THE ABSTRACT MACHINE, its second third: the heap. Cell i lies at N0 + i. An array: (its type: 0 byte, 1 int, 2 long; its length; what it holds); an object: (its number in ab_cl; its fields). -/
abbrev ab_C : Type := (Nat × vp_A) ⊕ (Nat × List Value)
abbrev ab_H : Type := List ab_C
def ab_E (cA : Nat → ClassId) (N0 : Nat) (adS : Nat → Nat) (x : ab_C) : va_E := match x with
  | .inl a => .inl (cA a.1, a.2)
  | .inr o => .inr (o.1, o.2.map (ab_rv N0 adS))
def ab_ws (cA : Nat → ClassId) (N0 : Nat) (adS : Nat → Nat) (h : ab_H) : va_W := h.mapIdx (fun i x => (N0 + i, ab_E cA N0 adS x))
abbrev ab_tys (cA : Nat → ClassId) : List (ClassId × FieldType) := [(cA 0, .byte), (cA 1, .int), (cA 2, .long)]
abbrev ab_A (N0 : Nat) : Nat → Prop := fun q => N0 ≤ q
theorem ab_ws_get (cA : Nat → ClassId) (N0 : Nat) (adS : Nat → Nat) (h : ab_H) (i : Nat) : (ab_ws cA N0 adS h)[i]? = (h[i]?).map (fun x => (N0 + i, ab_E cA N0 adS x)) := by
  simp [ab_ws, List.getElem?_mapIdx]
theorem ab_ws_at {cA : Nat → ClassId} {N0 : Nat} {adS : Nat → Nat} {h : ab_H} {i : Nat} {x : ab_C} (e : h[i]? = some x) : (ab_ws cA N0 adS h)[i]? = some (N0 + i, ab_E cA N0 adS x) := by
  rw [ab_ws_get, e]; rfl
theorem ab_ws_set (cA : Nat → ClassId) (N0 : Nat) (adS : Nat → Nat) (h : ab_H) (i : Nat) (x : ab_C) : (ab_ws cA N0 adS h).set i (N0 + i, ab_E cA N0 adS x) = ab_ws cA N0 adS (h.set i x) := by
  apply List.ext_getElem?
  intro j
  rw [ab_ws_get, List.getElem?_set, List.getElem?_set, ab_ws_get]
  have hl : (ab_ws cA N0 adS h).length = h.length := by simp [ab_ws]
  rw [hl]
  by_cases hj : i = j
  · subst hj
    by_cases hk : i < h.length
    · simp [hk]
    · simp [hk]
  · simp [hj]
theorem ab_ws_push (cA : Nat → ClassId) (N0 : Nat) (adS : Nat → Nat) (h : ab_H) (x : ab_C) : ab_ws cA N0 adS h ++ [(N0 + h.length, ab_E cA N0 adS x)] = ab_ws cA N0 adS (h ++ [x]) := by
  simp [ab_ws, List.mapIdx_append]
theorem ab_ws_D (cA : Nat → ClassId) (N0 : Nat) (adS : Nat → Nat) (h : ab_H) : va_D (ab_A N0) (ab_ws cA N0 adS h) := by
  refine ⟨fun i j p q hp hq e => ?_, fun k q hq => ?_⟩
  · rw [ab_ws_get] at hp hq
    cases h1 : h[i]? with
    | none => rw [h1] at hp; cases hp
    | some x =>
      cases h2 : h[j]? with
      | none => rw [h2] at hq; cases hq
      | some y =>
        rw [h1] at hp; rw [h2] at hq
        cases hp; cases hq
        have e : N0 + i = N0 + j := e
        omega
  · rw [ab_ws_get] at hq
    cases h1 : h[k]? with
    | none => rw [h1] at hq; cases hq
    | some x => rw [h1] at hq; cases hq; exact Nat.le_add_right _ _
/-- the heap H holds the abstract heap h -/
def ab_Wd (D : va_G) (cA : Nat → ClassId) (N0 : Nat) (adS : Nat → Nat) (h : ab_H) (H : Heap) : Prop := va_P D ab_cl (ab_ws cA N0 adS h) H
def ab_sz1 (x : ab_C) : Nat := match x with
  | .inl a => a.2.1
  | .inr o => if o.1 = 7 then 6 else o.2.length
def ab_sz (h : ab_H) : Nat := (h.map ab_sz1).sum
def ab_fit (ty : FieldType) (v : Value) : Bool := match ty, v with
  | .int, .int _ => true
  | .long, .long _ => true
  | .boolean, .int x => x == 0 || x == 1
  | .object _, .null => true
  | .object _, .ref _ => true
  | .object _, .retAddr _ => true
  | .array _, .null => true
  | .array _, .ref _ => true
  | .array _, .retAddr _ => true
  | _, _ => false
theorem ab_fit_ok {N0 : Nat} {adS : Nat → Nat} {ty : FieldType} {v : Value} (h : ab_fit ty v = true) : narrow ty (ab_rv N0 adS v) = ab_rv N0 adS v ∧ fits ty (ab_rv N0 adS v) = true := by
  cases ty <;> cases v <;> first | exact absurd h Bool.false_ne_true | exact ⟨rfl, rfl⟩ | skip
  case boolean.int x =>
    simp only [ab_fit, Bool.or_eq_true, beq_iff_eq] at h
    rcases h with rfl | rfl
    · exact ⟨show narrow .boolean (.int 0) = .int 0 by decide, show fits .boolean (.int 0) = true by decide⟩
    · exact ⟨show narrow .boolean (.int 1) = .int 1 by decide, show fits .boolean (.int 1) = true by decide⟩
def ab_fin (ci k : Nat) : Bool := match ab_cl[ci]? with
  | some C => (C.2.1 k).2.2.2
  | none => true
def ab_cn (ci : Nat) : String := match ab_cl[ci]? with
  | some C => C.1
  | none => ""
def ab_fget (ci k : Nat) (h : ab_H) (st : List Value) : Option (List Value) := match st with
  | .ref i :: r => match h[i]? with
    | some (.inr o) => if o.1 = ci ∧ ci < 7 then (match o.2[k]? with | some v => some (v :: r) | none => none) else none
    | _ => none
  | _ => none
def ab_fput (ini : Bool) (own : String) (ci k : Nat) (h : ab_H) (st : List Value) : Option (List Value × ab_H) := match st with
  | v :: .ref i :: r => match h[i]? with
    | some (.inr o) => if o.1 = ci ∧ ci < 7 ∧ k < o.2.length ∧ ab_fit (ab_ty ci k) v = true ∧ (ab_fin ci k = false ∨ (ini = true ∧ ab_cn ci = own)) then some (r, h.set i (.inr (o.1, o.2.set k v))) else none
    | _ => none
  | _ => none
def ab_alen (h : ab_H) (st : List Value) : Option (List Value) := match st with
  | .ref i :: r => match h[i]? with
    | some (.inl a) => if a.1 < 3 then some (.int (Int32.ofNat a.2.1) :: r) else none
    | _ => none
  | _ => none
def ab_ald (t : Nat) (h : ab_H) (st : List Value) : Option (List Value) := match st with
  | .int j :: .ref i :: r => match h[i]? with
    | some (.inl (t', n, .inl f)) => if t' = t ∧ ¬ (j < 0 ∨ n ≤ j.toNatClampNeg) then some (.int (f j.toNatClampNeg) :: r) else none
    | _ => none
  | _ => none
def ab_lald (h : ab_H) (st : List Value) : Option (List Value) := match st with
  | .int j :: .ref i :: r => match h[i]? with
    | some (.inl (t', n, .inr (.inl f))) => if t' = 2 ∧ ¬ (j < 0 ∨ n ≤ j.toNatClampNeg) then some (.long (f j.toNatClampNeg) :: r) else none
    | _ => none
  | _ => none
def ab_ast (t : Nat) (h : ab_H) (st : List Value) : Option (List Value × ab_H) := match st with
  | .int x :: .int j :: .ref i :: r => match h[i]? with
    | some (.inl (t', n, .inl f)) => if t' = t ∧ ¬ (j < 0 ∨ n ≤ j.toNatClampNeg) then some (r, h.set i (.inl (t', n, .inl (upd f j.toNatClampNeg (if t = 0 then x.toInt8.toInt32 else x))))) else none
    | _ => none
  | _ => none
def ab_last (h : ab_H) (st : List Value) : Option (List Value × ab_H) := match st with
  | .long x :: .int j :: .ref i :: r => match h[i]? with
    | some (.inl (t', n, .inr (.inl f))) => if t' = 2 ∧ ¬ (j < 0 ∨ n ≤ j.toNatClampNeg) then some (r, h.set i (.inl (t', n, .inr (.inl (vp_updL f j.toNatClampNeg x))))) else none
    | _ => none
  | _ => none
def ab_dfl (ci : Nat) : List Value := match ab_cl[ci]? with
  | some C => (List.range C.2.2).map (fun k => defaultValue (ab_ty ci k))
  | none => []
def ab_nw (ci : Nat) (h : ab_H) (st : List Value) : Option (List Value × ab_H) := if ci < 7 then some (.ref h.length :: st, h ++ [.inr (ci, ab_dfl ci)]) else none
def ab_at (a : ArrayType) : Nat := match a with
  | .byte => 0
  | .int => 1
  | .long => 2
  | _ => 3
def ab_a0 (t n : Nat) : ab_C := if t = 2 then .inl (2, n, .inr (.inl (fun _ => 0))) else .inl (t, n, .inl (fun _ => 0))
def ab_nwa (a : ArrayType) (h : ab_H) (st : List Value) : Option (List Value × ab_H) := match st with
  | .int n :: r => if ab_at a < 3 ∧ ¬ n < 0 ∧ n.toNatClampNeg ≤ 1000000 then some (.ref h.length :: r, h ++ [ab_a0 (ab_at a) n.toNatClampNeg]) else none
  | _ => none
/-- steps on the heap (a, b: the pool's answer) -/
def ab_hp (ini : Bool) (own : String) (i : Instr) (a b : Nat) (h : ab_H) (st : List Value) : Option (List Value × ab_H) := match i with
  | .getfield _ => (ab_fget a b h st).map (fun q => (q, h))
  | .putfield _ => ab_fput ini own a b h st
  | .arraylength => (ab_alen h st).map (fun q => (q, h))
  | .iaload => (ab_ald 1 h st).map (fun q => (q, h))
  | .baload => (ab_ald 0 h st).map (fun q => (q, h))
  | .laload => (ab_lald h st).map (fun q => (q, h))
  | .iastore => ab_ast 1 h st
  | .bastore => ab_ast 0 h st
  | .lastore => ab_last h st
  | .new _ => ab_nw a h st
  | .newarray t => ab_nwa t h st
  | _ => none
