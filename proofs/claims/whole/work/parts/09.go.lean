/-! THE ABSTRACT MACHINE, whole: natives, calls, returns, throws; ab_go n d mi pc l st h: at most n steps and d calls deep, from place pc of method mi. Its answer: (returned v, or thrown; the heap). -/
def ab_cat (r : List Value) : Nat := (r.map fun v => v.category).sum
def ab_cpy (h : ab_H) (st : List Value) : Option (List Value × ab_H) := match st with
  | .int n :: .int dp :: .ref j1 :: .int sp :: .ref j0 :: r => match h[j0]?, h[j1]? with
    | some (.inl (t0, n0, .inl f)), some (.inl (t1, n1, .inl g)) => if t0 = 1 ∧ t1 = 1 ∧ ¬ sp < 0 ∧ ¬ dp < 0 ∧ ¬ n < 0 ∧ sp.toNatClampNeg + n.toNatClampNeg ≤ n0 ∧ dp.toNatClampNeg + n.toNatClampNeg ≤ n1 ∧ ab_cat r ≤ 8 then some (r, h.set j1 (.inl (t1, n1, .inl (va_cpy f g sp.toNatClampNeg dp.toNatClampNeg n.toNatClampNeg))))
      else if t0 = 0 ∧ t1 = 0 ∧ ¬ sp < 0 ∧ ¬ dp < 0 ∧ ¬ n < 0 ∧ sp.toNatClampNeg + n.toNatClampNeg ≤ n0 ∧ dp.toNatClampNeg + n.toNatClampNeg ≤ n1 ∧ ab_cat r ≤ 8 ∧ (∀ i, i < n.toNatClampNeg → fits .byte (.int (f (sp.toNatClampNeg + i))) = true) then some (r, h.set j1 (.inl (t1, n1, .inl (va_cpy f g sp.toNatClampNeg dp.toNatClampNeg n.toNatClampNeg)))) else none
    | _, _ => none
  | _ => none
def ab_mm (f : Int32 → Int32 → Int32) (h : ab_H) (st : List Value) : Option (List Value × ab_H) := match st with
  | .int y :: .int x :: r => if ab_cat r ≤ 8 then some (.int (f x y) :: r, h) else none
  | _ => none
def ab_obj (h : ab_H) (st : List Value) : Option (List Value × ab_H) := match st with
  | .ref _ :: r => if ab_cat r ≤ 8 then some (r, h) else none
  | _ => none
def ab_nat (i : Instr) (a : Nat) (h : ab_H) (st : List Value) : Option (List Value × ab_H) := match i with
  | .invokestatic _ => if a = 997 then ab_mm (fun x y => if y < x then y else x) h st else if a = 996 then ab_mm (fun x y => if x < y then y else x) h st else if a = 999 then ab_cpy h st else none
  | .invokespecial _ => if a = 998 then ab_obj h st else none
  | _ => none
def ab_nx (M : ab_M) (i : Instr) (a b pc : Nat) (l : ab_L) (st : List Value) (h : ab_H) : Option (Nat × ab_L × List Value × ab_H) :=
  match ab_op i st with
  | some st' => some (pc + ab_len i, l, st', h)
  | none => match ab_ld i l with
    | some v => some (pc + ab_len i, l, v :: st, h)
    | none => match ab_sto M.2.2.2.1 i l st with
      | some q => some (pc + ab_len i, q.1, q.2, h)
      | none => match ab_br i pc a st with
        | some q => some (q.1, l, q.2, h)
        | none => match ab_hp (M.2.1.name == "<init>") M.2.1.cls i a b h st with
          | some q => some (pc + ab_len i, l, q.1, q.2)
          | none => match ab_con i a b st with
            | some st' => some (pc + ab_len i, l, st', h)
            | none => match ab_acmp i pc a st with
              | some q => some (q.1, l, q.2, h)
              | none => match ab_nat i a h st with
                | some q => some (pc + 3, l, q.1, q.2)
                | none => none
def ab_nar (ty : FieldType) (v : Int32) : Bool := match ty with
  | .int => true
  | .boolean => v == 0 || v == 1
  | ty => decide (narrow ty (.int v) = .int v)
def ab_isr (rt : Option FieldType) : Bool := match rt with
  | some (.object _) => true
  | some (.array _) => true
  | _ => false
def ab_ret (rt : Option FieldType) (i : Instr) (st : List Value) : Option (Option Value) := match i with
  | .return_ => match st, rt with
    | [], none => some none
    | _, _ => none
  | .ireturn => match st, rt with
    | [.int v], some ty => if ab_nar ty v = true then some (some (.int v)) else none
    | _, _ => none
  | .lreturn => match st, rt with
    | [.long v], some .long => some (some (.long v))
    | _, _ => none
  | .areturn => match st with
    | [.ref j] => if ab_isr rt = true then some (some (.ref j)) else none
    | [.retAddr j] => if ab_isr rt = true then some (some (.retAddr j)) else none
    | [.null] => if ab_isr rt = true then some (some .null) else none
    | _ => none
  | _ => none
/-- the one place that throws: Tokens.fail's 'new' (its five instructions are one step here) -/
def ab_thr (mi pc : Nat) (st : List Value) : Bool := mi == 46 && pc == 23 && decide (ab_cat st ≤ 8)
/-- a call: its arguments, and what stays on the stack -/
def ab_inv (i : Instr) (a b : Nat) (C : String) (h : ab_H) (st : List Value) : Option (List Value × List Value) := match i with
  | .invokevirtual _ => match st.drop b with
    | .ref j :: r => match h[j]? with
      | some (.inr ob) => if ab_cn ob.1 = C ∧ (st.take b).length = b ∧ ab_cat r ≤ 8 then some (.ref j :: (st.take b).reverse, r) else none
      | _ => none
    | .retAddr k :: r => if "java/lang/String" = C ∧ k < 106 ∧ (st.take b).length = b ∧ ab_cat r ≤ 8 then some (.retAddr k :: (st.take b).reverse, r) else none
    | _ => none
  | .invokestatic _ => if (st.take b).length = b ∧ ab_cat (st.drop b) ≤ 8 then some ((st.take b).reverse, st.drop b) else none
  | .invokespecial _ => match st.drop b with
    | .ref j :: r => if (st.take b).length = b ∧ ab_cat r ≤ 8 then some (.ref j :: (st.take b).reverse, r) else none
    | _ => none
  | _ => none
/-- a constructor's call: its callee doesn't throw -/
def ab_sp (i : Instr) : Bool := match i with
  | .invokespecial _ => true
  | _ => false
def ab_fetch (code : List ab_I) (pc : Nat) : Option (Instr × Nat × Nat × Nat) := match code.find? (fun q => q.1 == pc) with
  | some q => some q.2
  | none => none
def ab_go : Nat → Nat → Nat → Nat → ab_L → List Value → ab_H → Option ((Option Value ⊕ Unit) × ab_H)
  | 0, _, _, _, _, _, _ => none
  | n + 1, d, mi, pc, l, st, h => match ab_prog[mi]? with
    | none => none
    | some P => match ab_fetch P.2 pc with
      | none => none
      | some q => match ab_nx P.1 q.1 q.2.2.1 q.2.2.2 pc l st h with
        | some z => ab_go n d mi z.1 z.2.1 z.2.2.1 z.2.2.2
        | none => match ab_ret P.1.2.2.2.2.1 q.1 st with
          | some v => some (.inl v, h)
          | none => bif ab_thr mi pc st then some (.inr (), h ++ [.inr (7, [])]) else match ab_prog[q.2.2.1]? with
            | none => none
            | some P2 => match ab_inv q.1 q.2.2.1 P2.1.2.2.2.2.2.1 P2.1.2.1.cls h st with
              | none => none
              | some z => match d with
                | 0 => none
                | d' + 1 => if (lg_sl z.1).length ≤ P2.1.2.2.2.1 then (match ab_go n d' q.2.2.1 0 (lv_args 0 z.1) [] h with
                  | none => none
                  | some (.inl v, h') => ab_go n (d' + 1) mi (pc + 3) l (v.toList ++ z.2) h'
                  | some (.inr u, h') => bif ab_sp q.1 then none else some (.inr u, h')) else none
theorem ab_set_mono {h : ab_H} {i : Nat} {x y : ab_C} (e : h[i]? = some x) (hz : ab_sz1 y = ab_sz1 x) : h.length ≤ (h.set i y).length ∧ ab_sz h ≤ ab_sz (h.set i y) := by
  rw [ab_sz_set e hz]; simp
/-- the heap only grows -/
theorem ab_hp_mono {ini : Bool} {own : String} {i : Instr} {a b : Nat} {h h' : ab_H} {st st' : List Value} (e : ab_hp ini own i a b h st = some (st', h')) : h.length ≤ h'.length ∧ ab_sz h ≤ ab_sz h' := by
  cases i <;> simp only [ab_hp, reduceCtorEq] at e
  case getfield => cases hq : ab_fget a b h st <;> rw [hq] at e <;> cases e; exact ⟨Nat.le_refl _, Nat.le_refl _⟩
  case arraylength => cases hq : ab_alen h st <;> rw [hq] at e <;> cases e; exact ⟨Nat.le_refl _, Nat.le_refl _⟩
  case iaload => cases hq : ab_ald 1 h st <;> rw [hq] at e <;> cases e; exact ⟨Nat.le_refl _, Nat.le_refl _⟩
  case baload => cases hq : ab_ald 0 h st <;> rw [hq] at e <;> cases e; exact ⟨Nat.le_refl _, Nat.le_refl _⟩
  case laload => cases hq : ab_lald h st <;> rw [hq] at e <;> cases e; exact ⟨Nat.le_refl _, Nat.le_refl _⟩
  case putfield =>
    unfold ab_fput at e
    split at e
    · split at e
      · rename_i ob hob
        split at e
        · cases e
          exact ab_set_mono hob (by simp [ab_sz1])
        · cases e
      · cases e
    · cases e
  case iastore =>
    unfold ab_ast at e
    split at e
    · split at e
      · rename_i hob
        split at e
        · cases e
          exact ab_set_mono hob rfl
        · cases e
      · cases e
    · cases e
  case bastore =>
    unfold ab_ast at e
    split at e
    · split at e
      · rename_i hob
        split at e
        · cases e
          exact ab_set_mono hob rfl
        · cases e
      · cases e
    · cases e
  case lastore =>
    unfold ab_last at e
    split at e
    · split at e
      · rename_i hob
        split at e
        · cases e
          exact ab_set_mono hob rfl
        · cases e
      · cases e
    · cases e
  case new =>
    unfold ab_nw at e
    split at e
    · cases e
      rw [ab_sz_push]
      simp
    · cases e
  case newarray =>
    unfold ab_nwa at e
    split at e
    · split at e
      · cases e
        rw [ab_sz_push]
        simp
      · cases e
    · cases e
theorem ab_nat_mono {i : Instr} {a : Nat} {h h' : ab_H} {st st' : List Value} (e : ab_nat i a h st = some (st', h')) : h.length ≤ h'.length ∧ ab_sz h ≤ ab_sz h' := by
  have hmm : ∀ f, ab_mm f h st = some (st', h') → h.length ≤ h'.length ∧ ab_sz h ≤ ab_sz h' := by
    intro f e
    unfold ab_mm at e
    split at e
    · split at e
      · cases e; exact ⟨Nat.le_refl _, Nat.le_refl _⟩
      · cases e
    · cases e
  cases i <;> simp only [ab_nat, reduceCtorEq] at e
  case invokespecial =>
    split at e
    · unfold ab_obj at e
      split at e
      · split at e
        · cases e; exact ⟨Nat.le_refl _, Nat.le_refl _⟩
        · cases e
      · cases e
    · cases e
  case invokestatic =>
    split at e
    · exact hmm _ e
    · split at e
      · exact hmm _ e
      · split at e
        · unfold ab_cpy at e
          split at e
          · split at e
            · rename_i hob
              split at e
              · cases e
                exact ab_set_mono hob rfl
              · split at e
                · cases e
                  exact ab_set_mono hob rfl
                · cases e
            · cases e
          · cases e
        · cases e
theorem ab_nx_mono {M : ab_M} {i : Instr} {a b pc : Nat} {l : ab_L} {st : List Value} {h : ab_H} {z : Nat × ab_L × List Value × ab_H} (e : ab_nx M i a b pc l st h = some z) : h.length ≤ z.2.2.2.length ∧ ab_sz h ≤ ab_sz z.2.2.2 := by
  unfold ab_nx at e
  repeat' split at e
  all_goals first | (cases e; exact ⟨Nat.le_refl _, Nat.le_refl _⟩) | (cases e; done) | (cases e; rename_i hq; exact ab_hp_mono hq) | (cases e; rename_i hq; exact ab_nat_mono hq)
theorem ab_go_mono : ∀ (n d mi pc : Nat) (l : ab_L) (st : List Value) (h : ab_H) (o : Option Value ⊕ Unit) (h' : ab_H), ab_go n d mi pc l st h = some (o, h') → h.length ≤ h'.length ∧ ab_sz h ≤ ab_sz h' := by
  intro n
  induction n with
  | zero => intro d mi pc l st h o h' e; cases e
  | succ n ih =>
    intro d mi pc l st h o h' e
    unfold ab_go at e
    split at e
    · cases e
    · split at e
      · cases e
      · split at e
        · rename_i hz
          have h1 := ab_nx_mono hz
          have h2 := ih _ _ _ _ _ _ _ _ e
          exact ⟨Nat.le_trans h1.1 h2.1, Nat.le_trans h1.2 h2.2⟩
        · split at e
          · cases e; exact ⟨Nat.le_refl _, Nat.le_refl _⟩
          · cases hb : ab_thr _ _ st with
            | true =>
              rw [hb] at e
              cases e
              rw [ab_sz_push]
              simp
            | false =>
              rw [hb] at e
              simp only [cond_false] at e
              split at e
              · cases e
              · split at e
                · cases e
                · split at e
                  · cases e
                  · rename_i d'
                    split at e
                    · split at e
                      · cases e
                      · rename_i hq
                        have h1 := ih _ _ _ _ _ _ _ _ hq
                        have h2 := ih _ _ _ _ _ _ _ _ e
                        exact ⟨Nat.le_trans h1.1 h2.1, Nat.le_trans h1.2 h2.2⟩
                      · rename_i hq
                        revert e
                        cases ab_sp _ with
                        | true => intro e; cases e
                        | false =>
                          intro e
                          cases e
                          exact ih _ _ _ _ _ _ _ _ hq
                    · cases e
