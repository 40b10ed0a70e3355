/-! LAYER 2: runs of the abstract machine. A heap as a function: ab_hl n F. ab_Rn: 'it runs to this end'. -/
def ab_fu (F : Nat → ab_C) (i : Nat) (c : ab_C) : Nat → ab_C := fun j => if j = i then c else F j
def ab_hl (n : Nat) (F : Nat → ab_C) : ab_H := (List.range n).map F
theorem ab_hl_len (n : Nat) (F : Nat → ab_C) : (ab_hl n F).length = n := by simp [ab_hl]
theorem ab_hl_get (n : Nat) (F : Nat → ab_C) (i : Nat) : (ab_hl n F)[i]? = if i < n then some (F i) else none := by
  unfold ab_hl
  rw [List.getElem?_map]
  by_cases h : i < n
  · rw [List.getElem?_range h, if_pos h]; rfl
  · rw [if_neg h, List.getElem?_eq_none (by simpa using h)]; rfl
theorem ab_hl_at {n : Nat} {F : Nat → ab_C} {i : Nat} {c : ab_C} (h : i < n) (e : F i = c) : (ab_hl n F)[i]? = some c := by rw [ab_hl_get, if_pos h, e]
theorem ab_hl_set (n : Nat) (F : Nat → ab_C) (i : Nat) (c : ab_C) : (ab_hl n F).set i c = ab_hl n (ab_fu F i c) := by
  apply List.ext_getElem?
  intro j
  rw [List.getElem?_set, ab_hl_get, ab_hl_get, ab_hl_len]
  unfold ab_fu
  by_cases hj : j = i
  · subst hj
    simp
  · simp [hj, Ne.symm hj]
theorem ab_hl_push (n : Nat) (F : Nat → ab_C) (c : ab_C) : ab_hl n F ++ [c] = ab_hl (n + 1) (ab_fu F n c) := by
  unfold ab_hl
  rw [List.range_succ, List.map_append]
  congr 1
  · apply List.map_congr_left
    intro i hi
    have : i < n := List.mem_range.mp hi
    unfold ab_fu
    rw [if_neg (by omega)]
  · simp [ab_fu]
/-- more fuel does no harm -/
theorem ab_go_fuel : ∀ (n d mi pc : Nat) (l : ab_L) (st : List Value) (h : ab_H) (r : (Option Value ⊕ Unit) × ab_H), ab_go n d mi pc l st h = some r → ab_go (n + 1) d mi pc l st h = some r := by
  intro n
  induction n with
  | zero => intro d mi pc l st h r e; cases e
  | succ n ih =>
    intro d mi pc l st h r e
    rw [ab_go] at e ⊢
    cases hP : ab_prog[mi]? with
    | none => simp only [hP, reduceCtorEq] at e
    | some P =>
      simp only [hP] at e ⊢
      cases hq : ab_fetch P.2 pc with
      | none => simp only [hq, reduceCtorEq] at e
      | some q =>
        simp only [hq] at e ⊢
        cases hz : ab_nx P.1 q.1 q.2.2.1 q.2.2.2 pc l st h with
        | some z =>
          simp only [hz] at e ⊢
          exact ih _ _ _ _ _ _ _ e
        | none =>
          simp only [hz] at e ⊢
          cases hv : ab_ret P.1.2.2.2.2.1 q.1 st with
          | some v => simp only [hv] at e ⊢; exact e
          | none =>
            simp only [hv] at e ⊢
            cases ht : ab_thr mi pc st with
            | true => simp only [ht, cond_true] at e ⊢; exact e
            | false =>
              simp only [ht, cond_false] at e ⊢
              cases hP2 : ab_prog[q.2.2.1]? with
              | none => simp only [hP2, reduceCtorEq] at e
              | some P2 =>
                simp only [hP2] at e ⊢
                cases hi : ab_inv q.1 q.2.2.1 P2.1.2.2.2.2.2.1 P2.1.2.1.cls h st with
                | none => simp only [hi, reduceCtorEq] at e
                | some z =>
                  simp only [hi] at e ⊢
                  cases d with
                  | zero => simp only [reduceCtorEq] at e
                  | succ d' =>
                    simp only at e ⊢
                    by_cases hl : (lg_sl z.1).length ≤ P2.1.2.2.2.1
                    · rw [if_pos hl] at e ⊢
                      cases hg : ab_go n d' q.2.2.1 0 (lv_args 0 z.1) [] h with
                      | none => simp only [hg, reduceCtorEq] at e
                      | some w =>
                        rw [ih _ _ _ _ _ _ _ hg]
                        rw [hg] at e
                        obtain ⟨o, h1⟩ := w
                        cases o with
                        | inl v => exact ih _ _ _ _ _ _ _ e
                        | inr u => exact e
                    · rw [if_neg hl] at e
                      cases e
theorem ab_go_fuelk {n d mi pc : Nat} {l : ab_L} {st : List Value} {h : ab_H} {r : (Option Value ⊕ Unit) × ab_H} (k : Nat) (e : ab_go n d mi pc l st h = some r) : ab_go (n + k) d mi pc l st h = some r := by
  induction k with
  | zero => exact e
  | succ k ih => exact ab_go_fuel _ _ _ _ _ _ _ _ ih
def ab_Rn (d mi pc : Nat) (l : ab_L) (st : List Value) (h : ab_H) (o : Option Value ⊕ Unit) (h' : ab_H) : Prop := ∃ n, ab_go n d mi pc l st h = some (o, h')
section RN
variable {d mi pc len a b : Nat} {l : ab_L} {st : List Value} {h h1 h' : ab_H} {o : Option Value ⊕ Unit} {P P2 : ab_M × List ab_I} {i : Instr}
/-- a step that stays in the method -/
theorem r_nx {z : Nat × ab_L × List Value × ab_H} (hP : ab_prog[mi]? = some P) (hf : ab_fetch P.2 pc = some (i, len, a, b)) (hn : ab_nx P.1 i a b pc l st h = some z) (K : ab_Rn d mi z.1 z.2.1 z.2.2.1 z.2.2.2 o h') : ab_Rn d mi pc l st h o h' := by
  obtain ⟨n, hg⟩ := K
  refine ⟨n + 1, ?_⟩
  rw [ab_go, hP]
  simp only [hf, hn]
  exact hg
theorem r_ret {v : Option Value} (hP : ab_prog[mi]? = some P) (hf : ab_fetch P.2 pc = some (i, len, a, b)) (hn : ab_nx P.1 i a b pc l st h = none) (hr : ab_ret P.1.2.2.2.2.1 i st = some v) : ab_Rn d mi pc l st h (.inl v) h := by
  refine ⟨1, ?_⟩
  rw [ab_go, hP]
  simp only [hf, hn, hr]
theorem r_thr (hP : ab_prog[mi]? = some P) (hf : ab_fetch P.2 pc = some (i, len, a, b)) (hn : ab_nx P.1 i a b pc l st h = none) (hr : ab_ret P.1.2.2.2.2.1 i st = none) (ht : ab_thr mi pc st = true) : ab_Rn d mi pc l st h (.inr ()) (h ++ [.inr (7, [])]) := by
  refine ⟨1, ?_⟩
  rw [ab_go, hP]
  simp only [hf, hn, hr, ht, cond_true]
theorem r_call {z : List Value × List Value} {v : Option Value} (hP : ab_prog[mi]? = some P) (hf : ab_fetch P.2 pc = some (i, len, a, b)) (hn : ab_nx P.1 i a b pc l st h = none) (hr : ab_ret P.1.2.2.2.2.1 i st = none) (ht : ab_thr mi pc st = false) (hP2 : ab_prog[a]? = some P2) (hi : ab_inv i a P2.1.2.2.2.2.2.1 P2.1.2.1.cls h st = some z) (hl : (lg_sl z.1).length ≤ P2.1.2.2.2.1)
    (hc : ab_Rn d a 0 (lv_args 0 z.1) [] h (.inl v) h1) (K : ab_Rn (d + 1) mi (pc + 3) l (v.toList ++ z.2) h1 o h') : ab_Rn (d + 1) mi pc l st h o h' := by
  obtain ⟨n1, e1⟩ := hc
  obtain ⟨n2, e2⟩ := K
  refine ⟨n1 + n2 + 1, ?_⟩
  rw [ab_go, hP]
  simp only [hf, hn, hr, ht, cond_false, hP2, hi, if_pos hl, ab_go_fuelk n2 e1]
  rw [Nat.add_comm n1 n2]
  exact ab_go_fuelk n1 e2
theorem r_callx {z : List Value × List Value} (hP : ab_prog[mi]? = some P) (hf : ab_fetch P.2 pc = some (i, len, a, b)) (hn : ab_nx P.1 i a b pc l st h = none) (hr : ab_ret P.1.2.2.2.2.1 i st = none) (ht : ab_thr mi pc st = false) (hP2 : ab_prog[a]? = some P2) (hi : ab_inv i a P2.1.2.2.2.2.2.1 P2.1.2.1.cls h st = some z) (hl : (lg_sl z.1).length ≤ P2.1.2.2.2.1) (hs : ab_sp i = false)
    (hc : ab_Rn d a 0 (lv_args 0 z.1) [] h (.inr ()) h') : ab_Rn (d + 1) mi pc l st h (.inr ()) h' := by
  obtain ⟨n1, e1⟩ := hc
  refine ⟨n1 + 1, ?_⟩
  rw [ab_go, hP]
  simp only [hf, hn, hr, ht, cond_false, hP2, hi, if_pos hl, e1, hs]
end RN
