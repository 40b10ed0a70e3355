/-! THE LAW's RUN. -/
theorem ab_la_fuel {n d : Nat} {h : ab_H} {x o : Nat} {z : Int32 × ab_H} (e : ab_la n d h x o = some z) : ab_la (n + 1) d h x o = some z := by
  unfold ab_la at e ⊢
  cases hg : ab_go n d 15 0 [(0, .ref x)] [] h with
  | none => rw [hg] at e; cases e
  | some w => rw [hg] at e; rw [ab_go_fuel _ _ _ _ _ _ _ _ hg]; exact e
theorem ab_lc2_fuel {n d : Nat} {i : Instr} {a : Nat} {h : ab_H} {st : List Value} {z : Option Value × List Value × ab_H} (e : ab_lc2 n d i a h st = some z) : ab_lc2 (n + 1) d i a h st = some z := by
  unfold ab_lc2 at e ⊢
  cases hP : ab_prog[a]? with
  | none => simp only [hP, reduceCtorEq] at e
  | some P2 =>
    simp only [hP] at e ⊢
    cases hi : ab_inv i a P2.1.2.2.2.2.2.1 P2.1.2.1.cls h st with
    | none => simp only [hi, reduceCtorEq] at e
    | some w =>
      simp only [hi] at e ⊢
      by_cases hl : (lg_sl w.1).length ≤ P2.1.2.2.2.1
      · rw [if_pos hl] at e ⊢
        cases hg : ab_go n d a 0 (lv_args 0 w.1) [] h with
        | none => rw [hg] at e; cases e
        | some q => rw [hg] at e; rw [ab_go_fuel _ _ _ _ _ _ _ _ hg]; exact e
      · rw [if_neg hl] at e; cases e
theorem ab_lcs_fuel {n d : Nat} {h : ab_H} {st : List Value} {z : Option Value × List Value × ab_H} (e : ab_lcs n d h st = some z) : ab_lcs (n + 1) d h st = some z := by
  unfold ab_lcs at e ⊢
  split at e
  · rename_i o x r
    split at e
    · rename_i ob hob
      by_cases hc : ob.1 = 5 ∧ ab_cat r ≤ 8
      · rw [if_pos hc] at e ⊢
        cases hg : ab_la n d h x o with
        | none => rw [hg] at e; cases e
        | some q => rw [hg] at e; rw [ab_la_fuel hg]; exact e
      · rw [if_neg hc] at e; cases e
    · cases e
  · cases e
theorem ab_lcl_fuel {n d : Nat} {i : Instr} {a : Nat} {h : ab_H} {st : List Value} {z : Option Value × List Value × ab_H} (e : ab_lcl n d i a h st = some z) : ab_lcl (n + 1) d i a h st = some z := by
  cases i
  case invokestatic => exact ab_lcs_fuel e
  case invokevirtual => exact ab_lc2_fuel e
  case invokespecial => exact ab_lc2_fuel e
  all_goals cases e
theorem ab_law_fuel {xs : Nat → Int32} {L : Nat} : ∀ (n d pc : Nat) (l : ab_L) (st : List Value) (h : ab_H) (r : Int32 × ab_H), ab_law xs L n d pc l st h = some r → ab_law xs L (n + 1) d pc l st h = some r := by
  intro n
  induction n with
  | zero => intro d pc l st h r e; cases e
  | succ n ih =>
    intro d pc l st h r e
    rw [ab_law] at e ⊢
    cases hq : ab_fetch ab_lc pc with
    | none => simp only [hq, reduceCtorEq] at e
    | some q =>
      simp only [hq] at e ⊢
      cases hz : ab_ln xs L q.1 q.2.2.1 pc l st h with
      | some z => simp only [hz] at e ⊢; exact ih _ _ _ _ _ _ e
      | none =>
        simp only [hz] at e ⊢
        cases hv : ab_lret q.1 st with
        | some v => simp only [hv] at e ⊢; exact e
        | none =>
          simp only [hv] at e ⊢
          cases hc : ab_lcl n d q.1 q.2.2.1 h st with
          | none => simp only [hc, reduceCtorEq] at e
          | some z =>
            rw [ab_lcl_fuel hc]
            simp only [hc] at e ⊢
            exact ih _ _ _ _ _ _ e
theorem ab_law_fuelk {xs : Nat → Int32} {L n d pc : Nat} {l : ab_L} {st : List Value} {h : ab_H} {r : Int32 × ab_H} (k : Nat) (e : ab_law xs L n d pc l st h = some r) : ab_law xs L (n + k) d pc l st h = some r := by
  induction k with
  | zero => exact e
  | succ k ih => exact ab_law_fuel _ _ _ _ _ _ _ ih
def ab_Rl (xs : Nat → Int32) (L d pc : Nat) (l : ab_L) (st : List Value) (h : ab_H) (v : Int32) (h' : ab_H) : Prop := ∃ n, ab_law xs L n d pc l st h = some (v, h')
section LR
variable {xs : Nat → Int32} {L d pc len a b : Nat} {l : ab_L} {r st : List Value} {h h1 h' : ab_H} {v : Int32} {i : Instr} {P2 : ab_M × List ab_I}
theorem l_nx {z : Nat × ab_L × List Value × ab_H} (hf : ab_fetch ab_lc pc = some (i, len, a, b)) (hn : ab_ln xs L i a pc l st h = some z) (K : ab_Rl xs L d z.1 z.2.1 z.2.2.1 z.2.2.2 v h') : ab_Rl xs L d pc l st h v h' := by
  obtain ⟨n, hg⟩ := K
  refine ⟨n + 1, ?_⟩
  rw [ab_law]
  simp only [hf, hn]
  exact hg
theorem l_ret (hf : ab_fetch ab_lc pc = some (i, len, a, b)) (hn : ab_ln xs L i a pc l st h = none) (hr : ab_lret i st = some v) : ab_Rl xs L d pc l st h v h := by
  refine ⟨1, ?_⟩
  rw [ab_law]
  simp only [hf, hn, hr]
theorem l_op {st' : List Value} {p' : Nat} (hf : ab_fetch ab_lc pc = some (i, len, a, b)) (h0 : ab_op i st = some st') (hp : pc + ab_len i = p') (K : ab_Rl xs L d p' l st' h v h') : ab_Rl xs L d pc l st h v h' := by
  subst hp
  exact l_nx (z := (pc + ab_len i, l, st', h)) hf (by simp only [ab_ln, h0]) K
theorem l_ld {w : Value} {p' k : Nat} (hf : ab_fetch ab_lc pc = some (i, len, a, b)) (h0 : ab_op i st = none) (e : ab_get l k = some w) (h1 : ab_get l k = some w → ab_ld i l = some w) (hp : pc + ab_len i = p') (K : ab_Rl xs L d p' l (w :: st) h v h') : ab_Rl xs L d pc l st h v h' := by
  subst hp
  exact l_nx (z := (pc + ab_len i, l, w :: st, h)) hf (by simp only [ab_ln, h0, h1 e]) K
theorem ld_a {k4 : Fin 4} {w : Value} (hk : ab_k 2 (some w) = some w) (e : ab_get l k4 = some w) : ab_ld (.aload_n k4) l = some w := by simp only [ab_ld, e, hk]
theorem ld_i {k : Nat} {x : Int32} (e : ab_get l k = some (.int x)) : ab_ld (.iload k) l = some (.int x) := by simp only [ab_ld, e]; rfl
theorem l_ist {k : Nat} {x : Int32} (hf : ab_fetch ab_lc pc = some (.istore k, len, a, b)) (hk : k < 7) (K : ∀ l' : ab_L, (∀ (j : Nat) (w : Value), j ≠ k → ab_get l j = some w → w.category = 1 ∨ j + 1 ≠ k → ab_get l' j = some w) → ab_get l' k = some (.int x) → ab_Rl xs L d (pc + 2) l' r h v h') : ab_Rl xs L d pc l (.int x :: r) h v h' :=
  l_nx (z := (pc + 2, ab_set1 l k (.int x), r, h)) hf (by simp only [ab_ln, ab_op, ab_ld, ab_sto, ab_st1, ab_k, if_pos hk]; rfl) (K _ (fun _ _ hj e hc => ab_get_set1 hj e hc) (ab_get_set1_self _ _ _))
theorem l_ast {k4 : Fin 4} {x : Nat} (hf : ab_fetch ab_lc pc = some (.astore_n k4, len, a, b)) (K : ∀ l' : ab_L, (∀ (j : Nat) (w : Value), j ≠ (k4 : Nat) → ab_get l j = some w → w.category = 1 ∨ j + 1 ≠ (k4 : Nat) → ab_get l' j = some w) → ab_get l' (k4 : Nat) = some (.ref x) → ab_Rl xs L d (pc + 1) l' r h v h') : ab_Rl xs L d pc l (.ref x :: r) h v h' := by
  have hk : (k4 : Nat) < 7 := by omega
  exact l_nx (z := (pc + 1, ab_set1 l k4 (.ref x), r, h)) hf (by simp only [ab_ln, ab_op, ab_ld, ab_sto, ab_st1, ab_k, if_pos hk]; rfl) (K _ (fun _ _ hj e hc => ab_get_set1 hj e hc) (ab_get_set1_self _ _ _))
theorem l_inc {k : Nat} {c : Int} {x y : Int32} (hf : ab_fetch ab_lc pc = some (.iinc k c, len, a, b)) (e : ab_get l k = some (.int x)) (hk : k < 7) (hy : x + Int32.ofInt c = y) (K : ∀ l' : ab_L, (∀ (j : Nat) (w : Value), j ≠ k → ab_get l j = some w → w.category = 1 ∨ j + 1 ≠ k → ab_get l' j = some w) → ab_get l' k = some (.int y) → ab_Rl xs L d (pc + 3) l' st h v h') : ab_Rl xs L d pc l st h v h' :=
  l_nx (z := (pc + 3, ab_set1 l k (.int y), st, h)) hf (by simp only [ab_ln, ab_op, ab_ld, ab_sto, e, if_pos hk, hy, ab_len]) (K _ (fun _ _ hj e hc => ab_get_set1 hj e hc) (ab_get_set1_self _ _ _))
theorem l_br {t : Nat} {st' : List Value} (hf : ab_fetch ab_lc pc = some (i, len, a, b)) (h0 : ab_op i st = none) (h1 : ab_ld i l = none) (h2 : ab_sto 7 i l st = none) (hv : ab_br i pc a st = some (t, st')) (K : ab_Rl xs L d t l st' h v h') : ab_Rl xs L d pc l st h v h' := l_nx (z := (t, l, st', h)) hf (by simp only [ab_ln, h0, h1, h2, hv]) K
theorem l_len (hf : ab_fetch ab_lc pc = some (.arraylength, len, a, b)) (K : ab_Rl xs L d (pc + 1) l (.int (Int32.ofNat L) :: r) h v h') : ab_Rl xs L d pc l (.retAddr 600 :: r) h v h' := l_nx (z := (pc + 1, l, .int (Int32.ofNat L) :: r, h)) hf rfl K
theorem l_cell {j : Int32} (hf : ab_fetch ab_lc pc = some (.iaload, len, a, b)) (hj : ib j L) (K : ab_Rl xs L d (pc + 1) l (.int (xs j.toNatClampNeg) :: r) h v h') : ab_Rl xs L d pc l (.int j :: .retAddr 600 :: r) h v h' := by
  refine l_nx (z := (pc + 1, l, .int (xs j.toNatClampNeg) :: r, h)) hf ?_ K
  simp only [ab_ln, ab_op, ab_ld, ab_sto, ab_br, ab_lx]
  rw [if_pos ⟨trivial, hj⟩]
  rfl
theorem l_lald {i0 m n : Nat} {j : Int32} {F : Nat → ab_C} {f : Nat → Int64} (hf : ab_fetch ab_lc pc = some (.laload, len, a, b)) (hn : i0 < n) (hF : F i0 = .inl (2, m, .inr (.inl f))) (hj : ib j m) (K : ab_Rl xs L d (pc + 1) l (.long (f j.toNatClampNeg) :: r) (ab_hl n F) v h') : ab_Rl xs L d pc l (.int j :: .ref i0 :: r) (ab_hl n F) v h' := by
  refine l_nx (z := (pc + 1, l, .long (f j.toNatClampNeg) :: r, ab_hl n F)) hf ?_ K
  simp only [ab_ln, ab_op, ab_ld, ab_sto, ab_br, ab_lx, ab_lald, ab_hl_at hn hF]
  rw [if_pos ⟨trivial, hj⟩]
  rfl
theorem l_new {ci idx n : Nat} {F : Nat → ab_C} (hf : ab_fetch ab_lc pc = some (.new idx, len, ci, b)) (hc : ci < 7) (K : ab_Rl xs L d (pc + 3) l (.ref n :: r) (ab_hl (n + 1) (ab_fu F n (.inr (ci, ab_dfl ci)))) v h') : ab_Rl xs L d pc l r (ab_hl n F) v h' := by
  refine l_nx (z := (pc + 3, l, .ref n :: r, ab_hl (n + 1) (ab_fu F n (.inr (ci, ab_dfl ci))))) hf ?_ K
  simp only [ab_ln, ab_op, ab_ld, ab_sto, ab_br, ab_lx, ab_lnw, ab_nw, if_pos hc, ab_len, ab_hl_len, ab_hl_push]
theorem l_newa {t : ArrayType} {x : Int32} {n : Nat} {F : Nat → ab_C} (hf : ab_fetch ab_lc pc = some (.newarray t, len, a, b)) (hc : ab_at t < 3 ∧ ¬ x < 0 ∧ x.toNatClampNeg ≤ 1000000) (K : ab_Rl xs L d (pc + 2) l (.ref n :: r) (ab_hl (n + 1) (ab_fu F n (ab_a0 (ab_at t) x.toNatClampNeg))) v h') : ab_Rl xs L d pc l (.int x :: r) (ab_hl n F) v h' := by
  refine l_nx (z := (pc + 2, l, .ref n :: r, ab_hl (n + 1) (ab_fu F n (ab_a0 (ab_at t) x.toNatClampNeg)))) hf ?_ K
  simp only [ab_ln, ab_op, ab_ld, ab_sto, ab_br, ab_lx, ab_lnw, ab_nwa, if_pos hc, ab_len, ab_hl_len, ab_hl_push]
theorem l_hp {h2 : ab_H} (e : h = h2) (K : ab_Rl xs L d pc l st h2 v h') : ab_Rl xs L d pc l st h v h' := by rw [e]; exact K
theorem l_call {w : Option Value} {z : List Value × List Value} (hf : ab_fetch ab_lc pc = some (i, len, a, b)) (hn : ab_ln xs L i a pc l st h = none) (hr : ab_lret i st = none) (hk : ∀ n, ab_lcl n d i a h st = ab_lc2 n d i a h st) (hP2 : ab_prog[a]? = some P2) (hi : ab_inv i a P2.1.2.2.2.2.2.1 P2.1.2.1.cls h st = some z) (hl : (lg_sl z.1).length ≤ P2.1.2.2.2.1) (hc : ab_Rn d a 0 (lv_args 0 z.1) [] h (.inl w) h1) (K : ab_Rl xs L d (pc + 3) l (w.toList ++ z.2) h1 v h') : ab_Rl xs L d pc l st h v h' := by
  obtain ⟨n1, e1⟩ := hc
  obtain ⟨n2, e2⟩ := K
  refine ⟨n1 + n2 + 1, ?_⟩
  rw [ab_law]
  have e3 : ab_lcl (n1 + n2) d i a h st = some (w, z.2, h1) := by
    rw [hk]
    unfold ab_lc2
    simp only [hP2, hi, if_pos hl, ab_go_fuelk n2 e1]
  simp only [hf, hn, hr, e3]
  rw [Nat.add_comm n1 n2]
  exact ab_law_fuelk n1 e2
theorem l_cv {j ci idx n : Nat} {F : Nat → ab_C} {fs : List Value} {w : Option Value} {w2 : List Value} (hf : ab_fetch ab_lc pc = some (.invokevirtual idx, len, a, b)) (hP2 : ab_prog[a]? = some P2) (hst : st.drop P2.1.2.2.2.2.2.1 = .ref j :: r) (hlen : (st.take P2.1.2.2.2.2.2.1).length = P2.1.2.2.2.2.2.1) (hcat : Nat.ble (ab_cat r) 8 = true) (hj : j < n) (hF : F j = .inr (ci, fs)) (hcn : ab_cn ci = P2.1.2.1.cls) (hl : Nat.ble (lg_sl (.ref j :: (st.take P2.1.2.2.2.2.2.1).reverse)).length P2.1.2.2.2.1 = true)
    (hc : ab_Rn d a 0 (lv_args 0 (.ref j :: (st.take P2.1.2.2.2.2.2.1).reverse)) [] (ab_hl n F) (.inl w) h1) (hw : w.toList ++ r = w2) (K : ab_Rl xs L d (pc + 3) l w2 h1 v h') : ab_Rl xs L d pc l st (ab_hl n F) v h' := by
  subst hw
  refine l_call (z := (.ref j :: (st.take P2.1.2.2.2.2.2.1).reverse, r)) hf rfl rfl (fun _ => rfl) hP2 ?_ (Nat.le_of_ble_eq_true hl) hc K
  simp only [ab_inv, hst, ab_hl_at hj hF]
  rw [if_pos ⟨hcn, hlen, Nat.le_of_ble_eq_true hcat⟩]
theorem l_ci {j idx : Nat} {w2 : List Value} (hf : ab_fetch ab_lc pc = some (.invokespecial idx, len, a, b)) (hP2 : ab_prog[a]? = some P2) (hst : st.drop P2.1.2.2.2.2.2.1 = .ref j :: r) (hlen : (st.take P2.1.2.2.2.2.2.1).length = P2.1.2.2.2.2.2.1) (hcat : Nat.ble (ab_cat r) 8 = true) (hl : Nat.ble (lg_sl (.ref j :: (st.take P2.1.2.2.2.2.2.1).reverse)).length P2.1.2.2.2.1 = true)
    (hc : ab_Rn d a 0 (lv_args 0 (.ref j :: (st.take P2.1.2.2.2.2.2.1).reverse)) [] h (.inl none) h1) (hw : r = w2) (K : ab_Rl xs L d (pc + 3) l w2 h1 v h') : ab_Rl xs L d pc l st h v h' := by
  subst hw
  refine l_call (z := (.ref j :: (st.take P2.1.2.2.2.2.2.1).reverse, r)) hf rfl rfl (fun _ => rfl) hP2 ?_ (Nat.le_of_ble_eq_true hl) hc K
  simp only [ab_inv, hst]
  rw [if_pos ⟨hlen, Nat.le_of_ble_eq_true hcat⟩]
/-- the helper: assemble, caught -/
theorem l_as {idx n x o : Nat} {F : Nat → ab_C} {fs : List Value} {k : Int32} (hf : ab_fetch ab_lc pc = some (.invokestatic idx, len, a, b)) (hj : x < n) (hF : F x = .inr (5, fs)) (hcat : Nat.ble (ab_cat r) 8 = true) (hc : ∃ n2, ab_la n2 d (ab_hl n F) x o = some (k, h1)) (K : ab_Rl xs L d (pc + 3) l (.int k :: r) h1 v h') : ab_Rl xs L d pc l (.ref o :: .ref x :: r) (ab_hl n F) v h' := by
  obtain ⟨n1, e1⟩ := hc
  obtain ⟨n2, e2⟩ := K
  have e1k : ∀ q, ab_la (n1 + q) d (ab_hl n F) x o = some (k, h1) := by
    intro q
    induction q with
    | zero => exact e1
    | succ q ih => exact ab_la_fuel ih
  refine ⟨n1 + n2 + 1, ?_⟩
  rw [ab_law]
  have e3 : ab_lcl (n1 + n2) d (.invokestatic idx) a (ab_hl n F) (.ref o :: .ref x :: r) = some (some (.int k), r, h1) := by
    show ab_lcs (n1 + n2) d (ab_hl n F) (.ref o :: .ref x :: r) = _
    simp only [ab_lcs, ab_hl_at hj hF]
    rw [if_pos ⟨trivial, Nat.le_of_ble_eq_true hcat⟩]
    simp only [e1k]
  have hn : ab_ln xs L (.invokestatic idx) a pc l (.ref o :: .ref x :: r) (ab_hl n F) = none := rfl
  have hr : ab_lret (.invokestatic idx) (.ref o :: .ref x :: r) = none := rfl
  simp only [hf, hn, hr, e3]
  rw [Nat.add_comm n1 n2]
  exact ab_law_fuelk n1 e2
end LR
theorem mm_ge {m : mS} {Z : Nat → ab_C} {i : Nat} (h : 41 ≤ i) : mm_F m Z i = Z i := by
  unfold mm_F
  split
  all_goals first | rfl | omega
theorem cm_swap (c : cS) (m : mS) (Z : Nat → ab_C) : cc_F c (mm_F m Z) = mm_F m (cc_F c Z) := by
  funext i
  by_cases hi : i < 42
  · have hi : i = 0 ∨ i = 1 ∨ i = 2 ∨ i = 3 ∨ i = 4 ∨ i = 5 ∨ i = 6 ∨ i = 7 ∨ i = 8 ∨ i = 9 ∨ i = 10 ∨ i = 11 ∨ i = 12 ∨ i = 13 ∨ i = 14 ∨ i = 15 ∨ i = 16 ∨ i = 17 ∨ i = 18 ∨ i = 19 ∨ i = 20 ∨ i = 21 ∨ i = 22 ∨ i = 23 ∨ i = 24 ∨ i = 25 ∨ i = 26 ∨ i = 27 ∨ i = 28 ∨ i = 29 ∨ i = 30 ∨ i = 31 ∨ i = 32 ∨ i = 33 ∨ i = 34 ∨ i = 35 ∨ i = 36 ∨ i = 37 ∨ i = 38 ∨ i = 39 ∨ i = 40 ∨ i = 41 := by omega
    rcases hi with rfl | rfl | rfl | rfl | rfl | rfl | rfl | rfl | rfl | rfl | rfl | rfl | rfl | rfl | rfl | rfl | rfl | rfl | rfl | rfl | rfl | rfl | rfl | rfl | rfl | rfl | rfl | rfl | rfl | rfl | rfl | rfl | rfl | rfl | rfl | rfl | rfl | rfl | rfl | rfl | rfl | rfl <;> rfl
  · have hc : cfr i = true := by
      unfold cfr
      split
      all_goals first | omega | skip
      simp; omega
    rw [mm_ge (by omega), cc_arr hc, cc_arr hc]
def wd (c : cS) (m : mS) (w : Nat → Int64) : ab_H := ch c (mm_F m (zo w))
theorem wd_m (c : cS) (m : mS) (w : Nat → Int64) : wd c m w = ab_hl (42 + c.2.2.2) (mm_F m (cc_F c (zo w))) := by
  unfold wd ch
  rw [cm_swap]
theorem wd_set (c : cS) (m : mS) (w : Nat → Int64) (x : Int64) : ab_last (wd c m w) [.long x, .int 0, .ref 41] = some ([], wd c m (vp_updL w 0 x)) := by
  have e : (wd c m w)[41]? = some (.inl (2, 1, .inr (.inl w))) := by
    rw [wd_m]
    exact ab_hl_at (by omega) rfl
  simp only [ab_last, e]
  rw [if_pos ⟨trivial, by decide⟩]
  have e2 : (wd c m w).set 41 (.inl (2, 1, .inr (.inl (vp_updL w (0 : Int32).toNatClampNeg x)))) = wd c m (vp_updL w 0 x) := by
    unfold wd ch
    rw [ab_hl_set]
    congr 1
    funext i
    unfold ab_fu
    by_cases h : i = 41
    · subst h; rfl
    · rw [if_neg h]
      have hz : zo w i = zo (vp_updL w 0 x) i := by
        unfold zo
        have : (i == 41) = false := by simpa using h
        rw [this]; rfl
      rw [cm_swap, cm_swap]
      unfold mm_F
      split
      all_goals first | rfl | skip
      unfold cc_F
      split
      all_goals first | rfl | skip
      rw [hz]
  rw [e2]
/-- how many slots the class's arrays hold -/
def csz (c : cS) : Nat := ((List.range (42 + c.2.2.2)).map (fun i => bif cfr i then (if (c.2.2.1 i).1 = 9 then 6 else (c.2.2.1 i).2.1) else 0)).sum
/-- WHAT THE LAW NEEDS of the two pure programs -/
def GoalP : Prop := ∃ CM : Nat → cS → mS → Prop, CM 0 c0 m0 ∧ (∀ k c m, CM k c m → k ≤ 512 → c.2.2.2 ≤ 60000 ∧ csz c ≤ 8000000) ∧ ∀ k c m, CM k c m → k < 512 →
  (∀ a b x y z : Int32, ∃ r c' m', f6 c a b x y z = some (r, c') ∧ f110 m a b x y z = some (r, m') ∧ CM (k + 1) c' m') ∧
  (∀ a : Int32, ∃ m', f111 m a = some ((f9 c a).1, m') ∧ CM (k + 1) (f9 c a).2 m') ∧
  (∃ m', f112 m = some (f10 c, m') ∧ CM (k + 1) c m') ∧
  ((∃ v c' m', f15 c = some (.inl (v, c')) ∧ f113 m = some (v, m') ∧ f109 m' = 0 ∧ CM (k + 1) c' m') ∨ (∃ v c' m', f15 c = some (.inr c') ∧ f113 m = some (v, m') ∧ f109 m' = 1 ∧ CM (k + 1) c' m')) ∧
  (∀ a : Int32, ∃ m', f174 m a = some (f11 c a, m') ∧ CM (k + 1) c m') ∧
  (∀ a : Int32, ∃ r m', f12 c a = some r ∧ f175 m a = some (r, m') ∧ CM (k + 1) c m') ∧
  (∀ a : Int32, ∃ r m', f14 c a = some r ∧ f176 m a = some (r, m') ∧ CM (k + 1) c m') ∧
  CM (k + 1) c m
