/-! Locals by what they hold; constants; static calls. -/
theorem ab_get_set1 {l : ab_L} {k j : Nat} {v w : Value} (hj : j ≠ k) (e : ab_get l j = some w) (hc : w.category = 1 ∨ j + 1 ≠ k) : ab_get (ab_set1 l k v) j = some w := by
  unfold ab_get at e
  cases hf : l.find? (fun q => q.1 == j) with
  | none => rw [hf] at e; cases e
  | some z =>
    rw [hf] at e
    have h1 : z.1 = j := by simpa using List.find?_some hf
    cases e
    unfold ab_get ab_set1
    rw [List.find?_cons_of_neg (by simpa using Ne.symm hj), List.find?_filter]
    have : l.find? (fun a => decide ((!(a.1 == k) && !(a.1 + 1 == k && a.2.category == 2)) = true ∧ (a.1 == j) = true)) = some z := by
      rw [List.find?_eq_some_iff_append] at hf ⊢
      obtain ⟨h2, as, bs, h3, h4⟩ := hf
      refine ⟨?_, as, bs, h3, fun a ha => ?_⟩
      · rcases hc with hc | hc
        · simp [h1, hj, hc]
        · simp [h1, hj, hc]
      · have := h4 a ha
        simp only [Bool.not_eq_true', beq_eq_false_iff_ne] at this ⊢
        simp [this]
    simp only [this]
    rfl
theorem ab_get_set1_self (l : ab_L) (k : Nat) (v : Value) : ab_get (ab_set1 l k v) k = some v := by
  unfold ab_get ab_set1
  simp
section RL
variable {d mi pc len a b k n : Nat} {l : ab_L} {r st : List Value} {h h1 h' : ab_H} {o : Option Value ⊕ Unit} {P P2 : ab_M × List ab_I} {x : Int32}
theorem r_iload (hP : ab_prog[mi]? = some P) (hf : ab_fetch P.2 pc = some (.iload k, len, a, b)) (e : ab_get l k = some (.int x)) (K : ab_Rn d mi (pc + 2) l (.int x :: r) h o h') : ab_Rn d mi pc l r h o h' := r_ld hP hf rfl (by simp only [ab_ld, e, ab_k]; rfl) K
theorem r_iload_n {k4 : Fin 4} (hP : ab_prog[mi]? = some P) (hf : ab_fetch P.2 pc = some (.iload_n k4, len, a, b)) (e : ab_get l k4 = some (.int x)) (K : ab_Rn d mi (pc + 1) l (.int x :: r) h o h') : ab_Rn d mi pc l r h o h' := r_ld hP hf rfl (by simp only [ab_ld, e, ab_k]; rfl) K
theorem r_aload {i : Nat} (hP : ab_prog[mi]? = some P) (hf : ab_fetch P.2 pc = some (.aload k, len, a, b)) (e : ab_get l k = some (.ref i)) (K : ab_Rn d mi (pc + 2) l (.ref i :: r) h o h') : ab_Rn d mi pc l r h o h' := r_ld hP hf rfl (by simp only [ab_ld, e, ab_k]; rfl) K
theorem r_aload_n {k4 : Fin 4} {i : Nat} (hP : ab_prog[mi]? = some P) (hf : ab_fetch P.2 pc = some (.aload_n k4, len, a, b)) (e : ab_get l k4 = some (.ref i)) (K : ab_Rn d mi (pc + 1) l (.ref i :: r) h o h') : ab_Rn d mi pc l r h o h' := r_ld hP hf rfl (by simp only [ab_ld, e, ab_k]; rfl) K
theorem r_lload {y : Int64} (hP : ab_prog[mi]? = some P) (hf : ab_fetch P.2 pc = some (.lload k, len, a, b)) (e : ab_get l k = some (.long y)) (K : ab_Rn d mi (pc + 2) l (.long y :: r) h o h') : ab_Rn d mi pc l r h o h' := r_ld hP hf rfl (by simp only [ab_ld, e, ab_k]; rfl) K
theorem r_lload_n {k4 : Fin 4} {y : Int64} (hP : ab_prog[mi]? = some P) (hf : ab_fetch P.2 pc = some (.lload_n k4, len, a, b)) (e : ab_get l k4 = some (.long y)) (K : ab_Rn d mi (pc + 1) l (.long y :: r) h o h') : ab_Rn d mi pc l r h o h' := r_ld hP hf rfl (by simp only [ab_ld, e, ab_k]; rfl) K
theorem r_istore (hP : ab_prog[mi]? = some P) (hf : ab_fetch P.2 pc = some (.istore k, len, a, b)) (hk : k < P.1.2.2.2.1) (K : ∀ l' : ab_L, (∀ (j : Nat) (w : Value), j ≠ k → ab_get l j = some w → w.category = 1 ∨ j + 1 ≠ k → ab_get l' j = some w) → ab_get l' k = some (.int x) → ab_Rn d mi (pc + 2) l' r h o h') : ab_Rn d mi pc l (.int x :: r) h o h' := r_sto (l' := ab_set1 l k (.int x)) (st' := r) hP hf rfl rfl (by simp only [ab_sto, ab_st1, ab_k, if_pos hk]; rfl) (K _ (fun _ _ hj e hc => ab_get_set1 hj e hc) (ab_get_set1_self _ _ _))
theorem r_istore_n {k4 : Fin 4} (hP : ab_prog[mi]? = some P) (hf : ab_fetch P.2 pc = some (.istore_n k4, len, a, b)) (hk : (k4 : Nat) < P.1.2.2.2.1) (K : ∀ l' : ab_L, (∀ (j : Nat) (w : Value), j ≠ (k4 : Nat) → ab_get l j = some w → w.category = 1 ∨ j + 1 ≠ (k4 : Nat) → ab_get l' j = some w) → ab_get l' (k4 : Nat) = some (.int x) → ab_Rn d mi (pc + 1) l' r h o h') : ab_Rn d mi pc l (.int x :: r) h o h' := r_sto (l' := ab_set1 l (k4 : Nat) (.int x)) (st' := r) hP hf rfl rfl (by simp only [ab_sto, ab_st1, ab_k, if_pos hk]; rfl) (K _ (fun _ _ hj e hc => ab_get_set1 hj e hc) (ab_get_set1_self _ _ _))
theorem r_astore {i : Nat} (hP : ab_prog[mi]? = some P) (hf : ab_fetch P.2 pc = some (.astore k, len, a, b)) (hk : k < P.1.2.2.2.1) (K : ∀ l' : ab_L, (∀ (j : Nat) (w : Value), j ≠ k → ab_get l j = some w → w.category = 1 ∨ j + 1 ≠ k → ab_get l' j = some w) → ab_get l' k = some (.ref i) → ab_Rn d mi (pc + 2) l' r h o h') : ab_Rn d mi pc l (.ref i :: r) h o h' := r_sto (l' := ab_set1 l k (.ref i)) (st' := r) hP hf rfl rfl (by simp only [ab_sto, ab_st1, ab_k, if_pos hk]; rfl) (K _ (fun _ _ hj e hc => ab_get_set1 hj e hc) (ab_get_set1_self _ _ _))
theorem r_astore_n {k4 : Fin 4} {i : Nat} (hP : ab_prog[mi]? = some P) (hf : ab_fetch P.2 pc = some (.astore_n k4, len, a, b)) (hk : (k4 : Nat) < P.1.2.2.2.1) (K : ∀ l' : ab_L, (∀ (j : Nat) (w : Value), j ≠ (k4 : Nat) → ab_get l j = some w → w.category = 1 ∨ j + 1 ≠ (k4 : Nat) → ab_get l' j = some w) → ab_get l' (k4 : Nat) = some (.ref i) → ab_Rn d mi (pc + 1) l' r h o h') : ab_Rn d mi pc l (.ref i :: r) h o h' := r_sto (l' := ab_set1 l (k4 : Nat) (.ref i)) (st' := r) hP hf rfl rfl (by simp only [ab_sto, ab_st1, ab_k, if_pos hk]; rfl) (K _ (fun _ _ hj e hc => ab_get_set1 hj e hc) (ab_get_set1_self _ _ _))
theorem r_iinc {c : Int} {v : Int32} (hP : ab_prog[mi]? = some P) (hf : ab_fetch P.2 pc = some (.iinc k c, len, a, b)) (e : ab_get l k = some (.int x)) (hk : k < P.1.2.2.2.1) (hv : x + Int32.ofInt c = v) (K : ∀ l' : ab_L, (∀ (j : Nat) (w : Value), j ≠ k → ab_get l j = some w → w.category = 1 ∨ j + 1 ≠ k → ab_get l' j = some w) → ab_get l' k = some (.int v) → ab_Rn d mi (pc + 3) l' st h o h') : ab_Rn d mi pc l st h o h' := r_sto (l' := ab_set1 l k (.int v)) (st' := st) hP hf rfl rfl (by simp only [ab_sto, e, if_pos hk, hv]) (K _ (fun _ _ hj e hc => ab_get_set1 hj e hc) (ab_get_set1_self _ _ _))
theorem r_ldcI {i : Nat} {v : Int32} (hP : ab_prog[mi]? = some P) (hf : ab_fetch P.2 pc = some (.ldc i, len, a, 0)) (hv : Int32.ofNat a = v) (K : ab_Rn d mi (pc + 2) l (.int v :: r) h o h') : ab_Rn d mi pc l r h o h' := r_nx (z := (pc + 2, l, .int v :: r, h)) hP hf (by subst hv; rfl) K
theorem r_ldcwI {i : Nat} {v : Int32} (hP : ab_prog[mi]? = some P) (hf : ab_fetch P.2 pc = some (.ldc_w i, len, a, 0)) (hv : Int32.ofNat a = v) (K : ab_Rn d mi (pc + 3) l (.int v :: r) h o h') : ab_Rn d mi pc l r h o h' := r_nx (z := (pc + 3, l, .int v :: r, h)) hP hf (by subst hv; rfl) K
theorem r_ldcL {i : Nat} {v : Int64} (hP : ab_prog[mi]? = some P) (hf : ab_fetch P.2 pc = some (.ldc2_w i, len, a, b)) (hv : Int64.ofNat a = v) (K : ab_Rn d mi (pc + 3) l (.long v :: r) h o h') : ab_Rn d mi pc l r h o h' := r_nx (z := (pc + 3, l, .long v :: r, h)) hP hf (by subst hv; rfl) K
theorem r_cs {idx : Nat} {v : Option Value} (hP : ab_prog[mi]? = some P) (hf : ab_fetch P.2 pc = some (.invokestatic idx, len, a, b)) (hna : ab_nat (.invokestatic idx) a h st = none) (ht : ab_thr mi pc st = false) (hP2 : ab_prog[a]? = some P2) (hlen : (st.take P2.1.2.2.2.2.2.1).length = P2.1.2.2.2.2.2.1) (hcat : ab_cat (st.drop P2.1.2.2.2.2.2.1) ≤ 8) (hl : (lg_sl (st.take P2.1.2.2.2.2.2.1).reverse).length ≤ P2.1.2.2.2.1)
    (hc : ab_Rn d a 0 (lv_args 0 (st.take P2.1.2.2.2.2.2.1).reverse) [] h (.inl v) h1) (K : ab_Rn (d + 1) mi (pc + 3) l (v.toList ++ st.drop P2.1.2.2.2.2.2.1) h1 o h') : ab_Rn (d + 1) mi pc l st h o h' := by
  refine r_call (z := ((st.take P2.1.2.2.2.2.2.1).reverse, st.drop P2.1.2.2.2.2.2.1)) hP hf ?_ rfl ht hP2 ?_ hl hc K
  · simp only [ab_nx, ab_op, ab_ld, ab_sto, ab_br, ab_hp, ab_con, ab_acmp, hna]
  · simp only [ab_inv]
    rw [if_pos ⟨hlen, hcat⟩]
end RL
