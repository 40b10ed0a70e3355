/-! Steps on a heap that is a function. -/
section RH
variable {d mi pc len a b n : Nat} {l : ab_L} {r st : List Value} {F : Nat → ab_C} {h1 h' : ab_H} {o : Option Value ⊕ Unit} {P P2 : ab_M × List ab_I}
theorem r_getf {i ci k idx : Nat} {fs : List Value} {v : Value} (hP : ab_prog[mi]? = some P) (hf : ab_fetch P.2 pc = some (.getfield idx, len, ci, k)) (hn : i < n) (hF : F i = .inr (ci, fs)) (hc : ci < 7) (hv : fs[k]? = some v) (K : ab_Rn d mi (pc + 3) l (v :: r) (ab_hl n F) o h') : ab_Rn d mi pc l (.ref i :: r) (ab_hl n F) o h' := by
  refine r_nx (z := (pc + 3, l, v :: r, ab_hl n F)) hP hf ?_ K
  simp only [ab_nx, ab_op, ab_ld, ab_sto, ab_br, ab_hp, ab_fget, ab_hl_at hn hF, hv, ab_len]
  rw [if_pos ⟨trivial, hc⟩]
  rfl
theorem r_putf {i ci k idx : Nat} {fs : List Value} {v : Value} (hP : ab_prog[mi]? = some P) (hf : ab_fetch P.2 pc = some (.putfield idx, len, ci, k)) (hn : i < n) (hF : F i = .inr (ci, fs)) (hc : ci < 7) (hk : k < fs.length) (hv : ab_fit (ab_ty ci k) v = true) (hfin : ab_fin ci k = false ∨ ((P.1.2.1.name == "<init>") = true ∧ ab_cn ci = P.1.2.1.cls)) (K : ab_Rn d mi (pc + 3) l r (ab_hl n (ab_fu F i (.inr (ci, fs.set k v)))) o h') : ab_Rn d mi pc l (v :: .ref i :: r) (ab_hl n F) o h' := by
  refine r_nx (z := (pc + 3, l, r, ab_hl n (ab_fu F i (.inr (ci, fs.set k v))))) hP hf ?_ K
  simp only [ab_nx, ab_op, ab_ld, ab_sto, ab_br, ab_hp, ab_fput, ab_hl_at hn hF, ab_len]
  rw [if_pos ⟨trivial, hc, hk, hv, hfin⟩]
  simp only [ab_hl_set]
theorem r_alen {i t m : Nat} {x : (Nat → Int32) ⊕ (Nat → Int64) ⊕ (Nat → UInt32) ⊕ (Nat → UInt64) ⊕ (Nat → Option Nat)} (hP : ab_prog[mi]? = some P) (hf : ab_fetch P.2 pc = some (.arraylength, len, a, b)) (hn : i < n) (hF : F i = .inl (t, m, x)) (hc : t < 3) (K : ab_Rn d mi (pc + 1) l (.int (Int32.ofNat m) :: r) (ab_hl n F) o h') : ab_Rn d mi pc l (.ref i :: r) (ab_hl n F) o h' := by
  refine r_nx (z := (pc + 1, l, .int (Int32.ofNat m) :: r, ab_hl n F)) hP hf ?_ K
  simp only [ab_nx, ab_op, ab_ld, ab_sto, ab_br, ab_hp, ab_alen, ab_hl_at hn hF, ab_len]
  rw [if_pos hc]
  rfl
theorem r_iald {i m : Nat} {j : Int32} {f : Nat → Int32} (hP : ab_prog[mi]? = some P) (hf : ab_fetch P.2 pc = some (.iaload, len, a, b)) (hn : i < n) (hF : F i = .inl (1, m, .inl f)) (hj : ¬ (j < 0 ∨ m ≤ j.toNatClampNeg)) (K : ab_Rn d mi (pc + 1) l (.int (f j.toNatClampNeg) :: r) (ab_hl n F) o h') : ab_Rn d mi pc l (.int j :: .ref i :: r) (ab_hl n F) o h' := by
  refine r_nx (z := (pc + 1, l, .int (f j.toNatClampNeg) :: r, ab_hl n F)) hP hf ?_ K
  simp only [ab_nx, ab_op, ab_ld, ab_sto, ab_br, ab_hp, ab_ald, ab_hl_at hn hF, ab_len]
  rw [if_pos ⟨trivial, hj⟩]
  rfl
theorem r_bald {i m : Nat} {j : Int32} {f : Nat → Int32} (hP : ab_prog[mi]? = some P) (hf : ab_fetch P.2 pc = some (.baload, len, a, b)) (hn : i < n) (hF : F i = .inl (0, m, .inl f)) (hj : ¬ (j < 0 ∨ m ≤ j.toNatClampNeg)) (K : ab_Rn d mi (pc + 1) l (.int (f j.toNatClampNeg) :: r) (ab_hl n F) o h') : ab_Rn d mi pc l (.int j :: .ref i :: r) (ab_hl n F) o h' := by
  refine r_nx (z := (pc + 1, l, .int (f j.toNatClampNeg) :: r, ab_hl n F)) hP hf ?_ K
  simp only [ab_nx, ab_op, ab_ld, ab_sto, ab_br, ab_hp, ab_ald, ab_hl_at hn hF, ab_len]
  rw [if_pos ⟨trivial, hj⟩]
  rfl
theorem r_lald {i m : Nat} {j : Int32} {f : Nat → Int64} (hP : ab_prog[mi]? = some P) (hf : ab_fetch P.2 pc = some (.laload, len, a, b)) (hn : i < n) (hF : F i = .inl (2, m, .inr (.inl f))) (hj : ¬ (j < 0 ∨ m ≤ j.toNatClampNeg)) (K : ab_Rn d mi (pc + 1) l (.long (f j.toNatClampNeg) :: r) (ab_hl n F) o h') : ab_Rn d mi pc l (.int j :: .ref i :: r) (ab_hl n F) o h' := by
  refine r_nx (z := (pc + 1, l, .long (f j.toNatClampNeg) :: r, ab_hl n F)) hP hf ?_ K
  simp only [ab_nx, ab_op, ab_ld, ab_sto, ab_br, ab_hp, ab_lald, ab_hl_at hn hF, ab_len]
  rw [if_pos ⟨trivial, hj⟩]
  rfl
theorem r_iast {i m : Nat} {j x : Int32} {f : Nat → Int32} (hP : ab_prog[mi]? = some P) (hf : ab_fetch P.2 pc = some (.iastore, len, a, b)) (hn : i < n) (hF : F i = .inl (1, m, .inl f)) (hj : ¬ (j < 0 ∨ m ≤ j.toNatClampNeg)) (K : ab_Rn d mi (pc + 1) l r (ab_hl n (ab_fu F i (.inl (1, m, .inl (upd f j.toNatClampNeg x))))) o h') : ab_Rn d mi pc l (.int x :: .int j :: .ref i :: r) (ab_hl n F) o h' := by
  refine r_nx (z := (pc + 1, l, r, ab_hl n (ab_fu F i (.inl (1, m, .inl (upd f j.toNatClampNeg x)))))) hP hf ?_ K
  simp only [ab_nx, ab_op, ab_ld, ab_sto, ab_br, ab_hp, ab_ast, ab_hl_at hn hF, ab_len]
  rw [if_pos ⟨trivial, hj⟩]
  simp only [ab_hl_set]
  rfl
theorem r_bast {i m : Nat} {j x : Int32} {f : Nat → Int32} (hP : ab_prog[mi]? = some P) (hf : ab_fetch P.2 pc = some (.bastore, len, a, b)) (hn : i < n) (hF : F i = .inl (0, m, .inl f)) (hj : ¬ (j < 0 ∨ m ≤ j.toNatClampNeg)) (K : ab_Rn d mi (pc + 1) l r (ab_hl n (ab_fu F i (.inl (0, m, .inl (upd f j.toNatClampNeg x.toInt8.toInt32))))) o h') : ab_Rn d mi pc l (.int x :: .int j :: .ref i :: r) (ab_hl n F) o h' := by
  refine r_nx (z := (pc + 1, l, r, ab_hl n (ab_fu F i (.inl (0, m, .inl (upd f j.toNatClampNeg x.toInt8.toInt32)))))) hP hf ?_ K
  simp only [ab_nx, ab_op, ab_ld, ab_sto, ab_br, ab_hp, ab_ast, ab_hl_at hn hF, ab_len]
  rw [if_pos ⟨trivial, hj⟩]
  simp only [ab_hl_set]
  rfl
theorem r_last {i m : Nat} {j : Int32} {x : Int64} {f : Nat → Int64} (hP : ab_prog[mi]? = some P) (hf : ab_fetch P.2 pc = some (.lastore, len, a, b)) (hn : i < n) (hF : F i = .inl (2, m, .inr (.inl f))) (hj : ¬ (j < 0 ∨ m ≤ j.toNatClampNeg)) (K : ab_Rn d mi (pc + 1) l r (ab_hl n (ab_fu F i (.inl (2, m, .inr (.inl (vp_updL f j.toNatClampNeg x)))))) o h') : ab_Rn d mi pc l (.long x :: .int j :: .ref i :: r) (ab_hl n F) o h' := by
  refine r_nx (z := (pc + 1, l, r, ab_hl n (ab_fu F i (.inl (2, m, .inr (.inl (vp_updL f j.toNatClampNeg x))))))) hP hf ?_ K
  simp only [ab_nx, ab_op, ab_ld, ab_sto, ab_br, ab_hp, ab_last, ab_hl_at hn hF, ab_len]
  rw [if_pos ⟨trivial, hj⟩]
  simp only [ab_hl_set]
theorem r_new {ci idx : Nat} (hP : ab_prog[mi]? = some P) (hf : ab_fetch P.2 pc = some (.new idx, len, ci, b)) (hc : ci < 7) (K : ab_Rn d mi (pc + 3) l (.ref n :: r) (ab_hl (n + 1) (ab_fu F n (.inr (ci, ab_dfl ci)))) o h') : ab_Rn d mi pc l r (ab_hl n F) o h' := by
  refine r_nx (z := (pc + 3, l, .ref n :: r, ab_hl (n + 1) (ab_fu F n (.inr (ci, ab_dfl ci))))) hP hf ?_ K
  simp only [ab_nx, ab_op, ab_ld, ab_sto, ab_br, ab_hp, ab_nw, if_pos hc, ab_len, ab_hl_len, ab_hl_push]
theorem r_newa {t : ArrayType} {x : Int32} (hP : ab_prog[mi]? = some P) (hf : ab_fetch P.2 pc = some (.newarray t, len, a, b)) (hc : ab_at t < 3 ∧ ¬ x < 0 ∧ x.toNatClampNeg ≤ 1000000) (K : ab_Rn d mi (pc + 2) l (.ref n :: r) (ab_hl (n + 1) (ab_fu F n (ab_a0 (ab_at t) x.toNatClampNeg))) o h') : ab_Rn d mi pc l (.int x :: r) (ab_hl n F) o h' := by
  refine r_nx (z := (pc + 2, l, .ref n :: r, ab_hl (n + 1) (ab_fu F n (ab_a0 (ab_at t) x.toNatClampNeg)))) hP hf ?_ K
  simp only [ab_nx, ab_op, ab_ld, ab_sto, ab_br, ab_hp, ab_nwa, if_pos hc, ab_len, ab_hl_len, ab_hl_push]
/-- a virtual call on an object of the heap -/
theorem r_cv {j ci idx : Nat} {fs : List Value} {v : Option Value} (hP : ab_prog[mi]? = some P) (hf : ab_fetch P.2 pc = some (.invokevirtual idx, len, a, b)) (ht : ab_thr mi pc st = false) (hP2 : ab_prog[a]? = some P2) (hst : st.drop P2.1.2.2.2.2.2.1 = .ref j :: r) (hlen : (st.take P2.1.2.2.2.2.2.1).length = P2.1.2.2.2.2.2.1) (hcat : ab_cat r ≤ 8) (hj : j < n) (hF : F j = .inr (ci, fs)) (hcn : ab_cn ci = P2.1.2.1.cls) (hl : (lg_sl (.ref j :: (st.take P2.1.2.2.2.2.2.1).reverse)).length ≤ P2.1.2.2.2.1)
    (hc : ab_Rn d a 0 (lv_args 0 (.ref j :: (st.take P2.1.2.2.2.2.2.1).reverse)) [] (ab_hl n F) (.inl v) h1) (K : ab_Rn (d + 1) mi (pc + 3) l (v.toList ++ r) h1 o h') : ab_Rn (d + 1) mi pc l st (ab_hl n F) o h' := by
  refine r_call (z := (.ref j :: (st.take P2.1.2.2.2.2.2.1).reverse, r)) hP hf rfl rfl ht hP2 ?_ hl hc K
  simp only [ab_inv, hst, ab_hl_at hj hF]
  rw [if_pos ⟨hcn, hlen, hcat⟩]
theorem r_cvx {j ci idx : Nat} {fs : List Value} (hP : ab_prog[mi]? = some P) (hf : ab_fetch P.2 pc = some (.invokevirtual idx, len, a, b)) (ht : ab_thr mi pc st = false) (hP2 : ab_prog[a]? = some P2) (hst : st.drop P2.1.2.2.2.2.2.1 = .ref j :: r) (hlen : (st.take P2.1.2.2.2.2.2.1).length = P2.1.2.2.2.2.2.1) (hcat : ab_cat r ≤ 8) (hj : j < n) (hF : F j = .inr (ci, fs)) (hcn : ab_cn ci = P2.1.2.1.cls) (hl : (lg_sl (.ref j :: (st.take P2.1.2.2.2.2.2.1).reverse)).length ≤ P2.1.2.2.2.1)
    (hc : ab_Rn d a 0 (lv_args 0 (.ref j :: (st.take P2.1.2.2.2.2.2.1).reverse)) [] (ab_hl n F) (.inr ()) h') : ab_Rn (d + 1) mi pc l st (ab_hl n F) (.inr ()) h' := by
  refine r_callx (z := (.ref j :: (st.take P2.1.2.2.2.2.2.1).reverse, r)) hP hf rfl rfl ht hP2 ?_ hl rfl hc
  simp only [ab_inv, hst, ab_hl_at hj hF]
  rw [if_pos ⟨hcn, hlen, hcat⟩]
end RH
