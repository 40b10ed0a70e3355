/-! THE CONSTRUCTORS, run from their heaps. -/
theorem getD_out {α : Type} {q : List α} {i : Nat} {x : α} (h : q.length ≤ i) : q.getD i x = x := by
  rw [List.getD_eq_getElem?_getD, List.getElem?_eq_none h]; rfl
section CI
variable {d mi pc len a b n : Nat} {l : ab_L} {r st : List Value} {h h1 h' : ab_H} {o : Option Value ⊕ Unit} {P P2 : ab_M × List ab_I} {F : Nat → ab_C}
theorem r_hp {h2 : ab_H} (e : h = h2) (K : ab_Rn d mi pc l st h2 o h') : ab_Rn d mi pc l st h o h' := by rw [e]; exact K
theorem r_retV9 (hP : ab_prog[mi]? = some P) (hf : ab_fetch P.2 pc = some (.return_, len, a, b)) (hr : P.1.2.2.2.2.1 = none) (e : h = h') : ab_Rn d mi pc l [] h (.inl none) h' := by rw [← e]; exact r_retV hP hf hr
theorem r_obj {idx i : Nat} (hP : ab_prog[mi]? = some P) (hf : ab_fetch P.2 pc = some (.invokespecial idx, len, 998, b)) (hcat : Nat.ble (ab_cat r) 8 = true) (K : ab_Rn d mi (pc + 3) l r h o h') : ab_Rn d mi pc l (.ref i :: r) h o h' := by
  refine r_nx (z := (pc + 3, l, r, h)) hP hf ?_ K
  simp only [ab_nx, ab_op, ab_ld, ab_sto, ab_br, ab_hp, ab_con, ab_acmp, ab_nat, ab_obj]
  rw [if_pos trivial, if_pos (Nat.le_of_ble_eq_true hcat)]
theorem r_ci {idx i : Nat} {w : List Value} (hP : ab_prog[mi]? = some P) (hf : ab_fetch P.2 pc = some (.invokespecial idx, len, a, b)) (hna : ab_nat (.invokespecial idx) a h st = none) (ht : ab_thr mi pc st = false) (hP2 : ab_prog[a]? = some P2) (hst : st.drop P2.1.2.2.2.2.2.1 = .ref i :: r) (hlen : (st.take P2.1.2.2.2.2.2.1).length = P2.1.2.2.2.2.2.1) (hcat : Nat.ble (ab_cat r) 8 = true) (hl : Nat.ble (lg_sl (.ref i :: (st.take P2.1.2.2.2.2.2.1).reverse)).length P2.1.2.2.2.1 = true)
    (hc : ab_Rn d a 0 (lv_args 0 (.ref i :: (st.take P2.1.2.2.2.2.2.1).reverse)) [] h (.inl none) h1) (hw : r = w) (K : ab_Rn (d + 1) mi (pc + 3) l w h1 o h') : ab_Rn (d + 1) mi pc l st h o h' := by
  subst hw
  refine r_call (z := (.ref i :: (st.take P2.1.2.2.2.2.2.1).reverse, r)) hP hf ?_ rfl ht hP2 ?_ (Nat.le_of_ble_eq_true hl) hc K
  · simp only [ab_nx, ab_op, ab_ld, ab_sto, ab_br, ab_hp, ab_con, ab_acmp, hna]
  · simp only [ab_inv, hst]
    rw [if_pos ⟨hlen, Nat.le_of_ble_eq_true hcat⟩]
theorem r_putC {i ci k idx : Nat} {fs : List Value} {v : Value} (hP : ab_prog[mi]? = some P) (hf : ab_fetch P.2 pc = some (.putfield idx, len, ci, k)) (hn : Nat.blt i n = true) (hF : F i = .inr (ci, fs)) (hc : Nat.blt ci 7 = true) (hk : Nat.blt k fs.length = true) (hv : ab_fit (ab_ty ci k) v = true) (hi : (P.1.2.1.name == "<init>") = true) (hcn : ab_cn ci = P.1.2.1.cls) (K : ab_Rn d mi (pc + 3) l r (ab_hl n (ab_fu F i (.inr (ci, fs.set k v)))) o h') : ab_Rn d mi pc l (v :: .ref i :: r) (ab_hl n F) o h' := by
  simp at hn hc hk
  exact r_putf hP hf hn hF hc hk hv (Or.inr ⟨hi, hcn⟩) K
theorem r_lastC {i m : Nat} {j : Int32} {x : Int64} {f : Nat → Int64} (hP : ab_prog[mi]? = some P) (hf : ab_fetch P.2 pc = some (.lastore, len, a, b)) (hn : Nat.blt i n = true) (hF : F i = .inl (2, m, .inr (.inl f))) (hj : ib j m) (K : ab_Rn d mi (pc + 1) l r (ab_hl n (ab_fu F i (.inl (2, m, .inr (.inl (vp_updL f j.toNatClampNeg x)))))) o h') : ab_Rn d mi pc l (.long x :: .int j :: .ref i :: r) (ab_hl n F) o h' := by
  simp at hn
  exact r_last hP hf hn hF hj K
theorem r_iastC {i m : Nat} {j x : Int32} {f : Nat → Int32} (hP : ab_prog[mi]? = some P) (hf : ab_fetch P.2 pc = some (.iastore, len, a, b)) (hn : Nat.blt i n = true) (hF : F i = .inl (1, m, .inl f)) (hj : ib j m) (K : ab_Rn d mi (pc + 1) l r (ab_hl n (ab_fu F i (.inl (1, m, .inl (upd f j.toNatClampNeg x))))) o h') : ab_Rn d mi pc l (.int x :: .int j :: .ref i :: r) (ab_hl n F) o h' := by
  simp at hn
  exact r_iast hP hf hn hF hj K
end CI
theorem p0 : ab_prog[0]? = some (ab_m0, ab_c0) := rfl
theorem k0_0 : ab_fetch ab_c0 0 = some (.aload_n 0, 1, 0, 0) := rfl
theorem k0_1 : ab_fetch ab_c0 1 = some (.invokespecial 1, 3, 998, 0) := rfl
theorem k0_4 : ab_fetch ab_c0 4 = some (.aload_n 0, 1, 0, 0) := rfl
theorem k0_5 : ab_fetch ab_c0 5 = some (.sipush 256, 3, 0, 0) := rfl
theorem k0_8 : ab_fetch ab_c0 8 = some (.newarray .byte, 2, 0, 0) := rfl
theorem k0_10 : ab_fetch ab_c0 10 = some (.putfield 7, 3, 5, 0) := rfl
theorem k0_13 : ab_fetch ab_c0 13 = some (.new 13, 3, 3, 0) := rfl
theorem k0_16 : ab_fetch ab_c0 16 = some (.dup, 1, 0, 0) := rfl
theorem k0_17 : ab_fetch ab_c0 17 = some (.invokespecial 15, 3, 1, 0) := rfl
theorem k0_20 : ab_fetch ab_c0 20 = some (.astore_n 1, 1, 0, 0) := rfl
theorem k0_21 : ab_fetch ab_c0 21 = some (.new 16, 3, 4, 0) := rfl
theorem k0_24 : ab_fetch ab_c0 24 = some (.dup, 1, 0, 0) := rfl
theorem k0_25 : ab_fetch ab_c0 25 = some (.invokespecial 18, 3, 2, 0) := rfl
theorem k0_28 : ab_fetch ab_c0 28 = some (.astore_n 2, 1, 0, 0) := rfl
theorem k0_29 : ab_fetch ab_c0 29 = some (.aload_n 0, 1, 0, 0) := rfl
theorem k0_30 : ab_fetch ab_c0 30 = some (.aload_n 2, 1, 0, 0) := rfl
theorem k0_31 : ab_fetch ab_c0 31 = some (.putfield 19, 3, 5, 2) := rfl
theorem k0_34 : ab_fetch ab_c0 34 = some (.aload_n 0, 1, 0, 0) := rfl
theorem k0_35 : ab_fetch ab_c0 35 = some (.new 23, 3, 0, 0) := rfl
theorem k0_38 : ab_fetch ab_c0 38 = some (.dup, 1, 0, 0) := rfl
theorem k0_39 : ab_fetch ab_c0 39 = some (.aload_n 2, 1, 0, 0) := rfl
theorem k0_40 : ab_fetch ab_c0 40 = some (.aload_n 1, 1, 0, 0) := rfl
theorem k0_41 : ab_fetch ab_c0 41 = some (.new 25, 3, 1, 0) := rfl
theorem k0_44 : ab_fetch ab_c0 44 = some (.dup, 1, 0, 0) := rfl
theorem k0_45 : ab_fetch ab_c0 45 = some (.aload_n 2, 1, 0, 0) := rfl
theorem k0_46 : ab_fetch ab_c0 46 = some (.aload_n 1, 1, 0, 0) := rfl
theorem k0_47 : ab_fetch ab_c0 47 = some (.invokespecial 27, 3, 3, 2) := rfl
theorem k0_50 : ab_fetch ab_c0 50 = some (.invokespecial 30, 3, 4, 3) := rfl
theorem k0_53 : ab_fetch ab_c0 53 = some (.putfield 33, 3, 5, 3) := rfl
theorem k0_56 : ab_fetch ab_c0 56 = some (.return_, 1, 0, 0) := rfl

theorem p1 : ab_prog[1]? = some (ab_m1, ab_c1) := rfl
theorem k1_0 : ab_fetch ab_c1 0 = some (.aload_n 0, 1, 0, 0) := rfl
theorem k1_1 : ab_fetch ab_c1 1 = some (.invokespecial 3, 3, 998, 0) := rfl
theorem k1_4 : ab_fetch ab_c1 4 = some (.aload_n 0, 1, 0, 0) := rfl
theorem k1_5 : ab_fetch ab_c1 5 = some (.iconst 0, 1, 0, 0) := rfl
theorem k1_6 : ab_fetch ab_c1 6 = some (.newarray .byte, 2, 0, 0) := rfl
theorem k1_8 : ab_fetch ab_c1 8 = some (.putfield 9, 3, 3, 1) := rfl
theorem k1_11 : ab_fetch ab_c1 11 = some (.aload_n 0, 1, 0, 0) := rfl
theorem k1_12 : ab_fetch ab_c1 12 = some (.sipush 256, 3, 0, 0) := rfl
theorem k1_15 : ab_fetch ab_c1 15 = some (.newarray .int, 2, 0, 0) := rfl
theorem k1_17 : ab_fetch ab_c1 17 = some (.putfield 15, 3, 3, 2) := rfl
theorem k1_20 : ab_fetch ab_c1 20 = some (.aload_n 0, 1, 0, 0) := rfl
theorem k1_21 : ab_fetch ab_c1 21 = some (.bipush 16, 2, 0, 0) := rfl
theorem k1_23 : ab_fetch ab_c1 23 = some (.newarray .int, 2, 0, 0) := rfl
theorem k1_25 : ab_fetch ab_c1 25 = some (.putfield 19, 3, 3, 3) := rfl
theorem k1_28 : ab_fetch ab_c1 28 = some (.aload_n 0, 1, 0, 0) := rfl
theorem k1_29 : ab_fetch ab_c1 29 = some (.bipush 16, 2, 0, 0) := rfl
theorem k1_31 : ab_fetch ab_c1 31 = some (.newarray .int, 2, 0, 0) := rfl
theorem k1_33 : ab_fetch ab_c1 33 = some (.putfield 22, 3, 3, 4) := rfl
theorem k1_36 : ab_fetch ab_c1 36 = some (.aload_n 0, 1, 0, 0) := rfl
theorem k1_37 : ab_fetch ab_c1 37 = some (.bipush 16, 2, 0, 0) := rfl
theorem k1_39 : ab_fetch ab_c1 39 = some (.newarray .int, 2, 0, 0) := rfl
theorem k1_41 : ab_fetch ab_c1 41 = some (.putfield 25, 3, 3, 5) := rfl
theorem k1_44 : ab_fetch ab_c1 44 = some (.aload_n 0, 1, 0, 0) := rfl
theorem k1_45 : ab_fetch ab_c1 45 = some (.bipush 16, 2, 0, 0) := rfl
theorem k1_47 : ab_fetch ab_c1 47 = some (.newarray .int, 2, 0, 0) := rfl
theorem k1_49 : ab_fetch ab_c1 49 = some (.putfield 28, 3, 3, 6) := rfl
theorem k1_52 : ab_fetch ab_c1 52 = some (.aload_n 0, 1, 0, 0) := rfl
theorem k1_53 : ab_fetch ab_c1 53 = some (.bipush 16, 2, 0, 0) := rfl
theorem k1_55 : ab_fetch ab_c1 55 = some (.newarray .int, 2, 0, 0) := rfl
theorem k1_57 : ab_fetch ab_c1 57 = some (.putfield 31, 3, 3, 7) := rfl
theorem k1_60 : ab_fetch ab_c1 60 = some (.aload_n 0, 1, 0, 0) := rfl
theorem k1_61 : ab_fetch ab_c1 61 = some (.bipush 16, 2, 0, 0) := rfl
theorem k1_63 : ab_fetch ab_c1 63 = some (.newarray .int, 2, 0, 0) := rfl
theorem k1_65 : ab_fetch ab_c1 65 = some (.putfield 34, 3, 3, 8) := rfl
theorem k1_68 : ab_fetch ab_c1 68 = some (.return_, 1, 0, 0) := rfl

theorem p2 : ab_prog[2]? = some (ab_m2, ab_c2) := rfl
theorem k2_0 : ab_fetch ab_c2 0 = some (.aload_n 0, 1, 0, 0) := rfl
theorem k2_1 : ab_fetch ab_c2 1 = some (.invokespecial 3, 3, 998, 0) := rfl
theorem k2_4 : ab_fetch ab_c2 4 = some (.aload_n 0, 1, 0, 0) := rfl
theorem k2_5 : ab_fetch ab_c2 5 = some (.iconst 0, 1, 0, 0) := rfl
theorem k2_6 : ab_fetch ab_c2 6 = some (.newarray .byte, 2, 0, 0) := rfl
theorem k2_8 : ab_fetch ab_c2 8 = some (.putfield 9, 3, 4, 7) := rfl
theorem k2_11 : ab_fetch ab_c2 11 = some (.aload_n 0, 1, 0, 0) := rfl
theorem k2_12 : ab_fetch ab_c2 12 = some (.bipush 32, 2, 0, 0) := rfl
theorem k2_14 : ab_fetch ab_c2 14 = some (.newarray .int, 2, 0, 0) := rfl
theorem k2_16 : ab_fetch ab_c2 16 = some (.putfield 15, 3, 4, 11) := rfl
theorem k2_19 : ab_fetch ab_c2 19 = some (.aload_n 0, 1, 0, 0) := rfl
theorem k2_20 : ab_fetch ab_c2 20 = some (.bipush 32, 2, 0, 0) := rfl
theorem k2_22 : ab_fetch ab_c2 22 = some (.newarray .int, 2, 0, 0) := rfl
theorem k2_24 : ab_fetch ab_c2 24 = some (.putfield 19, 3, 4, 12) := rfl
theorem k2_27 : ab_fetch ab_c2 27 = some (.aload_n 0, 1, 0, 0) := rfl
theorem k2_28 : ab_fetch ab_c2 28 = some (.bipush 32, 2, 0, 0) := rfl
theorem k2_30 : ab_fetch ab_c2 30 = some (.newarray .int, 2, 0, 0) := rfl
theorem k2_32 : ab_fetch ab_c2 32 = some (.putfield 22, 3, 4, 13) := rfl
theorem k2_35 : ab_fetch ab_c2 35 = some (.return_, 1, 0, 0) := rfl

theorem p3 : ab_prog[3]? = some (ab_m3, ab_c3) := rfl
theorem k3_0 : ab_fetch ab_c3 0 = some (.aload_n 0, 1, 0, 0) := rfl
theorem k3_1 : ab_fetch ab_c3 1 = some (.invokespecial 3, 3, 998, 0) := rfl
theorem k3_4 : ab_fetch ab_c3 4 = some (.aload_n 0, 1, 0, 0) := rfl
theorem k3_5 : ab_fetch ab_c3 5 = some (.aload_n 1, 1, 0, 0) := rfl
theorem k3_6 : ab_fetch ab_c3 6 = some (.putfield 9, 3, 1, 4) := rfl
theorem k3_9 : ab_fetch ab_c3 9 = some (.aload_n 0, 1, 0, 0) := rfl
theorem k3_10 : ab_fetch ab_c3 10 = some (.aload_n 2, 1, 0, 0) := rfl
theorem k3_11 : ab_fetch ab_c3 11 = some (.putfield 15, 3, 1, 5) := rfl
theorem k3_14 : ab_fetch ab_c3 14 = some (.return_, 1, 0, 0) := rfl

theorem p4 : ab_prog[4]? = some (ab_m4, ab_c4) := rfl
theorem k4_0 : ab_fetch ab_c4 0 = some (.aload_n 0, 1, 0, 0) := rfl
theorem k4_1 : ab_fetch ab_c4 1 = some (.invokespecial 3, 3, 998, 0) := rfl
theorem k4_4 : ab_fetch ab_c4 4 = some (.aload_n 0, 1, 0, 0) := rfl
theorem k4_5 : ab_fetch ab_c4 5 = some (.new 9, 3, 2, 0) := rfl
theorem k4_8 : ab_fetch ab_c4 8 = some (.dup, 1, 0, 0) := rfl
theorem k4_9 : ab_fetch ab_c4 9 = some (.invokespecial 11, 3, 5, 0) := rfl
theorem k4_12 : ab_fetch ab_c4 12 = some (.putfield 12, 3, 0, 0) := rfl
theorem k4_15 : ab_fetch ab_c4 15 = some (.aload_n 0, 1, 0, 0) := rfl
theorem k4_16 : ab_fetch ab_c4 16 = some (.new 9, 3, 2, 0) := rfl
theorem k4_19 : ab_fetch ab_c4 19 = some (.dup, 1, 0, 0) := rfl
theorem k4_20 : ab_fetch ab_c4 20 = some (.invokespecial 11, 3, 5, 0) := rfl
theorem k4_23 : ab_fetch ab_c4 23 = some (.putfield 18, 3, 0, 1) := rfl
theorem k4_26 : ab_fetch ab_c4 26 = some (.aload_n 0, 1, 0, 0) := rfl
theorem k4_27 : ab_fetch ab_c4 27 = some (.aload_n 1, 1, 0, 0) := rfl
theorem k4_28 : ab_fetch ab_c4 28 = some (.putfield 21, 3, 0, 2) := rfl
theorem k4_31 : ab_fetch ab_c4 31 = some (.aload_n 0, 1, 0, 0) := rfl
theorem k4_32 : ab_fetch ab_c4 32 = some (.aload_n 2, 1, 0, 0) := rfl
theorem k4_33 : ab_fetch ab_c4 33 = some (.putfield 25, 3, 0, 3) := rfl
theorem k4_36 : ab_fetch ab_c4 36 = some (.aload_n 0, 1, 0, 0) := rfl
theorem k4_37 : ab_fetch ab_c4 37 = some (.aload_n 3, 1, 0, 0) := rfl
theorem k4_38 : ab_fetch ab_c4 38 = some (.putfield 29, 3, 0, 4) := rfl
theorem k4_41 : ab_fetch ab_c4 41 = some (.return_, 1, 0, 0) := rfl

theorem p5 : ab_prog[5]? = some (ab_m5, ab_c5) := rfl
theorem k5_0 : ab_fetch ab_c5 0 = some (.aload_n 0, 1, 0, 0) := rfl
theorem k5_1 : ab_fetch ab_c5 1 = some (.invokespecial 3, 3, 998, 0) := rfl
theorem k5_4 : ab_fetch ab_c5 4 = some (.aload_n 0, 1, 0, 0) := rfl
theorem k5_5 : ab_fetch ab_c5 5 = some (.iconst 0, 1, 0, 0) := rfl
theorem k5_6 : ab_fetch ab_c5 6 = some (.newarray .byte, 2, 0, 0) := rfl
theorem k5_8 : ab_fetch ab_c5 8 = some (.putfield 9, 3, 2, 4) := rfl
theorem k5_11 : ab_fetch ab_c5 11 = some (.return_, 1, 0, 0) := rfl

def ci_0 : Nat → ab_C := fun i => match i with
  | 0 => .inr (5, [.null, .int 0, .null, .null])
  | _ => .inr (7, [])
def ci_1 : Nat → ab_C := fun i => match i with
  | 0 => .inr (5, [.ref 1, .int 0, .null, .null])
  | 1 => .inl (0, 256, .inl (fun _ => 0))
  | 2 => .inr (3, [.int 0, .null, .null, .null, .null, .null, .null, .null, .null])
  | _ => .inr (7, [])
def ci_2 : Nat → ab_C := fun i => match i with
  | 0 => .inr (5, [.ref 1, .int 0, .null, .null])
  | 1 => .inl (0, 256, .inl (fun _ => 0))
  | 2 => .inr (3, [.int 0, .ref 3, .ref 4, .ref 5, .ref 6, .ref 7, .ref 8, .ref 9, .ref 10])
  | 3 => .inl (0, 0, .inl (fun _ => 0))
  | 4 => .inl (1, 256, .inl (fun _ => 0))
  | 5 => .inl (1, 16, .inl (fun _ => 0))
  | 6 => .inl (1, 16, .inl (fun _ => 0))
  | 7 => .inl (1, 16, .inl (fun _ => 0))
  | 8 => .inl (1, 16, .inl (fun _ => 0))
  | 9 => .inl (1, 16, .inl (fun _ => 0))
  | 10 => .inl (1, 16, .inl (fun _ => 0))
  | _ => .inr (7, [])
theorem i1_3 {d : Nat} : ab_Rn d 1 0 (lv_args 0 [.ref 2]) [] (ab_hl 3 ci_1) (.inl none) (ab_hl 11 ci_2) := by
  obtain ⟨l, hl⟩ : ∃ l, l = (lv_args 0 [.ref 2]) := ⟨_, rfl⟩
  rw [← hl]
  have h0 : ab_get l 0 = some (.ref 2) := by rw [hl]; rfl
  refine r_aload_n (pc := 0) p1 k1_0 (i := 2) h0 ?_
  refine r_obj (pc := 1) p1 k1_1 rfl ?_
  refine r_aload_n (pc := 4) p1 k1_4 (i := 2) h0 ?_
  refine r_iconst (pc := 5) p1 k1_5 (v := (0 : Int32)) rfl ?_
  refine r_newa (pc := 6) p1 k1_6 (by decide) ?_
  refine r_putC (pc := 8) p1 k1_8 rfl rfl rfl rfl rfl rfl rfl ?_
  refine r_aload_n (pc := 11) p1 k1_11 (i := 2) h0 ?_
  refine r_sipush (pc := 12) p1 k1_12 (v := (256 : Int32)) rfl ?_
  refine r_newa (pc := 15) p1 k1_15 (by decide) ?_
  refine r_putC (pc := 17) p1 k1_17 rfl rfl rfl rfl rfl rfl rfl ?_
  refine r_aload_n (pc := 20) p1 k1_20 (i := 2) h0 ?_
  refine r_bipush (pc := 21) p1 k1_21 (v := (16 : Int32)) rfl ?_
  refine r_newa (pc := 23) p1 k1_23 (by decide) ?_
  refine r_putC (pc := 25) p1 k1_25 rfl rfl rfl rfl rfl rfl rfl ?_
  refine r_aload_n (pc := 28) p1 k1_28 (i := 2) h0 ?_
  refine r_bipush (pc := 29) p1 k1_29 (v := (16 : Int32)) rfl ?_
  refine r_newa (pc := 31) p1 k1_31 (by decide) ?_
  refine r_putC (pc := 33) p1 k1_33 rfl rfl rfl rfl rfl rfl rfl ?_
  refine r_aload_n (pc := 36) p1 k1_36 (i := 2) h0 ?_
  refine r_bipush (pc := 37) p1 k1_37 (v := (16 : Int32)) rfl ?_
  refine r_newa (pc := 39) p1 k1_39 (by decide) ?_
  refine r_putC (pc := 41) p1 k1_41 rfl rfl rfl rfl rfl rfl rfl ?_
  refine r_aload_n (pc := 44) p1 k1_44 (i := 2) h0 ?_
  refine r_bipush (pc := 45) p1 k1_45 (v := (16 : Int32)) rfl ?_
  refine r_newa (pc := 47) p1 k1_47 (by decide) ?_
  refine r_putC (pc := 49) p1 k1_49 rfl rfl rfl rfl rfl rfl rfl ?_
  refine r_aload_n (pc := 52) p1 k1_52 (i := 2) h0 ?_
  refine r_bipush (pc := 53) p1 k1_53 (v := (16 : Int32)) rfl ?_
  refine r_newa (pc := 55) p1 k1_55 (by decide) ?_
  refine r_putC (pc := 57) p1 k1_57 rfl rfl rfl rfl rfl rfl rfl ?_
  refine r_aload_n (pc := 60) p1 k1_60 (i := 2) h0 ?_
  refine r_bipush (pc := 61) p1 k1_61 (v := (16 : Int32)) rfl ?_
  refine r_newa (pc := 63) p1 k1_63 (by decide) ?_
  refine r_putC (pc := 65) p1 k1_65 rfl rfl rfl rfl rfl rfl rfl ?_
  exact r_retV9 (pc := 68) p1 k1_68 rfl rfl
def ci_3 : Nat → ab_C := fun i => match i with
  | 0 => .inr (5, [.ref 1, .int 0, .null, .null])
  | 1 => .inl (0, 256, .inl (fun _ => 0))
  | 2 => .inr (3, [.int 0, .ref 3, .ref 4, .ref 5, .ref 6, .ref 7, .ref 8, .ref 9, .ref 10])
  | 3 => .inl (0, 0, .inl (fun _ => 0))
  | 4 => .inl (1, 256, .inl (fun _ => 0))
  | 5 => .inl (1, 16, .inl (fun _ => 0))
  | 6 => .inl (1, 16, .inl (fun _ => 0))
  | 7 => .inl (1, 16, .inl (fun _ => 0))
  | 8 => .inl (1, 16, .inl (fun _ => 0))
  | 9 => .inl (1, 16, .inl (fun _ => 0))
  | 10 => .inl (1, 16, .inl (fun _ => 0))
  | 11 => .inr (4, [.int 0, .int 0, .int 0, .int 0, .int 0, .int 0, .int 0, .null, .int 0, .int 0, .int 0, .null, .null, .null, .int 0, .int 0, .int 0, .int 0])
  | _ => .inr (7, [])
def ci_4 : Nat → ab_C := fun i => match i with
  | 0 => .inr (5, [.ref 1, .int 0, .null, .null])
  | 1 => .inl (0, 256, .inl (fun _ => 0))
  | 2 => .inr (3, [.int 0, .ref 3, .ref 4, .ref 5, .ref 6, .ref 7, .ref 8, .ref 9, .ref 10])
  | 3 => .inl (0, 0, .inl (fun _ => 0))
  | 4 => .inl (1, 256, .inl (fun _ => 0))
  | 5 => .inl (1, 16, .inl (fun _ => 0))
  | 6 => .inl (1, 16, .inl (fun _ => 0))
  | 7 => .inl (1, 16, .inl (fun _ => 0))
  | 8 => .inl (1, 16, .inl (fun _ => 0))
  | 9 => .inl (1, 16, .inl (fun _ => 0))
  | 10 => .inl (1, 16, .inl (fun _ => 0))
  | 11 => .inr (4, [.int 0, .int 0, .int 0, .int 0, .int 0, .int 0, .int 0, .ref 12, .int 0, .int 0, .int 0, .ref 13, .ref 14, .ref 15, .int 0, .int 0, .int 0, .int 0])
  | 12 => .inl (0, 0, .inl (fun _ => 0))
  | 13 => .inl (1, 32, .inl (fun _ => 0))
  | 14 => .inl (1, 32, .inl (fun _ => 0))
  | 15 => .inl (1, 32, .inl (fun _ => 0))
  | _ => .inr (7, [])
theorem i2_12 {d : Nat} : ab_Rn d 2 0 (lv_args 0 [.ref 11]) [] (ab_hl 12 ci_3) (.inl none) (ab_hl 16 ci_4) := by
  obtain ⟨l, hl⟩ : ∃ l, l = (lv_args 0 [.ref 11]) := ⟨_, rfl⟩
  rw [← hl]
  have h0 : ab_get l 0 = some (.ref 11) := by rw [hl]; rfl
  refine r_aload_n (pc := 0) p2 k2_0 (i := 11) h0 ?_
  refine r_obj (pc := 1) p2 k2_1 rfl ?_
  refine r_aload_n (pc := 4) p2 k2_4 (i := 11) h0 ?_
  refine r_iconst (pc := 5) p2 k2_5 (v := (0 : Int32)) rfl ?_
  refine r_newa (pc := 6) p2 k2_6 (by decide) ?_
  refine r_putC (pc := 8) p2 k2_8 rfl rfl rfl rfl rfl rfl rfl ?_
  refine r_aload_n (pc := 11) p2 k2_11 (i := 11) h0 ?_
  refine r_bipush (pc := 12) p2 k2_12 (v := (32 : Int32)) rfl ?_
  refine r_newa (pc := 14) p2 k2_14 (by decide) ?_
  refine r_putC (pc := 16) p2 k2_16 rfl rfl rfl rfl rfl rfl rfl ?_
  refine r_aload_n (pc := 19) p2 k2_19 (i := 11) h0 ?_
  refine r_bipush (pc := 20) p2 k2_20 (v := (32 : Int32)) rfl ?_
  refine r_newa (pc := 22) p2 k2_22 (by decide) ?_
  refine r_putC (pc := 24) p2 k2_24 rfl rfl rfl rfl rfl rfl rfl ?_
  refine r_aload_n (pc := 27) p2 k2_27 (i := 11) h0 ?_
  refine r_bipush (pc := 28) p2 k2_28 (v := (32 : Int32)) rfl ?_
  refine r_newa (pc := 30) p2 k2_30 (by decide) ?_
  refine r_putC (pc := 32) p2 k2_32 rfl rfl rfl rfl rfl rfl rfl ?_
  exact r_retV9 (pc := 35) p2 k2_35 rfl rfl
def ci_5 : Nat → ab_C := fun i => match i with
  | 0 => .inr (5, [.ref 1, .int 0, .ref 11, .null])
  | 1 => .inl (0, 256, .inl (fun _ => 0))
  | 2 => .inr (3, [.int 0, .ref 3, .ref 4, .ref 5, .ref 6, .ref 7, .ref 8, .ref 9, .ref 10])
  | 3 => .inl (0, 0, .inl (fun _ => 0))
  | 4 => .inl (1, 256, .inl (fun _ => 0))
  | 5 => .inl (1, 16, .inl (fun _ => 0))
  | 6 => .inl (1, 16, .inl (fun _ => 0))
  | 7 => .inl (1, 16, .inl (fun _ => 0))
  | 8 => .inl (1, 16, .inl (fun _ => 0))
  | 9 => .inl (1, 16, .inl (fun _ => 0))
  | 10 => .inl (1, 16, .inl (fun _ => 0))
  | 11 => .inr (4, [.int 0, .int 0, .int 0, .int 0, .int 0, .int 0, .int 0, .ref 12, .int 0, .int 0, .int 0, .ref 13, .ref 14, .ref 15, .int 0, .int 0, .int 0, .int 0])
  | 12 => .inl (0, 0, .inl (fun _ => 0))
  | 13 => .inl (1, 32, .inl (fun _ => 0))
  | 14 => .inl (1, 32, .inl (fun _ => 0))
  | 15 => .inl (1, 32, .inl (fun _ => 0))
  | 16 => .inr (0, [.null, .null, .null, .null, .null, .int 0, .int 0, .int 0, .int 0, .int 0, .int 0, .int 0, .int 0, .int 0, .int 0, .int 0])
  | 17 => .inr (1, [.int 0, .int 0, .int 0, .int 0, .null, .null])
  | _ => .inr (7, [])
def ci_6 : Nat → ab_C := fun i => match i with
  | 0 => .inr (5, [.ref 1, .int 0, .ref 11, .null])
  | 1 => .inl (0, 256, .inl (fun _ => 0))
  | 2 => .inr (3, [.int 0, .ref 3, .ref 4, .ref 5, .ref 6, .ref 7, .ref 8, .ref 9, .ref 10])
  | 3 => .inl (0, 0, .inl (fun _ => 0))
  | 4 => .inl (1, 256, .inl (fun _ => 0))
  | 5 => .inl (1, 16, .inl (fun _ => 0))
  | 6 => .inl (1, 16, .inl (fun _ => 0))
  | 7 => .inl (1, 16, .inl (fun _ => 0))
  | 8 => .inl (1, 16, .inl (fun _ => 0))
  | 9 => .inl (1, 16, .inl (fun _ => 0))
  | 10 => .inl (1, 16, .inl (fun _ => 0))
  | 11 => .inr (4, [.int 0, .int 0, .int 0, .int 0, .int 0, .int 0, .int 0, .ref 12, .int 0, .int 0, .int 0, .ref 13, .ref 14, .ref 15, .int 0, .int 0, .int 0, .int 0])
  | 12 => .inl (0, 0, .inl (fun _ => 0))
  | 13 => .inl (1, 32, .inl (fun _ => 0))
  | 14 => .inl (1, 32, .inl (fun _ => 0))
  | 15 => .inl (1, 32, .inl (fun _ => 0))
  | 16 => .inr (0, [.null, .null, .null, .null, .null, .int 0, .int 0, .int 0, .int 0, .int 0, .int 0, .int 0, .int 0, .int 0, .int 0, .int 0])
  | 17 => .inr (1, [.int 0, .int 0, .int 0, .int 0, .ref 11, .ref 2])
  | _ => .inr (7, [])
theorem i3_18 {d : Nat} : ab_Rn d 3 0 (lv_args 0 [.ref 17, .ref 11, .ref 2]) [] (ab_hl 18 ci_5) (.inl none) (ab_hl 18 ci_6) := by
  obtain ⟨l, hl⟩ : ∃ l, l = (lv_args 0 [.ref 17, .ref 11, .ref 2]) := ⟨_, rfl⟩
  rw [← hl]
  have h0 : ab_get l 0 = some (.ref 17) := by rw [hl]; rfl
  have h1 : ab_get l 1 = some (.ref 11) := by rw [hl]; rfl
  have h2 : ab_get l 2 = some (.ref 2) := by rw [hl]; rfl
  refine r_aload_n (pc := 0) p3 k3_0 (i := 17) h0 ?_
  refine r_obj (pc := 1) p3 k3_1 rfl ?_
  refine r_aload_n (pc := 4) p3 k3_4 (i := 17) h0 ?_
  refine r_aload_n (pc := 5) p3 k3_5 (i := 11) h1 ?_
  refine r_putC (pc := 6) p3 k3_6 rfl rfl rfl rfl rfl rfl rfl ?_
  refine r_aload_n (pc := 9) p3 k3_9 (i := 17) h0 ?_
  refine r_aload_n (pc := 10) p3 k3_10 (i := 2) h2 ?_
  refine r_putC (pc := 11) p3 k3_11 rfl rfl rfl rfl rfl rfl rfl ?_
  exact r_retV9 (pc := 14) p3 k3_14 rfl rfl
def ci_7 : Nat → ab_C := fun i => match i with
  | 0 => .inr (5, [.ref 1, .int 0, .ref 11, .null])
  | 1 => .inl (0, 256, .inl (fun _ => 0))
  | 2 => .inr (3, [.int 0, .ref 3, .ref 4, .ref 5, .ref 6, .ref 7, .ref 8, .ref 9, .ref 10])
  | 3 => .inl (0, 0, .inl (fun _ => 0))
  | 4 => .inl (1, 256, .inl (fun _ => 0))
  | 5 => .inl (1, 16, .inl (fun _ => 0))
  | 6 => .inl (1, 16, .inl (fun _ => 0))
  | 7 => .inl (1, 16, .inl (fun _ => 0))
  | 8 => .inl (1, 16, .inl (fun _ => 0))
  | 9 => .inl (1, 16, .inl (fun _ => 0))
  | 10 => .inl (1, 16, .inl (fun _ => 0))
  | 11 => .inr (4, [.int 0, .int 0, .int 0, .int 0, .int 0, .int 0, .int 0, .ref 12, .int 0, .int 0, .int 0, .ref 13, .ref 14, .ref 15, .int 0, .int 0, .int 0, .int 0])
  | 12 => .inl (0, 0, .inl (fun _ => 0))
  | 13 => .inl (1, 32, .inl (fun _ => 0))
  | 14 => .inl (1, 32, .inl (fun _ => 0))
  | 15 => .inl (1, 32, .inl (fun _ => 0))
  | 16 => .inr (0, [.null, .null, .null, .null, .null, .int 0, .int 0, .int 0, .int 0, .int 0, .int 0, .int 0, .int 0, .int 0, .int 0, .int 0])
  | 17 => .inr (1, [.int 0, .int 0, .int 0, .int 0, .ref 11, .ref 2])
  | _ => .inr (7, [])
def ci_8 : Nat → ab_C := fun i => match i with
  | 0 => .inr (5, [.ref 1, .int 0, .ref 11, .null])
  | 1 => .inl (0, 256, .inl (fun _ => 0))
  | 2 => .inr (3, [.int 0, .ref 3, .ref 4, .ref 5, .ref 6, .ref 7, .ref 8, .ref 9, .ref 10])
  | 3 => .inl (0, 0, .inl (fun _ => 0))
  | 4 => .inl (1, 256, .inl (fun _ => 0))
  | 5 => .inl (1, 16, .inl (fun _ => 0))
  | 6 => .inl (1, 16, .inl (fun _ => 0))
  | 7 => .inl (1, 16, .inl (fun _ => 0))
  | 8 => .inl (1, 16, .inl (fun _ => 0))
  | 9 => .inl (1, 16, .inl (fun _ => 0))
  | 10 => .inl (1, 16, .inl (fun _ => 0))
  | 11 => .inr (4, [.int 0, .int 0, .int 0, .int 0, .int 0, .int 0, .int 0, .ref 12, .int 0, .int 0, .int 0, .ref 13, .ref 14, .ref 15, .int 0, .int 0, .int 0, .int 0])
  | 12 => .inl (0, 0, .inl (fun _ => 0))
  | 13 => .inl (1, 32, .inl (fun _ => 0))
  | 14 => .inl (1, 32, .inl (fun _ => 0))
  | 15 => .inl (1, 32, .inl (fun _ => 0))
  | 16 => .inr (0, [.null, .null, .null, .null, .null, .int 0, .int 0, .int 0, .int 0, .int 0, .int 0, .int 0, .int 0, .int 0, .int 0, .int 0])
  | 17 => .inr (1, [.int 0, .int 0, .int 0, .int 0, .ref 11, .ref 2])
  | 18 => .inr (2, [.int 0, .int 0, .int 0, .int 0, .null])
  | _ => .inr (7, [])
def ci_9 : Nat → ab_C := fun i => match i with
  | 0 => .inr (5, [.ref 1, .int 0, .ref 11, .null])
  | 1 => .inl (0, 256, .inl (fun _ => 0))
  | 2 => .inr (3, [.int 0, .ref 3, .ref 4, .ref 5, .ref 6, .ref 7, .ref 8, .ref 9, .ref 10])
  | 3 => .inl (0, 0, .inl (fun _ => 0))
  | 4 => .inl (1, 256, .inl (fun _ => 0))
  | 5 => .inl (1, 16, .inl (fun _ => 0))
  | 6 => .inl (1, 16, .inl (fun _ => 0))
  | 7 => .inl (1, 16, .inl (fun _ => 0))
  | 8 => .inl (1, 16, .inl (fun _ => 0))
  | 9 => .inl (1, 16, .inl (fun _ => 0))
  | 10 => .inl (1, 16, .inl (fun _ => 0))
  | 11 => .inr (4, [.int 0, .int 0, .int 0, .int 0, .int 0, .int 0, .int 0, .ref 12, .int 0, .int 0, .int 0, .ref 13, .ref 14, .ref 15, .int 0, .int 0, .int 0, .int 0])
  | 12 => .inl (0, 0, .inl (fun _ => 0))
  | 13 => .inl (1, 32, .inl (fun _ => 0))
  | 14 => .inl (1, 32, .inl (fun _ => 0))
  | 15 => .inl (1, 32, .inl (fun _ => 0))
  | 16 => .inr (0, [.null, .null, .null, .null, .null, .int 0, .int 0, .int 0, .int 0, .int 0, .int 0, .int 0, .int 0, .int 0, .int 0, .int 0])
  | 17 => .inr (1, [.int 0, .int 0, .int 0, .int 0, .ref 11, .ref 2])
  | 18 => .inr (2, [.int 0, .int 0, .int 0, .int 0, .ref 19])
  | 19 => .inl (0, 0, .inl (fun _ => 0))
  | _ => .inr (7, [])
theorem i5_19 {d : Nat} : ab_Rn d 5 0 (lv_args 0 [.ref 18]) [] (ab_hl 19 ci_8) (.inl none) (ab_hl 20 ci_9) := by
  obtain ⟨l, hl⟩ : ∃ l, l = (lv_args 0 [.ref 18]) := ⟨_, rfl⟩
  rw [← hl]
  have h0 : ab_get l 0 = some (.ref 18) := by rw [hl]; rfl
  refine r_aload_n (pc := 0) p5 k5_0 (i := 18) h0 ?_
  refine r_obj (pc := 1) p5 k5_1 rfl ?_
  refine r_aload_n (pc := 4) p5 k5_4 (i := 18) h0 ?_
  refine r_iconst (pc := 5) p5 k5_5 (v := (0 : Int32)) rfl ?_
  refine r_newa (pc := 6) p5 k5_6 (by decide) ?_
  refine r_putC (pc := 8) p5 k5_8 rfl rfl rfl rfl rfl rfl rfl ?_
  exact r_retV9 (pc := 11) p5 k5_11 rfl rfl
def ci_10 : Nat → ab_C := fun i => match i with
  | 0 => .inr (5, [.ref 1, .int 0, .ref 11, .null])
  | 1 => .inl (0, 256, .inl (fun _ => 0))
  | 2 => .inr (3, [.int 0, .ref 3, .ref 4, .ref 5, .ref 6, .ref 7, .ref 8, .ref 9, .ref 10])
  | 3 => .inl (0, 0, .inl (fun _ => 0))
  | 4 => .inl (1, 256, .inl (fun _ => 0))
  | 5 => .inl (1, 16, .inl (fun _ => 0))
  | 6 => .inl (1, 16, .inl (fun _ => 0))
  | 7 => .inl (1, 16, .inl (fun _ => 0))
  | 8 => .inl (1, 16, .inl (fun _ => 0))
  | 9 => .inl (1, 16, .inl (fun _ => 0))
  | 10 => .inl (1, 16, .inl (fun _ => 0))
  | 11 => .inr (4, [.int 0, .int 0, .int 0, .int 0, .int 0, .int 0, .int 0, .ref 12, .int 0, .int 0, .int 0, .ref 13, .ref 14, .ref 15, .int 0, .int 0, .int 0, .int 0])
  | 12 => .inl (0, 0, .inl (fun _ => 0))
  | 13 => .inl (1, 32, .inl (fun _ => 0))
  | 14 => .inl (1, 32, .inl (fun _ => 0))
  | 15 => .inl (1, 32, .inl (fun _ => 0))
  | 16 => .inr (0, [.ref 18, .null, .null, .null, .null, .int 0, .int 0, .int 0, .int 0, .int 0, .int 0, .int 0, .int 0, .int 0, .int 0, .int 0])
  | 17 => .inr (1, [.int 0, .int 0, .int 0, .int 0, .ref 11, .ref 2])
  | 18 => .inr (2, [.int 0, .int 0, .int 0, .int 0, .ref 19])
  | 19 => .inl (0, 0, .inl (fun _ => 0))
  | 20 => .inr (2, [.int 0, .int 0, .int 0, .int 0, .null])
  | _ => .inr (7, [])
def ci_11 : Nat → ab_C := fun i => match i with
  | 0 => .inr (5, [.ref 1, .int 0, .ref 11, .null])
  | 1 => .inl (0, 256, .inl (fun _ => 0))
  | 2 => .inr (3, [.int 0, .ref 3, .ref 4, .ref 5, .ref 6, .ref 7, .ref 8, .ref 9, .ref 10])
  | 3 => .inl (0, 0, .inl (fun _ => 0))
  | 4 => .inl (1, 256, .inl (fun _ => 0))
  | 5 => .inl (1, 16, .inl (fun _ => 0))
  | 6 => .inl (1, 16, .inl (fun _ => 0))
  | 7 => .inl (1, 16, .inl (fun _ => 0))
  | 8 => .inl (1, 16, .inl (fun _ => 0))
  | 9 => .inl (1, 16, .inl (fun _ => 0))
  | 10 => .inl (1, 16, .inl (fun _ => 0))
  | 11 => .inr (4, [.int 0, .int 0, .int 0, .int 0, .int 0, .int 0, .int 0, .ref 12, .int 0, .int 0, .int 0, .ref 13, .ref 14, .ref 15, .int 0, .int 0, .int 0, .int 0])
  | 12 => .inl (0, 0, .inl (fun _ => 0))
  | 13 => .inl (1, 32, .inl (fun _ => 0))
  | 14 => .inl (1, 32, .inl (fun _ => 0))
  | 15 => .inl (1, 32, .inl (fun _ => 0))
  | 16 => .inr (0, [.ref 18, .null, .null, .null, .null, .int 0, .int 0, .int 0, .int 0, .int 0, .int 0, .int 0, .int 0, .int 0, .int 0, .int 0])
  | 17 => .inr (1, [.int 0, .int 0, .int 0, .int 0, .ref 11, .ref 2])
  | 18 => .inr (2, [.int 0, .int 0, .int 0, .int 0, .ref 19])
  | 19 => .inl (0, 0, .inl (fun _ => 0))
  | 20 => .inr (2, [.int 0, .int 0, .int 0, .int 0, .ref 21])
  | 21 => .inl (0, 0, .inl (fun _ => 0))
  | _ => .inr (7, [])
theorem i5_21 {d : Nat} : ab_Rn d 5 0 (lv_args 0 [.ref 20]) [] (ab_hl 21 ci_10) (.inl none) (ab_hl 22 ci_11) := by
  obtain ⟨l, hl⟩ : ∃ l, l = (lv_args 0 [.ref 20]) := ⟨_, rfl⟩
  rw [← hl]
  have h0 : ab_get l 0 = some (.ref 20) := by rw [hl]; rfl
  refine r_aload_n (pc := 0) p5 k5_0 (i := 20) h0 ?_
  refine r_obj (pc := 1) p5 k5_1 rfl ?_
  refine r_aload_n (pc := 4) p5 k5_4 (i := 20) h0 ?_
  refine r_iconst (pc := 5) p5 k5_5 (v := (0 : Int32)) rfl ?_
  refine r_newa (pc := 6) p5 k5_6 (by decide) ?_
  refine r_putC (pc := 8) p5 k5_8 rfl rfl rfl rfl rfl rfl rfl ?_
  exact r_retV9 (pc := 11) p5 k5_11 rfl rfl
def ci_12 : Nat → ab_C := fun i => match i with
  | 0 => .inr (5, [.ref 1, .int 0, .ref 11, .null])
  | 1 => .inl (0, 256, .inl (fun _ => 0))
  | 2 => .inr (3, [.int 0, .ref 3, .ref 4, .ref 5, .ref 6, .ref 7, .ref 8, .ref 9, .ref 10])
  | 3 => .inl (0, 0, .inl (fun _ => 0))
  | 4 => .inl (1, 256, .inl (fun _ => 0))
  | 5 => .inl (1, 16, .inl (fun _ => 0))
  | 6 => .inl (1, 16, .inl (fun _ => 0))
  | 7 => .inl (1, 16, .inl (fun _ => 0))
  | 8 => .inl (1, 16, .inl (fun _ => 0))
  | 9 => .inl (1, 16, .inl (fun _ => 0))
  | 10 => .inl (1, 16, .inl (fun _ => 0))
  | 11 => .inr (4, [.int 0, .int 0, .int 0, .int 0, .int 0, .int 0, .int 0, .ref 12, .int 0, .int 0, .int 0, .ref 13, .ref 14, .ref 15, .int 0, .int 0, .int 0, .int 0])
  | 12 => .inl (0, 0, .inl (fun _ => 0))
  | 13 => .inl (1, 32, .inl (fun _ => 0))
  | 14 => .inl (1, 32, .inl (fun _ => 0))
  | 15 => .inl (1, 32, .inl (fun _ => 0))
  | 16 => .inr (0, [.ref 18, .ref 20, .ref 11, .ref 2, .ref 17, .int 0, .int 0, .int 0, .int 0, .int 0, .int 0, .int 0, .int 0, .int 0, .int 0, .int 0])
  | 17 => .inr (1, [.int 0, .int 0, .int 0, .int 0, .ref 11, .ref 2])
  | 18 => .inr (2, [.int 0, .int 0, .int 0, .int 0, .ref 19])
  | 19 => .inl (0, 0, .inl (fun _ => 0))
  | 20 => .inr (2, [.int 0, .int 0, .int 0, .int 0, .ref 21])
  | 21 => .inl (0, 0, .inl (fun _ => 0))
  | _ => .inr (7, [])
theorem i4_18 {d : Nat} : ab_Rn (d + 1) 4 0 (lv_args 0 [.ref 16, .ref 11, .ref 2, .ref 17]) [] (ab_hl 18 ci_7) (.inl none) (ab_hl 22 ci_12) := by
  obtain ⟨l, hl⟩ : ∃ l, l = (lv_args 0 [.ref 16, .ref 11, .ref 2, .ref 17]) := ⟨_, rfl⟩
  rw [← hl]
  have h0 : ab_get l 0 = some (.ref 16) := by rw [hl]; rfl
  have h1 : ab_get l 1 = some (.ref 11) := by rw [hl]; rfl
  have h2 : ab_get l 2 = some (.ref 2) := by rw [hl]; rfl
  have h3 : ab_get l 3 = some (.ref 17) := by rw [hl]; rfl
  refine r_aload_n (pc := 0) p4 k4_0 (i := 16) h0 ?_
  refine r_obj (pc := 1) p4 k4_1 rfl ?_
  refine r_aload_n (pc := 4) p4 k4_4 (i := 16) h0 ?_
  refine r_new (pc := 5) p4 k4_5 (by decide) ?_
  refine r_dup (pc := 8) p4 k4_8 rfl ?_
  refine r_hp (h2 := ab_hl 19 ci_8) rfl ?_
  refine r_ci (pc := 9) p4 k4_9 rfl rfl p5 (r := [.ref 18, .ref 16]) rfl rfl rfl rfl i5_19 (w := [.ref 18, .ref 16]) rfl ?_
  refine r_putC (pc := 12) p4 k4_12 rfl rfl rfl rfl rfl rfl rfl ?_
  refine r_aload_n (pc := 15) p4 k4_15 (i := 16) h0 ?_
  refine r_new (pc := 16) p4 k4_16 (by decide) ?_
  refine r_dup (pc := 19) p4 k4_19 rfl ?_
  refine r_hp (h2 := ab_hl 21 ci_10) rfl ?_
  refine r_ci (pc := 20) p4 k4_20 rfl rfl p5 (r := [.ref 20, .ref 16]) rfl rfl rfl rfl i5_21 (w := [.ref 20, .ref 16]) rfl ?_
  refine r_putC (pc := 23) p4 k4_23 rfl rfl rfl rfl rfl rfl rfl ?_
  refine r_aload_n (pc := 26) p4 k4_26 (i := 16) h0 ?_
  refine r_aload_n (pc := 27) p4 k4_27 (i := 11) h1 ?_
  refine r_putC (pc := 28) p4 k4_28 rfl rfl rfl rfl rfl rfl rfl ?_
  refine r_aload_n (pc := 31) p4 k4_31 (i := 16) h0 ?_
  refine r_aload_n (pc := 32) p4 k4_32 (i := 2) h2 ?_
  refine r_putC (pc := 33) p4 k4_33 rfl rfl rfl rfl rfl rfl rfl ?_
  refine r_aload_n (pc := 36) p4 k4_36 (i := 16) h0 ?_
  refine r_aload_n (pc := 37) p4 k4_37 (i := 17) h3 ?_
  refine r_putC (pc := 38) p4 k4_38 rfl rfl rfl rfl rfl rfl rfl ?_
  exact r_retV9 (pc := 41) p4 k4_41 rfl rfl
def ci_13 : Nat → ab_C := fun i => match i with
  | 0 => .inr (5, [.ref 1, .int 0, .ref 11, .ref 16])
  | 1 => .inl (0, 256, .inl (fun _ => 0))
  | 2 => .inr (3, [.int 0, .ref 3, .ref 4, .ref 5, .ref 6, .ref 7, .ref 8, .ref 9, .ref 10])
  | 3 => .inl (0, 0, .inl (fun _ => 0))
  | 4 => .inl (1, 256, .inl (fun _ => 0))
  | 5 => .inl (1, 16, .inl (fun _ => 0))
  | 6 => .inl (1, 16, .inl (fun _ => 0))
  | 7 => .inl (1, 16, .inl (fun _ => 0))
  | 8 => .inl (1, 16, .inl (fun _ => 0))
  | 9 => .inl (1, 16, .inl (fun _ => 0))
  | 10 => .inl (1, 16, .inl (fun _ => 0))
  | 11 => .inr (4, [.int 0, .int 0, .int 0, .int 0, .int 0, .int 0, .int 0, .ref 12, .int 0, .int 0, .int 0, .ref 13, .ref 14, .ref 15, .int 0, .int 0, .int 0, .int 0])
  | 12 => .inl (0, 0, .inl (fun _ => 0))
  | 13 => .inl (1, 32, .inl (fun _ => 0))
  | 14 => .inl (1, 32, .inl (fun _ => 0))
  | 15 => .inl (1, 32, .inl (fun _ => 0))
  | 16 => .inr (0, [.ref 18, .ref 20, .ref 11, .ref 2, .ref 17, .int 0, .int 0, .int 0, .int 0, .int 0, .int 0, .int 0, .int 0, .int 0, .int 0, .int 0])
  | 17 => .inr (1, [.int 0, .int 0, .int 0, .int 0, .ref 11, .ref 2])
  | 18 => .inr (2, [.int 0, .int 0, .int 0, .int 0, .ref 19])
  | 19 => .inl (0, 0, .inl (fun _ => 0))
  | 20 => .inr (2, [.int 0, .int 0, .int 0, .int 0, .ref 21])
  | 21 => .inl (0, 0, .inl (fun _ => 0))
  | _ => .inr (7, [])
theorem i0_1 {d : Nat} : ab_Rn (d + 2) 0 0 (lv_args 0 [.ref 0]) [] (ab_hl 1 ci_0) (.inl none) (ab_hl 22 ci_13) := by
  obtain ⟨l, hl⟩ : ∃ l, l = (lv_args 0 [.ref 0]) := ⟨_, rfl⟩
  rw [← hl]
  have h0 : ab_get l 0 = some (.ref 0) := by rw [hl]; rfl
  refine r_aload_n (pc := 0) p0 k0_0 (i := 0) h0 ?_
  refine r_obj (pc := 1) p0 k0_1 rfl ?_
  refine r_aload_n (pc := 4) p0 k0_4 (i := 0) h0 ?_
  refine r_sipush (pc := 5) p0 k0_5 (v := (256 : Int32)) rfl ?_
  refine r_newa (pc := 8) p0 k0_8 (by decide) ?_
  refine r_putC (pc := 10) p0 k0_10 rfl rfl rfl rfl rfl rfl rfl ?_
  refine r_new (pc := 13) p0 k0_13 (by decide) ?_
  refine r_dup (pc := 16) p0 k0_16 rfl ?_
  refine r_hp (h2 := ab_hl 3 ci_1) rfl ?_
  refine r_ci (pc := 17) p0 k0_17 rfl rfl p1 (r := [.ref 2]) rfl rfl rfl rfl i1_3 (w := [.ref 2]) rfl ?_
  refine r_astore_n (pc := 20) p0 k0_20 (by decide) (fun l g h1 => ?_)
  have h0 := g 0 _ (by decide) h0 (Or.inl rfl)
  refine r_new (pc := 21) p0 k0_21 (by decide) ?_
  refine r_dup (pc := 24) p0 k0_24 rfl ?_
  refine r_hp (h2 := ab_hl 12 ci_3) rfl ?_
  refine r_ci (pc := 25) p0 k0_25 rfl rfl p2 (r := [.ref 11]) rfl rfl rfl rfl i2_12 (w := [.ref 11]) rfl ?_
  refine r_astore_n (pc := 28) p0 k0_28 (by decide) (fun l g h2 => ?_)
  have h0 := g 0 _ (by decide) h0 (Or.inl rfl)
  have h1 := g 1 _ (by decide) h1 (Or.inl rfl)
  refine r_aload_n (pc := 29) p0 k0_29 (i := 0) h0 ?_
  refine r_aload_n (pc := 30) p0 k0_30 (i := 11) h2 ?_
  refine r_putC (pc := 31) p0 k0_31 rfl rfl rfl rfl rfl rfl rfl ?_
  refine r_aload_n (pc := 34) p0 k0_34 (i := 0) h0 ?_
  refine r_new (pc := 35) p0 k0_35 (by decide) ?_
  refine r_dup (pc := 38) p0 k0_38 rfl ?_
  refine r_aload_n (pc := 39) p0 k0_39 (i := 11) h2 ?_
  refine r_aload_n (pc := 40) p0 k0_40 (i := 2) h1 ?_
  refine r_new (pc := 41) p0 k0_41 (by decide) ?_
  refine r_dup (pc := 44) p0 k0_44 rfl ?_
  refine r_aload_n (pc := 45) p0 k0_45 (i := 11) h2 ?_
  refine r_aload_n (pc := 46) p0 k0_46 (i := 2) h1 ?_
  refine r_hp (h2 := ab_hl 18 ci_5) rfl ?_
  refine r_ci (pc := 47) p0 k0_47 rfl rfl p3 (r := [.ref 17, .ref 2, .ref 11, .ref 16, .ref 16, .ref 0]) rfl rfl rfl rfl i3_18 (w := [.ref 17, .ref 2, .ref 11, .ref 16, .ref 16, .ref 0]) rfl ?_
  refine r_hp (h2 := ab_hl 18 ci_7) rfl ?_
  refine r_ci (pc := 50) p0 k0_50 rfl rfl p4 (r := [.ref 16, .ref 0]) rfl rfl rfl rfl i4_18 (w := [.ref 16, .ref 0]) rfl ?_
  refine r_putC (pc := 53) p0 k0_53 rfl rfl rfl rfl rfl rfl rfl ?_
  exact r_retV9 (pc := 56) p0 k0_56 rfl rfl
