theorem p7 : ab_prog[7]? = some (ab_m7, ab_c7) := rfl
theorem k7_0 : ab_fetch ab_c7 0 = some (.iload_n 1, 1, 0, 0) := rfl
theorem k7_1 : ab_fetch ab_c7 1 = some (.aload_n 0, 1, 0, 0) := rfl
theorem k7_2 : ab_fetch ab_c7 2 = some (.arraylength, 1, 0, 0) := rfl
theorem k7_3 : ab_fetch ab_c7 3 = some (.if_icmp .ne 11, 3, 14, 0) := rfl
theorem k7_6 : ab_fetch ab_c7 6 = some (.aload_n 0, 1, 0, 0) := rfl
theorem k7_13 : ab_fetch ab_c7 13 = some (.areturn, 1, 0, 0) := rfl
theorem k7_14 : ab_fetch ab_c7 14 = some (.iload_n 1, 1, 0, 0) := rfl
theorem k7_15 : ab_fetch ab_c7 15 = some (.newarray .byte, 2, 0, 0) := rfl
theorem k7_17 : ab_fetch ab_c7 17 = some (.astore_n 2, 1, 0, 0) := rfl
theorem k7_18 : ab_fetch ab_c7 18 = some (.aload_n 0, 1, 0, 0) := rfl
theorem k7_19 : ab_fetch ab_c7 19 = some (.iconst 0, 1, 0, 0) := rfl
theorem k7_20 : ab_fetch ab_c7 20 = some (.aload_n 2, 1, 0, 0) := rfl
theorem k7_21 : ab_fetch ab_c7 21 = some (.iconst 0, 1, 0, 0) := rfl
theorem k7_22 : ab_fetch ab_c7 22 = some (.aload_n 0, 1, 0, 0) := rfl
theorem k7_23 : ab_fetch ab_c7 23 = some (.arraylength, 1, 0, 0) := rfl
theorem k7_24 : ab_fetch ab_c7 24 = some (.iload_n 1, 1, 0, 0) := rfl
theorem k7_25 : ab_fetch ab_c7 25 = some (.invokestatic 304, 3, 997, 2) := rfl
theorem k7_28 : ab_fetch ab_c7 28 = some (.invokestatic 150, 3, 999, 5) := rfl
theorem k7_31 : ab_fetch ab_c7 31 = some (.aload_n 2, 1, 0, 0) := rfl
theorem k7_32 : ab_fetch ab_c7 32 = some (.areturn, 1, 0, 0) := rfl
/- java/util/Arrays copyOf([BI)[B -/
def f7 (s : cS) (x0 : Nat) (x1 : Int32) : Option (Nat × cS) := if cA s 0 x0 then (if x1 = (Int32.ofNat (cl s x0)) then none else if cN x1 then if cA (cn s 0 x1.toNatClampNeg) 0 x0 then if cY (cn s 0 x1.toNatClampNeg) 0 x0 (0 : Int32) (42 + s.2.2.2) (0 : Int32) (if x1 < (Int32.ofNat (cl (cn s 0 x1.toNatClampNeg) x0)) then x1 else (Int32.ofNat (cl (cn s 0 x1.toNatClampNeg) x0))) then some ((42 + s.2.2.2), (cy (cn s 0 x1.toNatClampNeg) x0 (0 : Int32) (42 + s.2.2.2) (0 : Int32) (if x1 < (Int32.ofNat (cl (cn s 0 x1.toNatClampNeg) x0)) then x1 else (Int32.ofNat (cl (cn s 0 x1.toNatClampNeg) x0))))) else none else none else none) else none
theorem t7 {d : Nat} {Z : Nat → ab_C} (s : cS) (x0 : Nat) (x1 : Int32) (r : Nat × cS) (e : f7 s x0 x1 = some r) : ab_Rn d 7 0 (lv_args 0 [.ref x0, .int x1]) [] (ch s Z) (.inl (some (.ref r.1))) (ch r.2 Z) := by
  unfold f7 at e
  obtain ⟨l, hl⟩ : ∃ l, l = (lv_args 0 [.ref x0, .int x1]) := ⟨_, rfl⟩
  rw [← hl]
  have h0 : ab_get l 0 = some (.ref x0) := by rw [hl]; rfl
  have h1 : ab_get l 1 = some (.int x1) := by rw [hl]; rfl
  refine r_iload_n (pc := 0) p7 k7_0 h1 ?_
  refine r_aload_n (pc := 1) p7 k7_1 h0 ?_
  obtain ⟨c, e⟩ := of_if e
  refine c_alen (pc := 2) p7 k7_2 (t := 0) rfl c ?_
  refine r_ic_ne (pc := 3) p7 k7_3 (fun c => ?_) (fun c => ?_)
  · have e := (if_neg c).symm.trans e
    refine r_iload_n (pc := 14) p7 k7_14 h1 ?_
    obtain ⟨c, e⟩ := of_if e
    refine c_newB (pc := 15) p7 k7_15 c ?_
    refine r_astore_n (pc := 17) p7 k7_17 (by decide) (fun l g h2 => ?_)
    have h0 := g 0 _ (by decide) h0 (Or.inl rfl)
    have h1 := g 1 _ (by decide) h1 (Or.inl rfl)
    refine r_aload_n (pc := 18) p7 k7_18 h0 ?_
    refine r_iconst (pc := 19) p7 k7_19 (v := (0 : Int32)) rfl ?_
    refine r_aload_n (pc := 20) p7 k7_20 h2 ?_
    refine r_iconst (pc := 21) p7 k7_21 (v := (0 : Int32)) rfl ?_
    refine r_aload_n (pc := 22) p7 k7_22 h0 ?_
    obtain ⟨c, e⟩ := of_if e
    refine c_alen (pc := 23) p7 k7_23 (t := 0) rfl c ?_
    refine r_iload_n (pc := 24) p7 k7_24 h1 ?_
    refine r_min (pc := 25) p7 k7_25 rfl ?_
    obtain ⟨c, e⟩ := of_if e
    refine c_cpy (t := 0) (pc := 28) p7 k7_28 rfl rfl c ?_
    refine r_aload_n (pc := 31) p7 k7_31 h2 ?_
    obtain rfl := Option.some.inj e
    exact r_retR (pc := 32) p7 k7_32 rfl
  · have e := (if_pos c).symm.trans e
    refine r_aload_n (pc := 6) p7 k7_6 h0 ?_
    cases e

theorem p8 : ab_prog[8]? = some (ab_m8, ab_c8) := rfl
theorem k8_0 : ab_fetch ab_c8 0 = some (.bipush 24, 2, 0, 0) := rfl
theorem k8_2 : ab_fetch ab_c8 2 = some (.istore_n 2, 1, 0, 0) := rfl
theorem k8_3 : ab_fetch ab_c8 3 = some (.iload_n 2, 1, 0, 0) := rfl
theorem k8_4 : ab_fetch ab_c8 4 = some (.ifCond .lt 44, 3, 48, 0) := rfl
theorem k8_7 : ab_fetch ab_c8 7 = some (.aload_n 0, 1, 0, 0) := rfl
theorem k8_8 : ab_fetch ab_c8 8 = some (.getfield 37, 3, 5, 1) := rfl
theorem k8_11 : ab_fetch ab_c8 11 = some (.aload_n 0, 1, 0, 0) := rfl
theorem k8_12 : ab_fetch ab_c8 12 = some (.getfield 7, 3, 5, 0) := rfl
theorem k8_15 : ab_fetch ab_c8 15 = some (.arraylength, 1, 0, 0) := rfl
theorem k8_16 : ab_fetch ab_c8 16 = some (.if_icmp .ge 32, 3, 48, 0) := rfl
theorem k8_19 : ab_fetch ab_c8 19 = some (.aload_n 0, 1, 0, 0) := rfl
theorem k8_20 : ab_fetch ab_c8 20 = some (.getfield 7, 3, 5, 0) := rfl
theorem k8_23 : ab_fetch ab_c8 23 = some (.aload_n 0, 1, 0, 0) := rfl
theorem k8_24 : ab_fetch ab_c8 24 = some (.getfield 37, 3, 5, 1) := rfl
theorem k8_27 : ab_fetch ab_c8 27 = some (.iload_n 1, 1, 0, 0) := rfl
theorem k8_28 : ab_fetch ab_c8 28 = some (.iload_n 2, 1, 0, 0) := rfl
theorem k8_29 : ab_fetch ab_c8 29 = some (.ishr, 1, 0, 0) := rfl
theorem k8_30 : ab_fetch ab_c8 30 = some (.i2b, 1, 0, 0) := rfl
theorem k8_31 : ab_fetch ab_c8 31 = some (.bastore, 1, 0, 0) := rfl
theorem k8_32 : ab_fetch ab_c8 32 = some (.aload_n 0, 1, 0, 0) := rfl
theorem k8_33 : ab_fetch ab_c8 33 = some (.dup, 1, 0, 0) := rfl
theorem k8_34 : ab_fetch ab_c8 34 = some (.getfield 37, 3, 5, 1) := rfl
theorem k8_37 : ab_fetch ab_c8 37 = some (.iconst 1, 1, 0, 0) := rfl
theorem k8_38 : ab_fetch ab_c8 38 = some (.iadd, 1, 0, 0) := rfl
theorem k8_39 : ab_fetch ab_c8 39 = some (.putfield 37, 3, 5, 1) := rfl
theorem k8_42 : ab_fetch ab_c8 42 = some (.iinc 2 (-8), 3, 0, 0) := rfl
theorem k8_45 : ab_fetch ab_c8 45 = some (.goto (-42), 3, 3, 0) := rfl
theorem k8_48 : ab_fetch ab_c8 48 = some (.return_, 1, 0, 0) := rfl
/- CodeSmith append(I)V -/
def f8_3 : Nat → cS → Int32 → Int32 → Option cS
  | 0, _, _, _ => none
  | u + 1, s, x1, x2 => (if x2 < 0 then some s else if cA s 0 (s.2.1 0 0) then (if (Int32.ofNat (cl s (s.2.1 0 0))) ≤ (s.1 0 1) then some s else if cB s 0 (s.2.1 0 0) (s.1 0 1) then f8_3 u (cg (cw s (s.2.1 0 0) (s.1 0 1) (x1 >>> (x2 &&& 31)).toInt8.toInt32.toInt8.toInt32) 0 1 ((s.1 0 1) + (1 : Int32))) x1 (x2 + (-8 : Int32)) else none) else none)
theorem t8_3 {d : Nat} {Z : Nat → ab_C} : ∀ u : Nat, ∀ (s : cS) (l : ab_L) (x1 : Int32) (x2 : Int32) (h0 : ab_get l 0 = some (.ref 0)) (h1 : ab_get l 1 = some (.int x1)) (h2 : ab_get l 2 = some (.int x2)) (r : cS) (e : f8_3 u s x1 x2 = some r), ab_Rn d 8 3 l [] (ch s Z) (.inl none) (ch r Z) := by
  intro u
  induction u with
  | zero => intro s l x1 x2 h0 h1 h2 r e; rw [f8_3] at e; cases e
  | succ u ih =>
    intro s l x1 x2 h0 h1 h2 r e
    rw [f8_3] at e
    refine r_iload_n (pc := 3) p8 k8_3 h2 ?_
    refine r_if_lt (pc := 4) p8 k8_4 (fun c => ?_) (fun c => ?_)
    · have e := (if_pos c).symm.trans e
      obtain rfl := Option.some.inj e
      exact r_retV (pc := 48) p8 k8_48 rfl
    · have e := (if_neg c).symm.trans e
      refine r_aload_n (pc := 7) p8 k8_7 h0 ?_
      refine c_get (i := 0) rfl (pc := 8) p8 k8_8 rfl rfl (v := .int (s.1 0 1)) rfl ?_
      refine r_aload_n (pc := 11) p8 k8_11 h0 ?_
      refine c_get (i := 0) rfl (pc := 12) p8 k8_12 rfl rfl (v := .ref (s.2.1 0 0)) rfl ?_
      obtain ⟨c, e⟩ := of_if e
      refine c_alen (pc := 15) p8 k8_15 (t := 0) rfl c ?_
      refine r_ic_ge (pc := 16) p8 k8_16 (fun c => ?_) (fun c => ?_)
      · have e := (if_pos c).symm.trans e
        obtain rfl := Option.some.inj e
        exact r_retV (pc := 48) p8 k8_48 rfl
      · have e := (if_neg c).symm.trans e
        refine r_aload_n (pc := 19) p8 k8_19 h0 ?_
        refine c_get (i := 0) rfl (pc := 20) p8 k8_20 rfl rfl (v := .ref (s.2.1 0 0)) rfl ?_
        refine r_aload_n (pc := 23) p8 k8_23 h0 ?_
        refine c_get (i := 0) rfl (pc := 24) p8 k8_24 rfl rfl (v := .int (s.1 0 1)) rfl ?_
        refine r_iload_n (pc := 27) p8 k8_27 h1 ?_
        refine r_iload_n (pc := 28) p8 k8_28 h2 ?_
        refine r_ishr (pc := 29) p8 k8_29 ?_
        refine r_i2b (pc := 30) p8 k8_30 ?_
        obtain ⟨c, e⟩ := of_if e
        refine c_bst (pc := 31) p8 k8_31 c ?_
        refine r_aload_n (pc := 32) p8 k8_32 h0 ?_
        refine r_dup (pc := 33) p8 k8_33 rfl ?_
        refine c_get (i := 0) rfl (pc := 34) p8 k8_34 rfl rfl (v := .int (s.1 0 1)) rfl ?_
        refine r_iconst (pc := 37) p8 k8_37 (v := (1 : Int32)) rfl ?_
        refine r_iadd (pc := 38) p8 k8_38 ?_
        refine c_put (i := 0) rfl (pc := 39) p8 k8_39 rfl rfl rfl (cc_g0 _ Z 1 _) (cs0_1 _ _) rfl rfl ?_
        refine r_iinc (pc := 42) p8 k8_42 h2 (by decide) (v := (x2 + (-8 : Int32))) rfl (fun l g h2 => ?_)
        have h0 := g 0 _ (by decide) h0 (Or.inl rfl)
        have h1 := g 1 _ (by decide) h1 (Or.inl rfl)
        refine r_goto (pc := 45) p8 k8_45 ?_
        exact ih (cg (cw s (s.2.1 0 0) (s.1 0 1) (x1 >>> (x2 &&& 31)).toInt8.toInt32.toInt8.toInt32) 0 1 ((s.1 0 1) + (1 : Int32))) l x1 (x2 + (-8 : Int32)) h0 h1 h2 r e
def f8 (s : cS) (x1 : Int32) : Option cS := f8_3 mm_U s x1 (24 : Int32)
theorem t8 {d : Nat} {Z : Nat → ab_C} (s : cS) (x1 : Int32) (r : cS) (e : f8 s x1 = some r) : ab_Rn d 8 0 (lv_args 0 [.ref 0, .int x1]) [] (ch s Z) (.inl none) (ch r Z) := by
  unfold f8 at e
  obtain ⟨l, hl⟩ : ∃ l, l = (lv_args 0 [.ref 0, .int x1]) := ⟨_, rfl⟩
  rw [← hl]
  have h0 : ab_get l 0 = some (.ref 0) := by rw [hl]; rfl
  have h1 : ab_get l 1 = some (.int x1) := by rw [hl]; rfl
  refine r_bipush (pc := 0) p8 k8_0 (v := (24 : Int32)) rfl ?_
  refine r_istore_n (pc := 2) p8 k8_2 (by decide) (fun l g h2 => ?_)
  have h0 := g 0 _ (by decide) h0 (Or.inl rfl)
  have h1 := g 1 _ (by decide) h1 (Or.inl rfl)
  exact t8_3 mm_U s l x1 (24 : Int32) h0 h1 h2 r e

theorem p6 : ab_prog[6]? = some (ab_m6, ab_c6) := rfl
theorem k6_0 : ab_fetch ab_c6 0 = some (.aload_n 0, 1, 0, 0) := rfl
theorem k6_1 : ab_fetch ab_c6 1 = some (.getfield 37, 3, 5, 1) := rfl
theorem k6_4 : ab_fetch ab_c6 4 = some (.bipush 20, 2, 0, 0) := rfl
theorem k6_6 : ab_fetch ab_c6 6 = some (.iadd, 1, 0, 0) := rfl
theorem k6_7 : ab_fetch ab_c6 7 = some (.ldc 41, 2, 65536, 0) := rfl
theorem k6_9 : ab_fetch ab_c6 9 = some (.if_icmp .le 5, 3, 14, 0) := rfl
theorem k6_12 : ab_fetch ab_c6 12 = some (.iconst 0, 1, 0, 0) := rfl
theorem k6_13 : ab_fetch ab_c6 13 = some (.ireturn, 1, 0, 0) := rfl
theorem k6_14 : ab_fetch ab_c6 14 = some (.aload_n 0, 1, 0, 0) := rfl
theorem k6_15 : ab_fetch ab_c6 15 = some (.getfield 37, 3, 5, 1) := rfl
theorem k6_18 : ab_fetch ab_c6 18 = some (.bipush 20, 2, 0, 0) := rfl
theorem k6_20 : ab_fetch ab_c6 20 = some (.iadd, 1, 0, 0) := rfl
theorem k6_21 : ab_fetch ab_c6 21 = some (.aload_n 0, 1, 0, 0) := rfl
theorem k6_22 : ab_fetch ab_c6 22 = some (.getfield 7, 3, 5, 0) := rfl
theorem k6_25 : ab_fetch ab_c6 25 = some (.arraylength, 1, 0, 0) := rfl
theorem k6_26 : ab_fetch ab_c6 26 = some (.if_icmp .le 26, 3, 52, 0) := rfl
theorem k6_29 : ab_fetch ab_c6 29 = some (.aload_n 0, 1, 0, 0) := rfl
theorem k6_30 : ab_fetch ab_c6 30 = some (.aload_n 0, 1, 0, 0) := rfl
theorem k6_31 : ab_fetch ab_c6 31 = some (.getfield 7, 3, 5, 0) := rfl
theorem k6_34 : ab_fetch ab_c6 34 = some (.ldc 41, 2, 65536, 0) := rfl
theorem k6_36 : ab_fetch ab_c6 36 = some (.aload_n 0, 1, 0, 0) := rfl
theorem k6_37 : ab_fetch ab_c6 37 = some (.getfield 7, 3, 5, 0) := rfl
theorem k6_40 : ab_fetch ab_c6 40 = some (.arraylength, 1, 0, 0) := rfl
theorem k6_41 : ab_fetch ab_c6 41 = some (.iconst 2, 1, 0, 0) := rfl
theorem k6_42 : ab_fetch ab_c6 42 = some (.imul, 1, 0, 0) := rfl
theorem k6_43 : ab_fetch ab_c6 43 = some (.invokestatic 42, 3, 997, 2) := rfl
theorem k6_46 : ab_fetch ab_c6 46 = some (.invokestatic 48, 3, 7, 2) := rfl
theorem k6_49 : ab_fetch ab_c6 49 = some (.putfield 7, 3, 5, 0) := rfl
theorem k6_52 : ab_fetch ab_c6 52 = some (.aload_n 0, 1, 0, 0) := rfl
theorem k6_53 : ab_fetch ab_c6 53 = some (.iload_n 1, 1, 0, 0) := rfl
theorem k6_54 : ab_fetch ab_c6 54 = some (.invokevirtual 54, 3, 8, 1) := rfl
theorem k6_57 : ab_fetch ab_c6 57 = some (.aload_n 0, 1, 0, 0) := rfl
theorem k6_58 : ab_fetch ab_c6 58 = some (.iload_n 2, 1, 0, 0) := rfl
theorem k6_59 : ab_fetch ab_c6 59 = some (.invokevirtual 54, 3, 8, 1) := rfl
theorem k6_62 : ab_fetch ab_c6 62 = some (.aload_n 0, 1, 0, 0) := rfl
theorem k6_63 : ab_fetch ab_c6 63 = some (.iload_n 3, 1, 0, 0) := rfl
theorem k6_64 : ab_fetch ab_c6 64 = some (.invokevirtual 54, 3, 8, 1) := rfl
theorem k6_67 : ab_fetch ab_c6 67 = some (.aload_n 0, 1, 0, 0) := rfl
theorem k6_68 : ab_fetch ab_c6 68 = some (.iload 4, 2, 0, 0) := rfl
theorem k6_70 : ab_fetch ab_c6 70 = some (.invokevirtual 54, 3, 8, 1) := rfl
theorem k6_73 : ab_fetch ab_c6 73 = some (.aload_n 0, 1, 0, 0) := rfl
theorem k6_74 : ab_fetch ab_c6 74 = some (.iload 5, 2, 0, 0) := rfl
theorem k6_76 : ab_fetch ab_c6 76 = some (.invokevirtual 54, 3, 8, 1) := rfl
theorem k6_79 : ab_fetch ab_c6 79 = some (.iconst 1, 1, 0, 0) := rfl
theorem k6_80 : ab_fetch ab_c6 80 = some (.ireturn, 1, 0, 0) := rfl
/- CodeSmith feed(IIIII)Z -/
def f6_52 (s : cS) (x1 : Int32) (x2 : Int32) (x3 : Int32) (x4 : Int32) (x5 : Int32) : Option (Int32 × cS) := ((f8 s x1).bind fun r1 => ((f8 r1 x2).bind fun r2 => ((f8 r2 x3).bind fun r3 => ((f8 r3 x4).bind fun r4 => ((f8 r4 x5).bind fun r5 => some ((1 : Int32), r5))))))
theorem t6_52 {d : Nat} {Z : Nat → ab_C} : ∀ (s : cS) (l : ab_L) (x1 : Int32) (x2 : Int32) (x3 : Int32) (x4 : Int32) (x5 : Int32) (h0 : ab_get l 0 = some (.ref 0)) (h1 : ab_get l 1 = some (.int x1)) (h2 : ab_get l 2 = some (.int x2)) (h3 : ab_get l 3 = some (.int x3)) (h4 : ab_get l 4 = some (.int x4)) (h5 : ab_get l 5 = some (.int x5)) (r : Int32 × cS) (e : f6_52 s x1 x2 x3 x4 x5 = some r), ab_Rn (d + 1) 6 52 l [] (ch s Z) (.inl (some (.int r.1))) (ch r.2 Z) := by
  intro s l x1 x2 x3 x4 x5 h0 h1 h2 h3 h4 h5 r e
  unfold f6_52 at e
  refine r_aload_n (pc := 52) p6 k6_52 h0 ?_
  refine r_iload_n (pc := 53) p6 k6_53 h1 ?_
  obtain ⟨r1, er1, e⟩ := of_bind e
  refine c_cv (i := 0) rfl (pc := 54) p6 k6_54 rfl p8 (r := []) rfl rfl rfl rfl rfl rfl (t8 s x1 r1 er1) (w := []) rfl ?_
  refine r_aload_n (pc := 57) p6 k6_57 h0 ?_
  refine r_iload_n (pc := 58) p6 k6_58 h2 ?_
  obtain ⟨r2, er2, e⟩ := of_bind e
  refine c_cv (i := 0) rfl (pc := 59) p6 k6_59 rfl p8 (r := []) rfl rfl rfl rfl rfl rfl (t8 r1 x2 r2 er2) (w := []) rfl ?_
  refine r_aload_n (pc := 62) p6 k6_62 h0 ?_
  refine r_iload_n (pc := 63) p6 k6_63 h3 ?_
  obtain ⟨r3, er3, e⟩ := of_bind e
  refine c_cv (i := 0) rfl (pc := 64) p6 k6_64 rfl p8 (r := []) rfl rfl rfl rfl rfl rfl (t8 r2 x3 r3 er3) (w := []) rfl ?_
  refine r_aload_n (pc := 67) p6 k6_67 h0 ?_
  refine r_iload (pc := 68) p6 k6_68 h4 ?_
  obtain ⟨r4, er4, e⟩ := of_bind e
  refine c_cv (i := 0) rfl (pc := 70) p6 k6_70 rfl p8 (r := []) rfl rfl rfl rfl rfl rfl (t8 r3 x4 r4 er4) (w := []) rfl ?_
  refine r_aload_n (pc := 73) p6 k6_73 h0 ?_
  refine r_iload (pc := 74) p6 k6_74 h5 ?_
  obtain ⟨r5, er5, e⟩ := of_bind e
  refine c_cv (i := 0) rfl (pc := 76) p6 k6_76 rfl p8 (r := []) rfl rfl rfl rfl rfl rfl (t8 r4 x5 r5 er5) (w := []) rfl ?_
  refine r_iconst (pc := 79) p6 k6_79 (v := (1 : Int32)) rfl ?_
  obtain rfl := Option.some.inj e
  exact r_retZ (pc := 80) p6 k6_80 rfl (Or.inr rfl)
def f6 (s : cS) (x1 : Int32) (x2 : Int32) (x3 : Int32) (x4 : Int32) (x5 : Int32) : Option (Int32 × cS) := (if ((s.1 0 1) + (20 : Int32)) ≤ (65536 : Int32) then if cA s 0 (s.2.1 0 0) then (if ((s.1 0 1) + (20 : Int32)) ≤ (Int32.ofNat (cl s (s.2.1 0 0))) then f6_52 s x1 x2 x3 x4 x5 else if cA s 0 (s.2.1 0 0) then ((f7 s (s.2.1 0 0) (if ((Int32.ofNat (cl s (s.2.1 0 0))) * (2 : Int32)) < (65536 : Int32) then ((Int32.ofNat (cl s (s.2.1 0 0))) * (2 : Int32)) else (65536 : Int32))).bind fun r1 => f6_52 (cr r1.2 0 0 r1.1) x1 x2 x3 x4 x5) else none) else none else some ((0 : Int32), s))
theorem t6 {d : Nat} {Z : Nat → ab_C} (s : cS) (x1 : Int32) (x2 : Int32) (x3 : Int32) (x4 : Int32) (x5 : Int32) (r : Int32 × cS) (e : f6 s x1 x2 x3 x4 x5 = some r) : ab_Rn (d + 1) 6 0 (lv_args 0 [.ref 0, .int x1, .int x2, .int x3, .int x4, .int x5]) [] (ch s Z) (.inl (some (.int r.1))) (ch r.2 Z) := by
  unfold f6 at e
  obtain ⟨l, hl⟩ : ∃ l, l = (lv_args 0 [.ref 0, .int x1, .int x2, .int x3, .int x4, .int x5]) := ⟨_, rfl⟩
  rw [← hl]
  have h0 : ab_get l 0 = some (.ref 0) := by rw [hl]; rfl
  have h1 : ab_get l 1 = some (.int x1) := by rw [hl]; rfl
  have h2 : ab_get l 2 = some (.int x2) := by rw [hl]; rfl
  have h3 : ab_get l 3 = some (.int x3) := by rw [hl]; rfl
  have h4 : ab_get l 4 = some (.int x4) := by rw [hl]; rfl
  have h5 : ab_get l 5 = some (.int x5) := by rw [hl]; rfl
  refine r_aload_n (pc := 0) p6 k6_0 h0 ?_
  refine c_get (i := 0) rfl (pc := 1) p6 k6_1 rfl rfl (v := .int (s.1 0 1)) rfl ?_
  refine r_bipush (pc := 4) p6 k6_4 (v := (20 : Int32)) rfl ?_
  refine r_iadd (pc := 6) p6 k6_6 ?_
  refine r_ldcI (pc := 7) p6 k6_7 (v := (65536 : Int32)) rfl ?_
  refine r_ic_le (pc := 9) p6 k6_9 (fun c => ?_) (fun c => ?_)
  · have e := (if_pos c).symm.trans e
    refine r_aload_n (pc := 14) p6 k6_14 h0 ?_
    refine c_get (i := 0) rfl (pc := 15) p6 k6_15 rfl rfl (v := .int (s.1 0 1)) rfl ?_
    refine r_bipush (pc := 18) p6 k6_18 (v := (20 : Int32)) rfl ?_
    refine r_iadd (pc := 20) p6 k6_20 ?_
    refine r_aload_n (pc := 21) p6 k6_21 h0 ?_
    refine c_get (i := 0) rfl (pc := 22) p6 k6_22 rfl rfl (v := .ref (s.2.1 0 0)) rfl ?_
    obtain ⟨c, e⟩ := of_if e
    refine c_alen (pc := 25) p6 k6_25 (t := 0) rfl c ?_
    refine r_ic_le (pc := 26) p6 k6_26 (fun c => ?_) (fun c => ?_)
    · have e := (if_pos c).symm.trans e
      exact t6_52 s l x1 x2 x3 x4 x5 h0 h1 h2 h3 h4 h5 r e
    · have e := (if_neg c).symm.trans e
      refine r_aload_n (pc := 29) p6 k6_29 h0 ?_
      refine r_aload_n (pc := 30) p6 k6_30 h0 ?_
      refine c_get (i := 0) rfl (pc := 31) p6 k6_31 rfl rfl (v := .ref (s.2.1 0 0)) rfl ?_
      refine r_ldcI (pc := 34) p6 k6_34 (v := (65536 : Int32)) rfl ?_
      refine r_aload_n (pc := 36) p6 k6_36 h0 ?_
      refine c_get (i := 0) rfl (pc := 37) p6 k6_37 rfl rfl (v := .ref (s.2.1 0 0)) rfl ?_
      obtain ⟨c, e⟩ := of_if e
      refine c_alen (pc := 40) p6 k6_40 (t := 0) rfl c ?_
      refine r_iconst (pc := 41) p6 k6_41 (v := (2 : Int32)) rfl ?_
      refine r_imul (pc := 42) p6 k6_42 ?_
      refine r_min (pc := 43) p6 k6_43 rfl ?_
      obtain ⟨r1, er1, e⟩ := of_bind e
      refine r_csv (pc := 46) p6 k6_46 rfl rfl p7 (r := [.ref 0]) rfl rfl rfl rfl (t7 s (s.2.1 0 0) (if ((Int32.ofNat (cl s (s.2.1 0 0))) * (2 : Int32)) < (65536 : Int32) then ((Int32.ofNat (cl s (s.2.1 0 0))) * (2 : Int32)) else (65536 : Int32)) r1 er1) (w := [.ref r1.1, .ref 0]) rfl ?_
      refine c_putR (i := 0) rfl (pc := 49) p6 k6_49 rfl rfl rfl (cc_r0 _ Z 0 _) (cs0_0 _ _) rfl rfl ?_
      exact t6_52 (cr r1.2 0 0 r1.1) l x1 x2 x3 x4 x5 h0 h1 h2 h3 h4 h5 r e
  · have e := (if_neg c).symm.trans e
    refine r_iconst (pc := 12) p6 k6_12 (v := (0 : Int32)) rfl ?_
    obtain rfl := Option.some.inj e
    exact r_retZ (pc := 13) p6 k6_13 rfl (Or.inl rfl)

theorem p9 : ab_prog[9]? = some (ab_m9, ab_c9) := rfl
theorem k9_0 : ab_fetch ab_c9 0 = some (.iload_n 1, 1, 0, 0) := rfl
theorem k9_1 : ab_fetch ab_c9 1 = some (.ifCond .lt 11, 3, 12, 0) := rfl
theorem k9_4 : ab_fetch ab_c9 4 = some (.iload_n 1, 1, 0, 0) := rfl
theorem k9_5 : ab_fetch ab_c9 5 = some (.aload_n 0, 1, 0, 0) := rfl
theorem k9_6 : ab_fetch ab_c9 6 = some (.getfield 37, 3, 5, 1) := rfl
theorem k9_9 : ab_fetch ab_c9 9 = some (.if_icmp .le 5, 3, 14, 0) := rfl
theorem k9_12 : ab_fetch ab_c9 12 = some (.iconst 0, 1, 0, 0) := rfl
theorem k9_13 : ab_fetch ab_c9 13 = some (.ireturn, 1, 0, 0) := rfl
theorem k9_14 : ab_fetch ab_c9 14 = some (.aload_n 0, 1, 0, 0) := rfl
theorem k9_15 : ab_fetch ab_c9 15 = some (.iload_n 1, 1, 0, 0) := rfl
theorem k9_16 : ab_fetch ab_c9 16 = some (.putfield 37, 3, 5, 1) := rfl
theorem k9_19 : ab_fetch ab_c9 19 = some (.iconst 1, 1, 0, 0) := rfl
theorem k9_20 : ab_fetch ab_c9 20 = some (.ireturn, 1, 0, 0) := rfl
/- CodeSmith end(I)Z -/
def f9 (s : cS) (x1 : Int32) : Int32 × cS := (if x1 < 0 then ((0 : Int32), s) else (if x1 ≤ (s.1 0 1) then ((1 : Int32), (cg s 0 1 x1)) else ((0 : Int32), s)))
theorem t9 {d : Nat} {Z : Nat → ab_C} (s : cS) (x1 : Int32) (r : Int32 × cS) (e : f9 s x1 = r) : ab_Rn d 9 0 (lv_args 0 [.ref 0, .int x1]) [] (ch s Z) (.inl (some (.int r.1))) (ch r.2 Z) := by
  unfold f9 at e
  obtain ⟨l, hl⟩ : ∃ l, l = (lv_args 0 [.ref 0, .int x1]) := ⟨_, rfl⟩
  rw [← hl]
  have h0 : ab_get l 0 = some (.ref 0) := by rw [hl]; rfl
  have h1 : ab_get l 1 = some (.int x1) := by rw [hl]; rfl
  refine r_iload_n (pc := 0) p9 k9_0 h1 ?_
  refine r_if_lt (pc := 1) p9 k9_1 (fun c => ?_) (fun c => ?_)
  · have e := (if_pos c).symm.trans e
    refine r_iconst (pc := 12) p9 k9_12 (v := (0 : Int32)) rfl ?_
    subst e
    exact r_retZ (pc := 13) p9 k9_13 rfl (Or.inl rfl)
  · have e := (if_neg c).symm.trans e
    refine r_iload_n (pc := 4) p9 k9_4 h1 ?_
    refine r_aload_n (pc := 5) p9 k9_5 h0 ?_
    refine c_get (i := 0) rfl (pc := 6) p9 k9_6 rfl rfl (v := .int (s.1 0 1)) rfl ?_
    refine r_ic_le (pc := 9) p9 k9_9 (fun c => ?_) (fun c => ?_)
    · have e := (if_pos c).symm.trans e
      refine r_aload_n (pc := 14) p9 k9_14 h0 ?_
      refine r_iload_n (pc := 15) p9 k9_15 h1 ?_
      refine c_put (i := 0) rfl (pc := 16) p9 k9_16 rfl rfl rfl (cc_g0 _ Z 1 _) (cs0_1 _ _) rfl rfl ?_
      refine r_iconst (pc := 19) p9 k9_19 (v := (1 : Int32)) rfl ?_
      subst e
      exact r_retZ (pc := 20) p9 k9_20 rfl (Or.inr rfl)
    · have e := (if_neg c).symm.trans e
      refine r_iconst (pc := 12) p9 k9_12 (v := (0 : Int32)) rfl ?_
      subst e
      exact r_retZ (pc := 13) p9 k9_13 rfl (Or.inl rfl)

theorem p10 : ab_prog[10]? = some (ab_m10, ab_c10) := rfl
theorem k10_0 : ab_fetch ab_c10 0 = some (.aload_n 0, 1, 0, 0) := rfl
theorem k10_1 : ab_fetch ab_c10 1 = some (.getfield 37, 3, 5, 1) := rfl
theorem k10_4 : ab_fetch ab_c10 4 = some (.ireturn, 1, 0, 0) := rfl
/- CodeSmith size()I -/
def f10 (s : cS) : Int32 := (s.1 0 1)
theorem t10 {d : Nat} {Z : Nat → ab_C} (s : cS) (r : Int32) (e : f10 s = r) : ab_Rn d 10 0 (lv_args 0 [.ref 0]) [] (ch s Z) (.inl (some (.int r))) (ch s Z) := by
  unfold f10 at e
  obtain ⟨l, hl⟩ : ∃ l, l = (lv_args 0 [.ref 0]) := ⟨_, rfl⟩
  rw [← hl]
  have h0 : ab_get l 0 = some (.ref 0) := by rw [hl]; rfl
  refine r_aload_n (pc := 0) p10 k10_0 h0 ?_
  refine c_get (i := 0) rfl (pc := 1) p10 k10_1 rfl rfl (v := .int (s.1 0 1)) rfl ?_
  subst e
  exact r_retI (pc := 4) p10 k10_4 rfl

theorem p11 : ab_prog[11]? = some (ab_m11, ab_c11) := rfl
theorem k11_0 : ab_fetch ab_c11 0 = some (.iload_n 1, 1, 0, 0) := rfl
theorem k11_1 : ab_fetch ab_c11 1 = some (.tableswitch 51 0 2 #[27, 35, 43], 27, 0, 0) := rfl
theorem k11_28 : ab_fetch ab_c11 28 = some (.aload_n 0, 1, 0, 0) := rfl
theorem k11_29 : ab_fetch ab_c11 29 = some (.getfield 19, 3, 5, 2) := rfl
theorem k11_32 : ab_fetch ab_c11 32 = some (.getfield 83, 3, 4, 0) := rfl
theorem k11_35 : ab_fetch ab_c11 35 = some (.ireturn, 1, 0, 0) := rfl
theorem k11_36 : ab_fetch ab_c11 36 = some (.aload_n 0, 1, 0, 0) := rfl
theorem k11_37 : ab_fetch ab_c11 37 = some (.getfield 19, 3, 5, 2) := rfl
theorem k11_40 : ab_fetch ab_c11 40 = some (.getfield 86, 3, 4, 1) := rfl
theorem k11_43 : ab_fetch ab_c11 43 = some (.ireturn, 1, 0, 0) := rfl
theorem k11_44 : ab_fetch ab_c11 44 = some (.aload_n 0, 1, 0, 0) := rfl
theorem k11_45 : ab_fetch ab_c11 45 = some (.getfield 19, 3, 5, 2) := rfl
theorem k11_48 : ab_fetch ab_c11 48 = some (.getfield 89, 3, 4, 2) := rfl
theorem k11_51 : ab_fetch ab_c11 51 = some (.ireturn, 1, 0, 0) := rfl
theorem k11_52 : ab_fetch ab_c11 52 = some (.iconst 0, 1, 0, 0) := rfl
theorem k11_53 : ab_fetch ab_c11 53 = some (.ireturn, 1, 0, 0) := rfl
/- CodeSmith error(I)I -/
def f11 (s : cS) (x1 : Int32) : Int32 := (if x1 = 0 then (s.1 11 0) else if x1 = 1 then (s.1 11 1) else if x1 = 2 then (s.1 11 2) else (0 : Int32))
theorem t11 {d : Nat} {Z : Nat → ab_C} (s : cS) (x1 : Int32) (r : Int32) (e : f11 s x1 = r) : ab_Rn d 11 0 (lv_args 0 [.ref 0, .int x1]) [] (ch s Z) (.inl (some (.int r))) (ch s Z) := by
  unfold f11 at e
  obtain ⟨l, hl⟩ : ∃ l, l = (lv_args 0 [.ref 0, .int x1]) := ⟨_, rfl⟩
  rw [← hl]
  have h0 : ab_get l 0 = some (.ref 0) := by rw [hl]; rfl
  have h1 : ab_get l 1 = some (.int x1) := by rw [hl]; rfl
  refine r_iload_n (pc := 0) p11 k11_0 h1 ?_
  by_cases c0 : x1 = 0
  · have e := (if_pos c0).symm.trans e
    refine r_sw (t := 28) (st' := []) (pc := 1) p11 k11_1 rfl rfl rfl (by rw [c0]; rfl) ?_
    refine r_aload_n (pc := 28) p11 k11_28 h0 ?_
    refine c_get (i := 0) rfl (pc := 29) p11 k11_29 rfl rfl (v := .ref 11) rfl ?_
    refine c_get (i := 11) rfl (pc := 32) p11 k11_32 rfl rfl (v := .int (s.1 11 0)) rfl ?_
    subst e
    exact r_retI (pc := 35) p11 k11_35 rfl
  have e := (if_neg c0).symm.trans e
  by_cases c1 : x1 = 1
  · have e := (if_pos c1).symm.trans e
    refine r_sw (t := 36) (st' := []) (pc := 1) p11 k11_1 rfl rfl rfl (by rw [c1]; rfl) ?_
    refine r_aload_n (pc := 36) p11 k11_36 h0 ?_
    refine c_get (i := 0) rfl (pc := 37) p11 k11_37 rfl rfl (v := .ref 11) rfl ?_
    refine c_get (i := 11) rfl (pc := 40) p11 k11_40 rfl rfl (v := .int (s.1 11 1)) rfl ?_
    subst e
    exact r_retI (pc := 43) p11 k11_43 rfl
  have e := (if_neg c1).symm.trans e
  by_cases c2 : x1 = 2
  · have e := (if_pos c2).symm.trans e
    refine r_sw (t := 44) (st' := []) (pc := 1) p11 k11_1 rfl rfl rfl (by rw [c2]; rfl) ?_
    refine r_aload_n (pc := 44) p11 k11_44 h0 ?_
    refine c_get (i := 0) rfl (pc := 45) p11 k11_45 rfl rfl (v := .ref 11) rfl ?_
    refine c_get (i := 11) rfl (pc := 48) p11 k11_48 rfl rfl (v := .int (s.1 11 2)) rfl ?_
    subst e
    exact r_retI (pc := 51) p11 k11_51 rfl
  have e := (if_neg c2).symm.trans e
  refine r_tswd (T := 52) (pc := 1) p11 k11_1 (by decide) (by decide) (by decide) (by
      intro k hk hx
      have hk : k < 3 := hk
      have hk : k = 0 ∨ k = 1 ∨ k = 2 := by omega
      rcases hk with rfl | rfl | rfl
      · exact absurd (Int32.toInt_inj.mp (hx.trans rfl)) c0
      · exact absurd (Int32.toInt_inj.mp (hx.trans rfl)) c1
      · exact absurd (Int32.toInt_inj.mp (hx.trans rfl)) c2) ?_
  refine r_iconst (pc := 52) p11 k11_52 (v := (0 : Int32)) rfl ?_
  subst e
  exact r_retI (pc := 53) p11 k11_53 rfl

theorem p13 : ab_prog[13]? = some (ab_m13, ab_c13) := rfl
theorem k13_0 : ab_fetch ab_c13 0 = some (.iload_n 1, 1, 0, 0) := rfl
theorem k13_1 : ab_fetch ab_c13 1 = some (.ifCond .lt 33, 3, 34, 0) := rfl
theorem k13_4 : ab_fetch ab_c13 4 = some (.iload_n 1, 1, 0, 0) := rfl
theorem k13_5 : ab_fetch ab_c13 5 = some (.aload_n 0, 1, 0, 0) := rfl
theorem k13_6 : ab_fetch ab_c13 6 = some (.getfield 26, 3, 2, 0) := rfl
theorem k13_9 : ab_fetch ab_c13 9 = some (.if_icmp .ge 25, 3, 34, 0) := rfl
theorem k13_12 : ab_fetch ab_c13 12 = some (.iload_n 1, 1, 0, 0) := rfl
theorem k13_13 : ab_fetch ab_c13 13 = some (.aload_n 0, 1, 0, 0) := rfl
theorem k13_14 : ab_fetch ab_c13 14 = some (.getfield 9, 3, 2, 4) := rfl
theorem k13_17 : ab_fetch ab_c13 17 = some (.arraylength, 1, 0, 0) := rfl
theorem k13_18 : ab_fetch ab_c13 18 = some (.if_icmp .ge 16, 3, 34, 0) := rfl
theorem k13_21 : ab_fetch ab_c13 21 = some (.aload_n 0, 1, 0, 0) := rfl
theorem k13_22 : ab_fetch ab_c13 22 = some (.getfield 9, 3, 2, 4) := rfl
theorem k13_25 : ab_fetch ab_c13 25 = some (.iload_n 1, 1, 0, 0) := rfl
theorem k13_26 : ab_fetch ab_c13 26 = some (.baload, 1, 0, 0) := rfl
theorem k13_27 : ab_fetch ab_c13 27 = some (.sipush 255, 3, 0, 0) := rfl
theorem k13_30 : ab_fetch ab_c13 30 = some (.iand, 1, 0, 0) := rfl
theorem k13_31 : ab_fetch ab_c13 31 = some (.goto 4, 3, 35, 0) := rfl
theorem k13_34 : ab_fetch ab_c13 34 = some (.iconst (-1), 1, 0, 0) := rfl
theorem k13_35 : ab_fetch ab_c13 35 = some (.ireturn, 1, 0, 0) := rfl
/- CodeSmith$Image byteAt(I)I -/
def f13 (x0 : Nat) (s : cS) (x1 : Int32) : Option Int32 := (if x1 < 0 then some (-1 : Int32) else (if (s.1 x0 0) ≤ x1 then some (-1 : Int32) else if cA s 0 (s.2.1 x0 4) then (if (Int32.ofNat (cl s (s.2.1 x0 4))) ≤ x1 then some (-1 : Int32) else if cB s 0 (s.2.1 x0 4) x1 then some ((ce s (s.2.1 x0 4) x1) &&& (255 : Int32)) else none) else none))
theorem t13 {d : Nat} {Z : Nat → ab_C} (x0 : Nat) (hq : cQ x0) (s : cS) (x1 : Int32) (r : Int32) (e : f13 x0 s x1 = some r) : ab_Rn d 13 0 (lv_args 0 [.ref x0, .int x1]) [] (ch s Z) (.inl (some (.int r))) (ch s Z) := by
  unfold f13 at e
  obtain ⟨l, hl⟩ : ∃ l, l = (lv_args 0 [.ref x0, .int x1]) := ⟨_, rfl⟩
  rw [← hl]
  have h0 : ab_get l 0 = some (.ref x0) := by rw [hl]; rfl
  have h1 : ab_get l 1 = some (.int x1) := by rw [hl]; rfl
  refine r_iload_n (pc := 0) p13 k13_0 h1 ?_
  refine r_if_lt (pc := 1) p13 k13_1 (fun c => ?_) (fun c => ?_)
  · have e := (if_pos c).symm.trans e
    refine r_iconst (pc := 34) p13 k13_34 (v := (-1 : Int32)) rfl ?_
    obtain rfl := Option.some.inj e
    exact r_retI (pc := 35) p13 k13_35 rfl
  · have e := (if_neg c).symm.trans e
    refine r_iload_n (pc := 4) p13 k13_4 h1 ?_
    refine r_aload_n (pc := 5) p13 k13_5 h0 ?_
    refine c_getI hq (pc := 6) p13 k13_6 (v := .int (s.1 x0 0)) rfl ?_
    refine r_ic_ge (pc := 9) p13 k13_9 (fun c => ?_) (fun c => ?_)
    · have e := (if_pos c).symm.trans e
      refine r_iconst (pc := 34) p13 k13_34 (v := (-1 : Int32)) rfl ?_
      obtain rfl := Option.some.inj e
      exact r_retI (pc := 35) p13 k13_35 rfl
    · have e := (if_neg c).symm.trans e
      refine r_iload_n (pc := 12) p13 k13_12 h1 ?_
      refine r_aload_n (pc := 13) p13 k13_13 h0 ?_
      refine c_getI hq (pc := 14) p13 k13_14 (v := .ref (s.2.1 x0 4)) rfl ?_
      obtain ⟨c, e⟩ := of_if e
      refine c_alen (pc := 17) p13 k13_17 (t := 0) rfl c ?_
      refine r_ic_ge (pc := 18) p13 k13_18 (fun c => ?_) (fun c => ?_)
      · have e := (if_pos c).symm.trans e
        refine r_iconst (pc := 34) p13 k13_34 (v := (-1 : Int32)) rfl ?_
        obtain rfl := Option.some.inj e
        exact r_retI (pc := 35) p13 k13_35 rfl
      · have e := (if_neg c).symm.trans e
        refine r_aload_n (pc := 21) p13 k13_21 h0 ?_
        refine c_getI hq (pc := 22) p13 k13_22 (v := .ref (s.2.1 x0 4)) rfl ?_
        refine r_iload_n (pc := 25) p13 k13_25 h1 ?_
        obtain ⟨c, e⟩ := of_if e
        refine c_bld (pc := 26) p13 k13_26 c ?_
        refine r_sipush (pc := 27) p13 k13_27 (v := (255 : Int32)) rfl ?_
        refine r_iand (pc := 30) p13 k13_30 ?_
        refine r_goto (pc := 31) p13 k13_31 ?_
        obtain rfl := Option.some.inj e
        exact r_retI (pc := 35) p13 k13_35 rfl

theorem p12 : ab_prog[12]? = some (ab_m12, ab_c12) := rfl
theorem k12_0 : ab_fetch ab_c12 0 = some (.aload_n 0, 1, 0, 0) := rfl
theorem k12_1 : ab_fetch ab_c12 1 = some (.getfield 33, 3, 5, 3) := rfl
theorem k12_4 : ab_fetch ab_c12 4 = some (.getfield 92, 3, 0, 0) := rfl
theorem k12_7 : ab_fetch ab_c12 7 = some (.iload_n 1, 1, 0, 0) := rfl
theorem k12_8 : ab_fetch ab_c12 8 = some (.invokevirtual 96, 3, 13, 1) := rfl
theorem k12_11 : ab_fetch ab_c12 11 = some (.ireturn, 1, 0, 0) := rfl
/- CodeSmith image(I)I -/
def f12 (s : cS) (x1 : Int32) : Option Int32 := if cQ (s.2.1 16 0) then ((f13 (s.2.1 16 0) s x1).bind fun r1 => some r1) else none
theorem t12 {d : Nat} {Z : Nat → ab_C} (s : cS) (x1 : Int32) (r : Int32) (e : f12 s x1 = some r) : ab_Rn (d + 1) 12 0 (lv_args 0 [.ref 0, .int x1]) [] (ch s Z) (.inl (some (.int r))) (ch s Z) := by
  unfold f12 at e
  obtain ⟨l, hl⟩ : ∃ l, l = (lv_args 0 [.ref 0, .int x1]) := ⟨_, rfl⟩
  rw [← hl]
  have h0 : ab_get l 0 = some (.ref 0) := by rw [hl]; rfl
  have h1 : ab_get l 1 = some (.int x1) := by rw [hl]; rfl
  refine r_aload_n (pc := 0) p12 k12_0 h0 ?_
  refine c_get (i := 0) rfl (pc := 1) p12 k12_1 rfl rfl (v := .ref 16) rfl ?_
  refine c_get (i := 16) rfl (pc := 4) p12 k12_4 rfl rfl (v := .ref (s.2.1 16 0)) rfl ?_
  refine r_iload_n (pc := 7) p12 k12_7 h1 ?_
  obtain ⟨c, e⟩ := of_if e
  obtain ⟨r1, er1, e⟩ := of_bind e
  refine c_cvI c (pc := 8) p12 k12_8 rfl p13 (r := []) rfl rfl rfl rfl rfl (t13 (s.2.1 16 0) c s x1 r1 er1) (w := [.int r1]) rfl ?_
  obtain rfl := Option.some.inj e
  exact r_retI (pc := 11) p12 k12_11 rfl

theorem p14 : ab_prog[14]? = some (ab_m14, ab_c14) := rfl
theorem k14_0 : ab_fetch ab_c14 0 = some (.iload_n 1, 1, 0, 0) := rfl
theorem k14_1 : ab_fetch ab_c14 1 = some (.tableswitch 75 0 3 #[31, 42, 53, 64], 31, 0, 0) := rfl
theorem k14_32 : ab_fetch ab_c14 32 = some (.aload_n 0, 1, 0, 0) := rfl
theorem k14_33 : ab_fetch ab_c14 33 = some (.getfield 33, 3, 5, 3) := rfl
theorem k14_36 : ab_fetch ab_c14 36 = some (.getfield 92, 3, 0, 0) := rfl
theorem k14_39 : ab_fetch ab_c14 39 = some (.getfield 102, 3, 2, 0) := rfl
theorem k14_42 : ab_fetch ab_c14 42 = some (.ireturn, 1, 0, 0) := rfl
theorem k14_43 : ab_fetch ab_c14 43 = some (.aload_n 0, 1, 0, 0) := rfl
theorem k14_44 : ab_fetch ab_c14 44 = some (.getfield 33, 3, 5, 3) := rfl
theorem k14_47 : ab_fetch ab_c14 47 = some (.getfield 92, 3, 0, 0) := rfl
theorem k14_50 : ab_fetch ab_c14 50 = some (.getfield 105, 3, 2, 1) := rfl
theorem k14_53 : ab_fetch ab_c14 53 = some (.ireturn, 1, 0, 0) := rfl
theorem k14_54 : ab_fetch ab_c14 54 = some (.aload_n 0, 1, 0, 0) := rfl
theorem k14_55 : ab_fetch ab_c14 55 = some (.getfield 33, 3, 5, 3) := rfl
theorem k14_58 : ab_fetch ab_c14 58 = some (.getfield 92, 3, 0, 0) := rfl
theorem k14_61 : ab_fetch ab_c14 61 = some (.getfield 108, 3, 2, 2) := rfl
theorem k14_64 : ab_fetch ab_c14 64 = some (.ireturn, 1, 0, 0) := rfl
theorem k14_65 : ab_fetch ab_c14 65 = some (.aload_n 0, 1, 0, 0) := rfl
theorem k14_66 : ab_fetch ab_c14 66 = some (.getfield 33, 3, 5, 3) := rfl
theorem k14_69 : ab_fetch ab_c14 69 = some (.getfield 92, 3, 0, 0) := rfl
theorem k14_72 : ab_fetch ab_c14 72 = some (.getfield 111, 3, 2, 3) := rfl
theorem k14_75 : ab_fetch ab_c14 75 = some (.ireturn, 1, 0, 0) := rfl
theorem k14_76 : ab_fetch ab_c14 76 = some (.iconst (-1), 1, 0, 0) := rfl
theorem k14_77 : ab_fetch ab_c14 77 = some (.ireturn, 1, 0, 0) := rfl
/- CodeSmith about(I)I -/
def f14 (s : cS) (x1 : Int32) : Option Int32 := (if x1 = 0 then if cQ (s.2.1 16 0) then some (s.1 (s.2.1 16 0) 0) else none else if x1 = 1 then if cQ (s.2.1 16 0) then some (s.1 (s.2.1 16 0) 1) else none else if x1 = 2 then if cQ (s.2.1 16 0) then some (s.1 (s.2.1 16 0) 2) else none else if x1 = 3 then if cQ (s.2.1 16 0) then some (s.1 (s.2.1 16 0) 3) else none else some (-1 : Int32))
theorem t14 {d : Nat} {Z : Nat → ab_C} (s : cS) (x1 : Int32) (r : Int32) (e : f14 s x1 = some r) : ab_Rn d 14 0 (lv_args 0 [.ref 0, .int x1]) [] (ch s Z) (.inl (some (.int r))) (ch s Z) := by
  unfold f14 at e
  obtain ⟨l, hl⟩ : ∃ l, l = (lv_args 0 [.ref 0, .int x1]) := ⟨_, rfl⟩
  rw [← hl]
  have h0 : ab_get l 0 = some (.ref 0) := by rw [hl]; rfl
  have h1 : ab_get l 1 = some (.int x1) := by rw [hl]; rfl
  refine r_iload_n (pc := 0) p14 k14_0 h1 ?_
  by_cases c0 : x1 = 0
  · have e := (if_pos c0).symm.trans e
    refine r_sw (t := 32) (st' := []) (pc := 1) p14 k14_1 rfl rfl rfl (by rw [c0]; rfl) ?_
    refine r_aload_n (pc := 32) p14 k14_32 h0 ?_
    refine c_get (i := 0) rfl (pc := 33) p14 k14_33 rfl rfl (v := .ref 16) rfl ?_
    refine c_get (i := 16) rfl (pc := 36) p14 k14_36 rfl rfl (v := .ref (s.2.1 16 0)) rfl ?_
    obtain ⟨c, e⟩ := of_if e
    refine c_getI c (pc := 39) p14 k14_39 (v := .int (s.1 (s.2.1 16 0) 0)) rfl ?_
    obtain rfl := Option.some.inj e
    exact r_retI (pc := 42) p14 k14_42 rfl
  have e := (if_neg c0).symm.trans e
  by_cases c1 : x1 = 1
  · have e := (if_pos c1).symm.trans e
    refine r_sw (t := 43) (st' := []) (pc := 1) p14 k14_1 rfl rfl rfl (by rw [c1]; rfl) ?_
    refine r_aload_n (pc := 43) p14 k14_43 h0 ?_
    refine c_get (i := 0) rfl (pc := 44) p14 k14_44 rfl rfl (v := .ref 16) rfl ?_
    refine c_get (i := 16) rfl (pc := 47) p14 k14_47 rfl rfl (v := .ref (s.2.1 16 0)) rfl ?_
    obtain ⟨c, e⟩ := of_if e
    refine c_getI c (pc := 50) p14 k14_50 (v := .int (s.1 (s.2.1 16 0) 1)) rfl ?_
    obtain rfl := Option.some.inj e
    exact r_retI (pc := 53) p14 k14_53 rfl
  have e := (if_neg c1).symm.trans e
  by_cases c2 : x1 = 2
  · have e := (if_pos c2).symm.trans e
    refine r_sw (t := 54) (st' := []) (pc := 1) p14 k14_1 rfl rfl rfl (by rw [c2]; rfl) ?_
    refine r_aload_n (pc := 54) p14 k14_54 h0 ?_
    refine c_get (i := 0) rfl (pc := 55) p14 k14_55 rfl rfl (v := .ref 16) rfl ?_
    refine c_get (i := 16) rfl (pc := 58) p14 k14_58 rfl rfl (v := .ref (s.2.1 16 0)) rfl ?_
    obtain ⟨c, e⟩ := of_if e
    refine c_getI c (pc := 61) p14 k14_61 (v := .int (s.1 (s.2.1 16 0) 2)) rfl ?_
    obtain rfl := Option.some.inj e
    exact r_retI (pc := 64) p14 k14_64 rfl
  have e := (if_neg c2).symm.trans e
  by_cases c3 : x1 = 3
  · have e := (if_pos c3).symm.trans e
    refine r_sw (t := 65) (st' := []) (pc := 1) p14 k14_1 rfl rfl rfl (by rw [c3]; rfl) ?_
    refine r_aload_n (pc := 65) p14 k14_65 h0 ?_
    refine c_get (i := 0) rfl (pc := 66) p14 k14_66 rfl rfl (v := .ref 16) rfl ?_
    refine c_get (i := 16) rfl (pc := 69) p14 k14_69 rfl rfl (v := .ref (s.2.1 16 0)) rfl ?_
    obtain ⟨c, e⟩ := of_if e
    refine c_getI c (pc := 72) p14 k14_72 (v := .int (s.1 (s.2.1 16 0) 3)) rfl ?_
    obtain rfl := Option.some.inj e
    exact r_retI (pc := 75) p14 k14_75 rfl
  have e := (if_neg c3).symm.trans e
  refine r_tswd (T := 76) (pc := 1) p14 k14_1 (by decide) (by decide) (by decide) (by
      intro k hk hx
      have hk : k < 4 := hk
      have hk : k = 0 ∨ k = 1 ∨ k = 2 ∨ k = 3 := by omega
      rcases hk with rfl | rfl | rfl | rfl
      · exact absurd (Int32.toInt_inj.mp (hx.trans rfl)) c0
      · exact absurd (Int32.toInt_inj.mp (hx.trans rfl)) c1
      · exact absurd (Int32.toInt_inj.mp (hx.trans rfl)) c2
      · exact absurd (Int32.toInt_inj.mp (hx.trans rfl)) c3) ?_
  refine r_iconst (pc := 76) p14 k14_76 (v := (-1 : Int32)) rfl ?_
  obtain rfl := Option.some.inj e
  exact r_retI (pc := 77) p14 k14_77 rfl

theorem p17 : ab_prog[17]? = some (ab_m17, ab_c17) := rfl
theorem k17_0 : ab_fetch ab_c17 0 = some (.aload_n 0, 1, 0, 0) := rfl
theorem k17_1 : ab_fetch ab_c17 1 = some (.iconst 0, 1, 0, 0) := rfl
theorem k17_2 : ab_fetch ab_c17 2 = some (.putfield 47, 3, 4, 6) := rfl
theorem k17_5 : ab_fetch ab_c17 5 = some (.aload_n 0, 1, 0, 0) := rfl
theorem k17_6 : ab_fetch ab_c17 6 = some (.iconst (-1), 1, 0, 0) := rfl
theorem k17_7 : ab_fetch ab_c17 7 = some (.putfield 50, 3, 4, 10) := rfl
theorem k17_10 : ab_fetch ab_c17 10 = some (.return_, 1, 0, 0) := rfl
/- CodeSmith$Tokens rewind()V -/
def f17 (s : cS) : cS := (cg (cg s 11 6 (0 : Int32)) 11 10 (-1 : Int32))
theorem t17 {d : Nat} {Z : Nat → ab_C} (s : cS) (r : cS) (e : f17 s = r) : ab_Rn d 17 0 (lv_args 0 [.ref 11]) [] (ch s Z) (.inl none) (ch r Z) := by
  unfold f17 at e
  obtain ⟨l, hl⟩ : ∃ l, l = (lv_args 0 [.ref 11]) := ⟨_, rfl⟩
  rw [← hl]
  have h0 : ab_get l 0 = some (.ref 11) := by rw [hl]; rfl
  refine r_aload_n (pc := 0) p17 k17_0 h0 ?_
  refine r_iconst (pc := 1) p17 k17_1 (v := (0 : Int32)) rfl ?_
  refine c_put (i := 11) rfl (pc := 2) p17 k17_2 rfl rfl rfl (cc_g11 _ Z 6 _) (cs11_6 _ _) rfl rfl ?_
  refine r_aload_n (pc := 5) p17 k17_5 h0 ?_
  refine r_iconst (pc := 6) p17 k17_6 (v := (-1 : Int32)) rfl ?_
  refine c_put (i := 11) rfl (pc := 7) p17 k17_7 rfl rfl rfl (cc_g11 _ Z 10 _) (cs11_10 _ _) rfl rfl ?_
  subst e
  exact r_retV (pc := 10) p17 k17_10 rfl

theorem p16 : ab_prog[16]? = some (ab_m16, ab_c16) := rfl
theorem k16_0 : ab_fetch ab_c16 0 = some (.aload_n 0, 1, 0, 0) := rfl
theorem k16_1 : ab_fetch ab_c16 1 = some (.aload_n 1, 1, 0, 0) := rfl
theorem k16_2 : ab_fetch ab_c16 2 = some (.putfield 9, 3, 4, 7) := rfl
theorem k16_5 : ab_fetch ab_c16 5 = some (.aload_n 0, 1, 0, 0) := rfl
theorem k16_6 : ab_fetch ab_c16 6 = some (.iload_n 2, 1, 0, 0) := rfl
theorem k16_7 : ab_fetch ab_c16 7 = some (.aload_n 1, 1, 0, 0) := rfl
theorem k16_8 : ab_fetch ab_c16 8 = some (.arraylength, 1, 0, 0) := rfl
theorem k16_9 : ab_fetch ab_c16 9 = some (.invokestatic 25, 3, 997, 2) := rfl
theorem k16_12 : ab_fetch ab_c16 12 = some (.putfield 31, 3, 4, 8) := rfl
theorem k16_15 : ab_fetch ab_c16 15 = some (.aload_n 0, 1, 0, 0) := rfl
theorem k16_16 : ab_fetch ab_c16 16 = some (.iconst 0, 1, 0, 0) := rfl
theorem k16_17 : ab_fetch ab_c16 17 = some (.putfield 35, 3, 4, 0) := rfl
theorem k16_20 : ab_fetch ab_c16 20 = some (.aload_n 0, 1, 0, 0) := rfl
theorem k16_21 : ab_fetch ab_c16 21 = some (.iconst 0, 1, 0, 0) := rfl
theorem k16_22 : ab_fetch ab_c16 22 = some (.putfield 38, 3, 4, 1) := rfl
theorem k16_25 : ab_fetch ab_c16 25 = some (.aload_n 0, 1, 0, 0) := rfl
theorem k16_26 : ab_fetch ab_c16 26 = some (.iconst 0, 1, 0, 0) := rfl
theorem k16_27 : ab_fetch ab_c16 27 = some (.putfield 41, 3, 4, 2) := rfl
theorem k16_30 : ab_fetch ab_c16 30 = some (.aload_n 0, 1, 0, 0) := rfl
theorem k16_31 : ab_fetch ab_c16 31 = some (.invokevirtual 44, 3, 17, 0) := rfl
theorem k16_34 : ab_fetch ab_c16 34 = some (.return_, 1, 0, 0) := rfl
/- CodeSmith$Tokens open([BI)V -/
def f16 (s : cS) (x1 : Nat) (x2 : Int32) : Option cS := if cA (cr s 11 7 x1) 0 x1 then some (f17 (cg (cg (cg (cg (cr s 11 7 x1) 11 8 (if (Int32.ofNat (cl (cr s 11 7 x1) x1)) < x2 then (Int32.ofNat (cl (cr s 11 7 x1) x1)) else x2)) 11 0 (0 : Int32)) 11 1 (0 : Int32)) 11 2 (0 : Int32))) else none
theorem t16 {d : Nat} {Z : Nat → ab_C} (s : cS) (x1 : Nat) (x2 : Int32) (r : cS) (e : f16 s x1 x2 = some r) : ab_Rn (d + 1) 16 0 (lv_args 0 [.ref 11, .ref x1, .int x2]) [] (ch s Z) (.inl none) (ch r Z) := by
  unfold f16 at e
  obtain ⟨l, hl⟩ : ∃ l, l = (lv_args 0 [.ref 11, .ref x1, .int x2]) := ⟨_, rfl⟩
  rw [← hl]
  have h0 : ab_get l 0 = some (.ref 11) := by rw [hl]; rfl
  have h1 : ab_get l 1 = some (.ref x1) := by rw [hl]; rfl
  have h2 : ab_get l 2 = some (.int x2) := by rw [hl]; rfl
  refine r_aload_n (pc := 0) p16 k16_0 h0 ?_
  refine r_aload_n (pc := 1) p16 k16_1 h1 ?_
  refine c_putR (i := 11) rfl (pc := 2) p16 k16_2 rfl rfl rfl (cc_r11 _ Z 7 _) (cs11_7 _ _) rfl rfl ?_
  refine r_aload_n (pc := 5) p16 k16_5 h0 ?_
  refine r_iload_n (pc := 6) p16 k16_6 h2 ?_
  refine r_aload_n (pc := 7) p16 k16_7 h1 ?_
  obtain ⟨c, e⟩ := of_if e
  refine c_alen (pc := 8) p16 k16_8 (t := 0) rfl c ?_
  refine r_min (pc := 9) p16 k16_9 rfl ?_
  refine c_put (i := 11) rfl (pc := 12) p16 k16_12 rfl rfl rfl (cc_g11 _ Z 8 _) (cs11_8 _ _) rfl rfl ?_
  refine r_aload_n (pc := 15) p16 k16_15 h0 ?_
  refine r_iconst (pc := 16) p16 k16_16 (v := (0 : Int32)) rfl ?_
  refine c_put (i := 11) rfl (pc := 17) p16 k16_17 rfl rfl rfl (cc_g11 _ Z 0 _) (cs11_0 _ _) rfl rfl ?_
  refine r_aload_n (pc := 20) p16 k16_20 h0 ?_
  refine r_iconst (pc := 21) p16 k16_21 (v := (0 : Int32)) rfl ?_
  refine c_put (i := 11) rfl (pc := 22) p16 k16_22 rfl rfl rfl (cc_g11 _ Z 1 _) (cs11_1 _ _) rfl rfl ?_
  refine r_aload_n (pc := 25) p16 k16_25 h0 ?_
  refine r_iconst (pc := 26) p16 k16_26 (v := (0 : Int32)) rfl ?_
  refine c_put (i := 11) rfl (pc := 27) p16 k16_27 rfl rfl rfl (cc_g11 _ Z 2 _) (cs11_2 _ _) rfl rfl ?_
  refine r_aload_n (pc := 30) p16 k16_30 h0 ?_
  refine c_cv (i := 11) rfl (pc := 31) p16 k16_31 rfl p17 (r := []) rfl rfl rfl rfl rfl rfl (t17 (cg (cg (cg (cg (cr s 11 7 x1) 11 8 (if (Int32.ofNat (cl (cr s 11 7 x1) x1)) < x2 then (Int32.ofNat (cl (cr s 11 7 x1) x1)) else x2)) 11 0 (0 : Int32)) 11 1 (0 : Int32)) 11 2 (0 : Int32)) _ rfl) (w := []) rfl ?_
  obtain rfl := Option.some.inj e
  exact r_retV (pc := 34) p16 k16_34 rfl

theorem p20 : ab_prog[20]? = some (ab_m20, ab_c20) := rfl
theorem k20_0 : ab_fetch ab_c20 0 = some (.iconst 0, 1, 0, 0) := rfl
theorem k20_1 : ab_fetch ab_c20 1 = some (.istore_n 2, 1, 0, 0) := rfl
theorem k20_2 : ab_fetch ab_c20 2 = some (.aload_n 0, 1, 0, 0) := rfl
theorem k20_3 : ab_fetch ab_c20 3 = some (.arraylength, 1, 0, 0) := rfl
theorem k20_4 : ab_fetch ab_c20 4 = some (.istore_n 3, 1, 0, 0) := rfl
theorem k20_5 : ab_fetch ab_c20 5 = some (.iload_n 2, 1, 0, 0) := rfl
theorem k20_6 : ab_fetch ab_c20 6 = some (.iload_n 3, 1, 0, 0) := rfl
theorem k20_7 : ab_fetch ab_c20 7 = some (.if_icmp .ge 13, 3, 20, 0) := rfl
theorem k20_10 : ab_fetch ab_c20 10 = some (.aload_n 0, 1, 0, 0) := rfl
theorem k20_11 : ab_fetch ab_c20 11 = some (.iload_n 2, 1, 0, 0) := rfl
theorem k20_12 : ab_fetch ab_c20 12 = some (.iload_n 1, 1, 0, 0) := rfl
theorem k20_13 : ab_fetch ab_c20 13 = some (.iastore, 1, 0, 0) := rfl
theorem k20_14 : ab_fetch ab_c20 14 = some (.iinc 2 1, 3, 0, 0) := rfl
theorem k20_17 : ab_fetch ab_c20 17 = some (.goto (-12), 3, 5, 0) := rfl
theorem k20_20 : ab_fetch ab_c20 20 = some (.return_, 1, 0, 0) := rfl
/- java/util/Arrays fill([II)V -/
def f20_5 : Nat → cS → Nat → Int32 → Int32 → Int32 → Option cS
  | 0, _, _, _, _, _ => none
  | u + 1, s, x0, x1, x2, x3 => (if x3 ≤ x2 then some s else if cB s 1 x0 x2 then f20_5 u (cw s x0 x2 x1) x0 x1 (x2 + (1 : Int32)) x3 else none)
theorem t20_5 {d : Nat} {Z : Nat → ab_C} : ∀ u : Nat, ∀ (s : cS) (l : ab_L) (x0 : Nat) (x1 : Int32) (x2 : Int32) (x3 : Int32) (h0 : ab_get l 0 = some (.ref x0)) (h1 : ab_get l 1 = some (.int x1)) (h2 : ab_get l 2 = some (.int x2)) (h3 : ab_get l 3 = some (.int x3)) (r : cS) (e : f20_5 u s x0 x1 x2 x3 = some r), ab_Rn d 20 5 l [] (ch s Z) (.inl none) (ch r Z) := by
  intro u
  induction u with
  | zero => intro s l x0 x1 x2 x3 h0 h1 h2 h3 r e; rw [f20_5] at e; cases e
  | succ u ih =>
    intro s l x0 x1 x2 x3 h0 h1 h2 h3 r e
    rw [f20_5] at e
    refine r_iload_n (pc := 5) p20 k20_5 h2 ?_
    refine r_iload_n (pc := 6) p20 k20_6 h3 ?_
    refine r_ic_ge (pc := 7) p20 k20_7 (fun c => ?_) (fun c => ?_)
    · have e := (if_pos c).symm.trans e
      obtain rfl := Option.some.inj e
      exact r_retV (pc := 20) p20 k20_20 rfl
    · have e := (if_neg c).symm.trans e
      refine r_aload_n (pc := 10) p20 k20_10 h0 ?_
      refine r_iload_n (pc := 11) p20 k20_11 h2 ?_
      refine r_iload_n (pc := 12) p20 k20_12 h1 ?_
      obtain ⟨c, e⟩ := of_if e
      refine c_ist (pc := 13) p20 k20_13 c ?_
      refine r_iinc (pc := 14) p20 k20_14 h2 (by decide) (v := (x2 + (1 : Int32))) rfl (fun l g h2 => ?_)
      have h0 := g 0 _ (by decide) h0 (Or.inl rfl)
      have h1 := g 1 _ (by decide) h1 (Or.inl rfl)
      have h3 := g 3 _ (by decide) h3 (Or.inl rfl)
      refine r_goto (pc := 17) p20 k20_17 ?_
      exact ih (cw s x0 x2 x1) l x0 x1 (x2 + (1 : Int32)) x3 h0 h1 h2 h3 r e
def f20 (s : cS) (x0 : Nat) (x1 : Int32) : Option cS := if cA s 1 x0 then f20_5 mm_U s x0 x1 (0 : Int32) (Int32.ofNat (cl s x0)) else none
theorem t20 {d : Nat} {Z : Nat → ab_C} (s : cS) (x0 : Nat) (x1 : Int32) (r : cS) (e : f20 s x0 x1 = some r) : ab_Rn d 20 0 (lv_args 0 [.ref x0, .int x1]) [] (ch s Z) (.inl none) (ch r Z) := by
  unfold f20 at e
  obtain ⟨l, hl⟩ : ∃ l, l = (lv_args 0 [.ref x0, .int x1]) := ⟨_, rfl⟩
  rw [← hl]
  have h0 : ab_get l 0 = some (.ref x0) := by rw [hl]; rfl
  have h1 : ab_get l 1 = some (.int x1) := by rw [hl]; rfl
  refine r_iconst (pc := 0) p20 k20_0 (v := (0 : Int32)) rfl ?_
  refine r_istore_n (pc := 1) p20 k20_1 (by decide) (fun l g h2 => ?_)
  have h0 := g 0 _ (by decide) h0 (Or.inl rfl)
  have h1 := g 1 _ (by decide) h1 (Or.inl rfl)
  refine r_aload_n (pc := 2) p20 k20_2 h0 ?_
  obtain ⟨c, e⟩ := of_if e
  refine c_alen (pc := 3) p20 k20_3 (t := 1) rfl c ?_
  refine r_istore_n (pc := 4) p20 k20_4 (by decide) (fun l g h3 => ?_)
  have h0 := g 0 _ (by decide) h0 (Or.inl rfl)
  have h1 := g 1 _ (by decide) h1 (Or.inl rfl)
  have h2 := g 2 _ (by decide) h2 (Or.inl rfl)
  exact t20_5 mm_U s l x0 x1 (0 : Int32) (Int32.ofNat (cl s x0)) h0 h1 h2 h3 r e

theorem p19 : ab_prog[19]? = some (ab_m19, ab_c19) := rfl
theorem k19_0 : ab_fetch ab_c19 0 = some (.aload_n 0, 1, 0, 0) := rfl
theorem k19_1 : ab_fetch ab_c19 1 = some (.aload_n 1, 1, 0, 0) := rfl
theorem k19_2 : ab_fetch ab_c19 2 = some (.putfield 9, 3, 3, 1) := rfl
theorem k19_5 : ab_fetch ab_c19 5 = some (.aload_n 0, 1, 0, 0) := rfl
theorem k19_6 : ab_fetch ab_c19 6 = some (.iconst 0, 1, 0, 0) := rfl
theorem k19_7 : ab_fetch ab_c19 7 = some (.putfield 37, 3, 3, 0) := rfl
theorem k19_10 : ab_fetch ab_c19 10 = some (.aload_n 0, 1, 0, 0) := rfl
theorem k19_11 : ab_fetch ab_c19 11 = some (.getfield 15, 3, 3, 2) := rfl
theorem k19_14 : ab_fetch ab_c19 14 = some (.iconst (-1), 1, 0, 0) := rfl
theorem k19_15 : ab_fetch ab_c19 15 = some (.invokestatic 41, 3, 20, 2) := rfl
theorem k19_18 : ab_fetch ab_c19 18 = some (.return_, 1, 0, 0) := rfl
/- CodeSmith$Symbols clear([B)V -/
def f19 (s : cS) (x1 : Nat) : Option cS := ((f20 (cg (cr s 2 1 x1) 2 0 (0 : Int32)) (s.2.1 2 2) (-1 : Int32)).bind fun r1 => some r1)
theorem t19 {d : Nat} {Z : Nat → ab_C} (s : cS) (x1 : Nat) (r : cS) (e : f19 s x1 = some r) : ab_Rn (d + 1) 19 0 (lv_args 0 [.ref 2, .ref x1]) [] (ch s Z) (.inl none) (ch r Z) := by
  unfold f19 at e
  obtain ⟨l, hl⟩ : ∃ l, l = (lv_args 0 [.ref 2, .ref x1]) := ⟨_, rfl⟩
  rw [← hl]
  have h0 : ab_get l 0 = some (.ref 2) := by rw [hl]; rfl
  have h1 : ab_get l 1 = some (.ref x1) := by rw [hl]; rfl
  refine r_aload_n (pc := 0) p19 k19_0 h0 ?_
  refine r_aload_n (pc := 1) p19 k19_1 h1 ?_
  refine c_putR (i := 2) rfl (pc := 2) p19 k19_2 rfl rfl rfl (cc_r2 _ Z 1 _) (cs2_1 _ _) rfl rfl ?_
  refine r_aload_n (pc := 5) p19 k19_5 h0 ?_
  refine r_iconst (pc := 6) p19 k19_6 (v := (0 : Int32)) rfl ?_
  refine c_put (i := 2) rfl (pc := 7) p19 k19_7 rfl rfl rfl (cc_g2 _ Z 0 _) (cs2_0 _ _) rfl rfl ?_
  refine r_aload_n (pc := 10) p19 k19_10 h0 ?_
  refine c_get (i := 2) rfl (pc := 11) p19 k19_11 rfl rfl (v := .ref (s.2.1 2 2)) rfl ?_
  refine r_iconst (pc := 14) p19 k19_14 (v := (-1 : Int32)) rfl ?_
  obtain ⟨r1, er1, e⟩ := of_bind e
  refine r_csv (pc := 15) p19 k19_15 rfl rfl p20 (r := []) rfl rfl rfl rfl (t20 (cg (cr s 2 1 x1) 2 0 (0 : Int32)) (s.2.1 2 2) (-1 : Int32) r1 er1) (w := []) rfl ?_
  obtain rfl := Option.some.inj e
  exact r_retV (pc := 18) p19 k19_18 rfl

theorem p21 : ab_prog[21]? = some (ab_m21, ab_c21) := rfl
theorem k21_0 : ab_fetch ab_c21 0 = some (.aload_n 0, 1, 0, 0) := rfl
theorem k21_1 : ab_fetch ab_c21 1 = some (.iconst 0, 1, 0, 0) := rfl
theorem k21_2 : ab_fetch ab_c21 2 = some (.putfield 147, 3, 0, 6) := rfl
theorem k21_5 : ab_fetch ab_c21 5 = some (.aload_n 0, 1, 0, 0) := rfl
theorem k21_6 : ab_fetch ab_c21 6 = some (.iconst 0, 1, 0, 0) := rfl
theorem k21_7 : ab_fetch ab_c21 7 = some (.putfield 55, 3, 0, 7) := rfl
theorem k21_10 : ab_fetch ab_c21 10 = some (.aload_n 0, 1, 0, 0) := rfl
theorem k21_11 : ab_fetch ab_c21 11 = some (.iconst 0, 1, 0, 0) := rfl
theorem k21_12 : ab_fetch ab_c21 12 = some (.putfield 58, 3, 0, 8) := rfl
theorem k21_15 : ab_fetch ab_c21 15 = some (.return_, 1, 0, 0) := rfl
/- CodeSmith$Assembler toSectionsBegin()V -/
def f21 (s : cS) : cS := (cg (cg (cg s 16 6 (0 : Int32)) 16 7 (0 : Int32)) 16 8 (0 : Int32))
theorem t21 {d : Nat} {Z : Nat → ab_C} (s : cS) (r : cS) (e : f21 s = r) : ab_Rn d 21 0 (lv_args 0 [.ref 16]) [] (ch s Z) (.inl none) (ch r Z) := by
  unfold f21 at e
  obtain ⟨l, hl⟩ : ∃ l, l = (lv_args 0 [.ref 16]) := ⟨_, rfl⟩
  rw [← hl]
  have h0 : ab_get l 0 = some (.ref 16) := by rw [hl]; rfl
  refine r_aload_n (pc := 0) p21 k21_0 h0 ?_
  refine r_iconst (pc := 1) p21 k21_1 (v := (0 : Int32)) rfl ?_
  refine c_put (i := 16) rfl (pc := 2) p21 k21_2 rfl rfl rfl (cc_g16 _ Z 6 _) (cs16_6 _ _) rfl rfl ?_
  refine r_aload_n (pc := 5) p21 k21_5 h0 ?_
  refine r_iconst (pc := 6) p21 k21_6 (v := (0 : Int32)) rfl ?_
  refine c_put (i := 16) rfl (pc := 7) p21 k21_7 rfl rfl rfl (cc_g16 _ Z 7 _) (cs16_7 _ _) rfl rfl ?_
  refine r_aload_n (pc := 10) p21 k21_10 h0 ?_
  refine r_iconst (pc := 11) p21 k21_11 (v := (0 : Int32)) rfl ?_
  refine c_put (i := 16) rfl (pc := 12) p21 k21_12 rfl rfl rfl (cc_g16 _ Z 8 _) (cs16_8 _ _) rfl rfl ?_
  subst e
  exact r_retV (pc := 15) p21 k21_15 rfl

theorem p18 : ab_prog[18]? = some (ab_m18, ab_c18) := rfl
theorem k18_0 : ab_fetch ab_c18 0 = some (.aload_n 0, 1, 0, 0) := rfl
theorem k18_1 : ab_fetch ab_c18 1 = some (.getfield 25, 3, 0, 3) := rfl
theorem k18_4 : ab_fetch ab_c18 4 = some (.aload_n 1, 1, 0, 0) := rfl
theorem k18_5 : ab_fetch ab_c18 5 = some (.invokevirtual 33, 3, 19, 1) := rfl
theorem k18_8 : ab_fetch ab_c18 8 = some (.aload_n 0, 1, 0, 0) := rfl
theorem k18_9 : ab_fetch ab_c18 9 = some (.iconst (-1), 1, 0, 0) := rfl
theorem k18_10 : ab_fetch ab_c18 10 = some (.putfield 39, 3, 0, 9) := rfl
theorem k18_13 : ab_fetch ab_c18 13 = some (.aload_n 0, 1, 0, 0) := rfl
theorem k18_14 : ab_fetch ab_c18 14 = some (.iconst 0, 1, 0, 0) := rfl
theorem k18_15 : ab_fetch ab_c18 15 = some (.putfield 43, 3, 0, 5) := rfl
theorem k18_18 : ab_fetch ab_c18 18 = some (.aload_n 0, 1, 0, 0) := rfl
theorem k18_19 : ab_fetch ab_c18 19 = some (.getfield 29, 3, 0, 4) := rfl
theorem k18_22 : ab_fetch ab_c18 22 = some (.iconst 0, 1, 0, 0) := rfl
theorem k18_23 : ab_fetch ab_c18 23 = some (.putfield 47, 3, 1, 2) := rfl
theorem k18_26 : ab_fetch ab_c18 26 = some (.aload_n 0, 1, 0, 0) := rfl
theorem k18_27 : ab_fetch ab_c18 27 = some (.invokevirtual 52, 3, 21, 0) := rfl
theorem k18_30 : ab_fetch ab_c18 30 = some (.return_, 1, 0, 0) := rfl
/- CodeSmith$Assembler begin([B)V -/
def f18 (s : cS) (x1 : Nat) : Option cS := ((f19 s x1).bind fun r1 => some (f21 (cg (cg (cg r1 16 9 (-1 : Int32)) 16 5 (0 : Int32)) 17 2 (0 : Int32))))
theorem t18 {d : Nat} {Z : Nat → ab_C} (s : cS) (x1 : Nat) (r : cS) (e : f18 s x1 = some r) : ab_Rn (d + 2) 18 0 (lv_args 0 [.ref 16, .ref x1]) [] (ch s Z) (.inl none) (ch r Z) := by
  unfold f18 at e
  obtain ⟨l, hl⟩ : ∃ l, l = (lv_args 0 [.ref 16, .ref x1]) := ⟨_, rfl⟩
  rw [← hl]
  have h0 : ab_get l 0 = some (.ref 16) := by rw [hl]; rfl
  have h1 : ab_get l 1 = some (.ref x1) := by rw [hl]; rfl
  refine r_aload_n (pc := 0) p18 k18_0 h0 ?_
  refine c_get (i := 16) rfl (pc := 1) p18 k18_1 rfl rfl (v := .ref 2) rfl ?_
  refine r_aload_n (pc := 4) p18 k18_4 h1 ?_
  obtain ⟨r1, er1, e⟩ := of_bind e
  refine c_cv (i := 2) rfl (pc := 5) p18 k18_5 rfl p19 (r := []) rfl rfl rfl rfl rfl rfl (t19 s x1 r1 er1) (w := []) rfl ?_
  refine r_aload_n (pc := 8) p18 k18_8 h0 ?_
  refine r_iconst (pc := 9) p18 k18_9 (v := (-1 : Int32)) rfl ?_
  refine c_put (i := 16) rfl (pc := 10) p18 k18_10 rfl rfl rfl (cc_g16 _ Z 9 _) (cs16_9 _ _) rfl rfl ?_
  refine r_aload_n (pc := 13) p18 k18_13 h0 ?_
  refine r_iconst (pc := 14) p18 k18_14 (v := (0 : Int32)) rfl ?_
  refine c_put (i := 16) rfl (pc := 15) p18 k18_15 rfl rfl rfl (cc_g16 _ Z 5 _) (cs16_5 _ _) rfl rfl ?_
  refine r_aload_n (pc := 18) p18 k18_18 h0 ?_
  refine c_get (i := 16) rfl (pc := 19) p18 k18_19 rfl rfl (v := .ref 17) rfl ?_
  refine r_iconst (pc := 22) p18 k18_22 (v := (0 : Int32)) rfl ?_
  refine c_put (i := 17) rfl (pc := 23) p18 k18_23 rfl rfl rfl (cc_g17 _ Z 2 _) (cs17_2 _ _) rfl rfl ?_
  refine r_aload_n (pc := 26) p18 k18_26 h0 ?_
  refine c_cv (i := 16) rfl (pc := 27) p18 k18_27 rfl p21 (r := []) rfl rfl rfl rfl rfl rfl (t21 (cg (cg (cg r1 16 9 (-1 : Int32)) 16 5 (0 : Int32)) 17 2 (0 : Int32)) _ rfl) (w := []) rfl ?_
  obtain rfl := Option.some.inj e
  exact r_retV (pc := 30) p18 k18_30 rfl

theorem p24 : ab_prog[24]? = some (ab_m24, ab_c24) := rfl
theorem k24_0 : ab_fetch ab_c24 0 = some (.iload_n 1, 1, 0, 0) := rfl
theorem k24_1 : ab_fetch ab_c24 1 = some (.aload_n 0, 1, 0, 0) := rfl
theorem k24_2 : ab_fetch ab_c24 2 = some (.getfield 15, 3, 4, 11) := rfl
theorem k24_5 : ab_fetch ab_c24 5 = some (.arraylength, 1, 0, 0) := rfl
theorem k24_6 : ab_fetch ab_c24 6 = some (.if_icmp .le 36, 3, 42, 0) := rfl
theorem k24_9 : ab_fetch ab_c24 9 = some (.iload_n 1, 1, 0, 0) := rfl
theorem k24_10 : ab_fetch ab_c24 10 = some (.aload_n 0, 1, 0, 0) := rfl
theorem k24_11 : ab_fetch ab_c24 11 = some (.getfield 15, 3, 4, 11) := rfl
theorem k24_14 : ab_fetch ab_c24 14 = some (.arraylength, 1, 0, 0) := rfl
theorem k24_15 : ab_fetch ab_c24 15 = some (.iconst 2, 1, 0, 0) := rfl
theorem k24_16 : ab_fetch ab_c24 16 = some (.imul, 1, 0, 0) := rfl
theorem k24_17 : ab_fetch ab_c24 17 = some (.invokestatic 136, 3, 996, 2) := rfl
theorem k24_20 : ab_fetch ab_c24 20 = some (.istore_n 2, 1, 0, 0) := rfl
theorem k24_21 : ab_fetch ab_c24 21 = some (.aload_n 0, 1, 0, 0) := rfl
theorem k24_22 : ab_fetch ab_c24 22 = some (.iload_n 2, 1, 0, 0) := rfl
theorem k24_23 : ab_fetch ab_c24 23 = some (.newarray .int, 2, 0, 0) := rfl
theorem k24_25 : ab_fetch ab_c24 25 = some (.putfield 15, 3, 4, 11) := rfl
theorem k24_28 : ab_fetch ab_c24 28 = some (.aload_n 0, 1, 0, 0) := rfl
theorem k24_29 : ab_fetch ab_c24 29 = some (.iload_n 2, 1, 0, 0) := rfl
theorem k24_30 : ab_fetch ab_c24 30 = some (.newarray .int, 2, 0, 0) := rfl
theorem k24_32 : ab_fetch ab_c24 32 = some (.putfield 19, 3, 4, 12) := rfl
theorem k24_35 : ab_fetch ab_c24 35 = some (.aload_n 0, 1, 0, 0) := rfl
theorem k24_36 : ab_fetch ab_c24 36 = some (.iload_n 2, 1, 0, 0) := rfl
theorem k24_37 : ab_fetch ab_c24 37 = some (.newarray .int, 2, 0, 0) := rfl
theorem k24_39 : ab_fetch ab_c24 39 = some (.putfield 22, 3, 4, 13) := rfl
theorem k24_42 : ab_fetch ab_c24 42 = some (.return_, 1, 0, 0) := rfl
/- CodeSmith$Tokens makeRoom(I)V -/
def f24 (s : cS) (x1 : Int32) : Option cS := if cA s 1 (s.2.1 11 11) then (if x1 ≤ (Int32.ofNat (cl s (s.2.1 11 11))) then some s else if cA s 1 (s.2.1 11 11) then if cN (if x1 < ((Int32.ofNat (cl s (s.2.1 11 11))) * (2 : Int32)) then ((Int32.ofNat (cl s (s.2.1 11 11))) * (2 : Int32)) else x1) then if cN (if x1 < ((Int32.ofNat (cl s (s.2.1 11 11))) * (2 : Int32)) then ((Int32.ofNat (cl s (s.2.1 11 11))) * (2 : Int32)) else x1) then if cN (if x1 < ((Int32.ofNat (cl s (s.2.1 11 11))) * (2 : Int32)) then ((Int32.ofNat (cl s (s.2.1 11 11))) * (2 : Int32)) else x1) then some (cr (cn (cr (cn (cr (cn s 1 (if x1 < ((Int32.ofNat (cl s (s.2.1 11 11))) * (2 : Int32)) then ((Int32.ofNat (cl s (s.2.1 11 11))) * (2 : Int32)) else x1).toNatClampNeg) 11 11 (42 + s.2.2.2)) 1 (if x1 < ((Int32.ofNat (cl s (s.2.1 11 11))) * (2 : Int32)) then ((Int32.ofNat (cl s (s.2.1 11 11))) * (2 : Int32)) else x1).toNatClampNeg) 11 12 (42 + (cr (cn s 1 (if x1 < ((Int32.ofNat (cl s (s.2.1 11 11))) * (2 : Int32)) then ((Int32.ofNat (cl s (s.2.1 11 11))) * (2 : Int32)) else x1).toNatClampNeg) 11 11 (42 + s.2.2.2)).2.2.2)) 1 (if x1 < ((Int32.ofNat (cl s (s.2.1 11 11))) * (2 : Int32)) then ((Int32.ofNat (cl s (s.2.1 11 11))) * (2 : Int32)) else x1).toNatClampNeg) 11 13 (42 + (cr (cn (cr (cn s 1 (if x1 < ((Int32.ofNat (cl s (s.2.1 11 11))) * (2 : Int32)) then ((Int32.ofNat (cl s (s.2.1 11 11))) * (2 : Int32)) else x1).toNatClampNeg) 11 11 (42 + s.2.2.2)) 1 (if x1 < ((Int32.ofNat (cl s (s.2.1 11 11))) * (2 : Int32)) then ((Int32.ofNat (cl s (s.2.1 11 11))) * (2 : Int32)) else x1).toNatClampNeg) 11 12 (42 + (cr (cn s 1 (if x1 < ((Int32.ofNat (cl s (s.2.1 11 11))) * (2 : Int32)) then ((Int32.ofNat (cl s (s.2.1 11 11))) * (2 : Int32)) else x1).toNatClampNeg) 11 11 (42 + s.2.2.2)).2.2.2)).2.2.2)) else none else none else none else none) else none
theorem t24 {d : Nat} {Z : Nat → ab_C} (s : cS) (x1 : Int32) (r : cS) (e : f24 s x1 = some r) : ab_Rn d 24 0 (lv_args 0 [.ref 11, .int x1]) [] (ch s Z) (.inl none) (ch r Z) := by
  unfold f24 at e
  obtain ⟨l, hl⟩ : ∃ l, l = (lv_args 0 [.ref 11, .int x1]) := ⟨_, rfl⟩
  rw [← hl]
  have h0 : ab_get l 0 = some (.ref 11) := by rw [hl]; rfl
  have h1 : ab_get l 1 = some (.int x1) := by rw [hl]; rfl
  refine r_iload_n (pc := 0) p24 k24_0 h1 ?_
  refine r_aload_n (pc := 1) p24 k24_1 h0 ?_
  refine c_get (i := 11) rfl (pc := 2) p24 k24_2 rfl rfl (v := .ref (s.2.1 11 11)) rfl ?_
  obtain ⟨c, e⟩ := of_if e
  refine c_alen (pc := 5) p24 k24_5 (t := 1) rfl c ?_
  refine r_ic_le (pc := 6) p24 k24_6 (fun c => ?_) (fun c => ?_)
  · have e := (if_pos c).symm.trans e
    obtain rfl := Option.some.inj e
    exact r_retV (pc := 42) p24 k24_42 rfl
  · have e := (if_neg c).symm.trans e
    refine r_iload_n (pc := 9) p24 k24_9 h1 ?_
    refine r_aload_n (pc := 10) p24 k24_10 h0 ?_
    refine c_get (i := 11) rfl (pc := 11) p24 k24_11 rfl rfl (v := .ref (s.2.1 11 11)) rfl ?_
    obtain ⟨c, e⟩ := of_if e
    refine c_alen (pc := 14) p24 k24_14 (t := 1) rfl c ?_
    refine r_iconst (pc := 15) p24 k24_15 (v := (2 : Int32)) rfl ?_
    refine r_imul (pc := 16) p24 k24_16 ?_
    refine r_max (pc := 17) p24 k24_17 rfl ?_
    refine r_istore_n (pc := 20) p24 k24_20 (by decide) (fun l g h2 => ?_)
    have h0 := g 0 _ (by decide) h0 (Or.inl rfl)
    refine r_aload_n (pc := 21) p24 k24_21 h0 ?_
    refine r_iload_n (pc := 22) p24 k24_22 h2 ?_
    obtain ⟨c, e⟩ := of_if e
    refine c_newI (pc := 23) p24 k24_23 c ?_
    refine c_putR (i := 11) rfl (pc := 25) p24 k24_25 rfl rfl rfl (cc_r11 _ Z 11 _) (cs11_11 _ _) rfl rfl ?_
    refine r_aload_n (pc := 28) p24 k24_28 h0 ?_
    refine r_iload_n (pc := 29) p24 k24_29 h2 ?_
    obtain ⟨c, e⟩ := of_if e
    refine c_newI (pc := 30) p24 k24_30 c ?_
    refine c_putR (i := 11) rfl (pc := 32) p24 k24_32 rfl rfl rfl (cc_r11 _ Z 12 _) (cs11_12 _ _) rfl rfl ?_
    refine r_aload_n (pc := 35) p24 k24_35 h0 ?_
    refine r_iload_n (pc := 36) p24 k24_36 h2 ?_
    obtain ⟨c, e⟩ := of_if e
    refine c_newI (pc := 37) p24 k24_37 c ?_
    refine c_putR (i := 11) rfl (pc := 39) p24 k24_39 rfl rfl rfl (cc_r11 _ Z 13 _) (cs11_13 _ _) rfl rfl ?_
    obtain rfl := Option.some.inj e
    exact r_retV (pc := 42) p24 k24_42 rfl

theorem p25 : ab_prog[25]? = some (ab_m25, ab_c25) := rfl
theorem k25_0 : ab_fetch ab_c25 0 = some (.iload_n 1, 1, 0, 0) := rfl
theorem k25_1 : ab_fetch ab_c25 1 = some (.aload_n 0, 1, 0, 0) := rfl
theorem k25_2 : ab_fetch ab_c25 2 = some (.getfield 53, 3, 4, 9) := rfl
theorem k25_5 : ab_fetch ab_c25 5 = some (.if_icmp .lt 33, 3, 38, 0) := rfl
theorem k25_8 : ab_fetch ab_c25 8 = some (.iload_n 1, 1, 0, 0) := rfl
theorem k25_9 : ab_fetch ab_c25 9 = some (.aload_n 0, 1, 0, 0) := rfl
theorem k25_10 : ab_fetch ab_c25 10 = some (.getfield 50, 3, 4, 10) := rfl
theorem k25_13 : ab_fetch ab_c25 13 = some (.if_icmp .ge 25, 3, 38, 0) := rfl
theorem k25_16 : ab_fetch ab_c25 16 = some (.iload_n 1, 1, 0, 0) := rfl
theorem k25_17 : ab_fetch ab_c25 17 = some (.aload_n 0, 1, 0, 0) := rfl
theorem k25_18 : ab_fetch ab_c25 18 = some (.getfield 9, 3, 4, 7) := rfl
theorem k25_21 : ab_fetch ab_c25 21 = some (.arraylength, 1, 0, 0) := rfl
theorem k25_22 : ab_fetch ab_c25 22 = some (.if_icmp .ge 16, 3, 38, 0) := rfl
theorem k25_25 : ab_fetch ab_c25 25 = some (.aload_n 0, 1, 0, 0) := rfl
theorem k25_26 : ab_fetch ab_c25 26 = some (.getfield 9, 3, 4, 7) := rfl
theorem k25_29 : ab_fetch ab_c25 29 = some (.iload_n 1, 1, 0, 0) := rfl
theorem k25_30 : ab_fetch ab_c25 30 = some (.baload, 1, 0, 0) := rfl
theorem k25_31 : ab_fetch ab_c25 31 = some (.sipush 255, 3, 0, 0) := rfl
theorem k25_34 : ab_fetch ab_c25 34 = some (.iand, 1, 0, 0) := rfl
theorem k25_35 : ab_fetch ab_c25 35 = some (.goto 4, 3, 39, 0) := rfl
theorem k25_38 : ab_fetch ab_c25 38 = some (.iconst (-1), 1, 0, 0) := rfl
theorem k25_39 : ab_fetch ab_c25 39 = some (.ireturn, 1, 0, 0) := rfl
/- CodeSmith$Tokens byteAt(I)I -/
def f25 (s : cS) (x1 : Int32) : Option Int32 := (if x1 < (s.1 11 9) then some (-1 : Int32) else (if (s.1 11 10) ≤ x1 then some (-1 : Int32) else if cA s 0 (s.2.1 11 7) then (if (Int32.ofNat (cl s (s.2.1 11 7))) ≤ x1 then some (-1 : Int32) else if cB s 0 (s.2.1 11 7) x1 then some ((ce s (s.2.1 11 7) x1) &&& (255 : Int32)) else none) else none))
theorem t25 {d : Nat} {Z : Nat → ab_C} (s : cS) (x1 : Int32) (r : Int32) (e : f25 s x1 = some r) : ab_Rn d 25 0 (lv_args 0 [.ref 11, .int x1]) [] (ch s Z) (.inl (some (.int r))) (ch s Z) := by
  unfold f25 at e
  obtain ⟨l, hl⟩ : ∃ l, l = (lv_args 0 [.ref 11, .int x1]) := ⟨_, rfl⟩
  rw [← hl]
  have h0 : ab_get l 0 = some (.ref 11) := by rw [hl]; rfl
  have h1 : ab_get l 1 = some (.int x1) := by rw [hl]; rfl
  refine r_iload_n (pc := 0) p25 k25_0 h1 ?_
  refine r_aload_n (pc := 1) p25 k25_1 h0 ?_
  refine c_get (i := 11) rfl (pc := 2) p25 k25_2 rfl rfl (v := .int (s.1 11 9)) rfl ?_
  refine r_ic_lt (pc := 5) p25 k25_5 (fun c => ?_) (fun c => ?_)
  · have e := (if_pos c).symm.trans e
    refine r_iconst (pc := 38) p25 k25_38 (v := (-1 : Int32)) rfl ?_
    obtain rfl := Option.some.inj e
    exact r_retI (pc := 39) p25 k25_39 rfl
  · have e := (if_neg c).symm.trans e
    refine r_iload_n (pc := 8) p25 k25_8 h1 ?_
    refine r_aload_n (pc := 9) p25 k25_9 h0 ?_
    refine c_get (i := 11) rfl (pc := 10) p25 k25_10 rfl rfl (v := .int (s.1 11 10)) rfl ?_
    refine r_ic_ge (pc := 13) p25 k25_13 (fun c => ?_) (fun c => ?_)
    · have e := (if_pos c).symm.trans e
      refine r_iconst (pc := 38) p25 k25_38 (v := (-1 : Int32)) rfl ?_
      obtain rfl := Option.some.inj e
      exact r_retI (pc := 39) p25 k25_39 rfl
    · have e := (if_neg c).symm.trans e
      refine r_iload_n (pc := 16) p25 k25_16 h1 ?_
      refine r_aload_n (pc := 17) p25 k25_17 h0 ?_
      refine c_get (i := 11) rfl (pc := 18) p25 k25_18 rfl rfl (v := .ref (s.2.1 11 7)) rfl ?_
      obtain ⟨c, e⟩ := of_if e
      refine c_alen (pc := 21) p25 k25_21 (t := 0) rfl c ?_
      refine r_ic_ge (pc := 22) p25 k25_22 (fun c => ?_) (fun c => ?_)
      · have e := (if_pos c).symm.trans e
        refine r_iconst (pc := 38) p25 k25_38 (v := (-1 : Int32)) rfl ?_
        obtain rfl := Option.some.inj e
        exact r_retI (pc := 39) p25 k25_39 rfl
      · have e := (if_neg c).symm.trans e
        refine r_aload_n (pc := 25) p25 k25_25 h0 ?_
        refine c_get (i := 11) rfl (pc := 26) p25 k25_26 rfl rfl (v := .ref (s.2.1 11 7)) rfl ?_
        refine r_iload_n (pc := 29) p25 k25_29 h1 ?_
        obtain ⟨c, e⟩ := of_if e
        refine c_bld (pc := 30) p25 k25_30 c ?_
        refine r_sipush (pc := 31) p25 k25_31 (v := (255 : Int32)) rfl ?_
        refine r_iand (pc := 34) p25 k25_34 ?_
        refine r_goto (pc := 35) p25 k25_35 ?_
        obtain rfl := Option.some.inj e
        exact r_retI (pc := 39) p25 k25_39 rfl
