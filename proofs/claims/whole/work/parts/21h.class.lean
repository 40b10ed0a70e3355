theorem p82 : ab_prog[82]? = some (ab_m82, ab_c82) := rfl
theorem k82_0 : ab_fetch ab_c82 0 = some (.aload_n 0, 1, 0, 0) := rfl
theorem k82_1 : ab_fetch ab_c82 1 = some (.getfield 43, 3, 0, 5) := rfl
theorem k82_4 : ab_fetch ab_c82 4 = some (.ifCond .eq 33, 3, 37, 0) := rfl
theorem k82_7 : ab_fetch ab_c82 7 = some (.aload_n 0, 1, 0, 0) := rfl
theorem k82_8 : ab_fetch ab_c82 8 = some (.getfield 18, 3, 0, 1) := rfl
theorem k82_11 : ab_fetch ab_c82 11 = some (.aload_n 0, 1, 0, 0) := rfl
theorem k82_12 : ab_fetch ab_c82 12 = some (.getfield 18, 3, 0, 1) := rfl
theorem k82_15 : ab_fetch ab_c82 15 = some (.aload_n 0, 1, 0, 0) := rfl
theorem k82_16 : ab_fetch ab_c82 16 = some (.getfield 147, 3, 0, 6) := rfl
theorem k82_19 : ab_fetch ab_c82 19 = some (.invokevirtual 262, 3, 83, 1) := rfl
theorem k82_22 : ab_fetch ab_c82 22 = some (.aload_n 0, 1, 0, 0) := rfl
theorem k82_23 : ab_fetch ab_c82 23 = some (.invokevirtual 163, 3, 61, 0) := rfl
theorem k82_26 : ab_fetch ab_c82 26 = some (.iadd, 1, 0, 0) := rfl
theorem k82_27 : ab_fetch ab_c82 27 = some (.aload_n 0, 1, 0, 0) := rfl
theorem k82_28 : ab_fetch ab_c82 28 = some (.getfield 197, 3, 0, 15) := rfl
theorem k82_31 : ab_fetch ab_c82 31 = some (.iadd, 1, 0, 0) := rfl
theorem k82_32 : ab_fetch ab_c82 32 = some (.iload_n 1, 1, 0, 0) := rfl
theorem k82_33 : ab_fetch ab_c82 33 = some (.iload_n 2, 1, 0, 0) := rfl
theorem k82_34 : ab_fetch ab_c82 34 = some (.invokevirtual 265, 3, 84, 3) := rfl
theorem k82_37 : ab_fetch ab_c82 37 = some (.aload_n 0, 1, 0, 0) := rfl
theorem k82_38 : ab_fetch ab_c82 38 = some (.dup, 1, 0, 0) := rfl
theorem k82_39 : ab_fetch ab_c82 39 = some (.getfield 197, 3, 0, 15) := rfl
theorem k82_42 : ab_fetch ab_c82 42 = some (.iload_n 2, 1, 0, 0) := rfl
theorem k82_43 : ab_fetch ab_c82 43 = some (.iadd, 1, 0, 0) := rfl
theorem k82_44 : ab_fetch ab_c82 44 = some (.putfield 197, 3, 0, 15) := rfl
theorem k82_47 : ab_fetch ab_c82 47 = some (.return_, 1, 0, 0) := rfl
/- CodeSmith$Assembler put(II)V -/
def f82_37 (s : cS) (x2 : Int32) : Option cS := some (cg s 16 15 ((s.1 16 15) + x2))
theorem t82_37 {d : Nat} {Z : Nat → ab_C} : ∀ (s : cS) (l : ab_L) (x2 : Int32) (h0 : ab_get l 0 = some (.ref 16)) (h2 : ab_get l 2 = some (.int x2)) (r : cS) (e : f82_37 s x2 = some r), ab_Rn (d + 1) 82 37 l [] (ch s Z) (.inl none) (ch r Z) := by
  intro s l x2 h0 h2 r e
  unfold f82_37 at e
  refine r_aload_n (pc := 37) p82 k82_37 h0 ?_
  refine r_dup (pc := 38) p82 k82_38 rfl ?_
  refine c_get (i := 16) rfl (pc := 39) p82 k82_39 rfl rfl (v := .int (s.1 16 15)) rfl ?_
  refine r_iload_n (pc := 42) p82 k82_42 h2 ?_
  refine r_iadd (pc := 43) p82 k82_43 ?_
  refine c_put (i := 16) rfl (pc := 44) p82 k82_44 rfl rfl rfl (cc_g16 _ Z 15 _) (cs16_15 _ _) rfl rfl ?_
  obtain rfl := Option.some.inj e
  exact r_retV (pc := 47) p82 k82_47 rfl
def f82 (s : cS) (x1 : Int32) (x2 : Int32) : Option cS := (if (s.1 16 5) = 0 then f82_37 s x2 else if cQ (s.2.1 16 1) then if cQ (s.2.1 16 1) then ((f84 (s.2.1 16 1) s (((f83 (s.2.1 16 1) s (s.1 16 6)) + (f61 s)) + (s.1 16 15)) x1 x2).bind fun r1 => f82_37 r1 x2) else none else none)
theorem t82 {d : Nat} {Z : Nat → ab_C} (s : cS) (x1 : Int32) (x2 : Int32) (r : cS) (e : f82 s x1 x2 = some r) : ab_Rn (d + 1) 82 0 (lv_args 0 [.ref 16, .int x1, .int x2]) [] (ch s Z) (.inl none) (ch r Z) := by
  unfold f82 at e
  obtain ⟨l, hl⟩ : ∃ l, l = (lv_args 0 [.ref 16, .int x1, .int x2]) := ⟨_, rfl⟩
  rw [← hl]
  have h0 : ab_get l 0 = some (.ref 16) := by rw [hl]; rfl
  have h1 : ab_get l 1 = some (.int x1) := by rw [hl]; rfl
  have h2 : ab_get l 2 = some (.int x2) := by rw [hl]; rfl
  refine r_aload_n (pc := 0) p82 k82_0 h0 ?_
  refine c_get (i := 16) rfl (pc := 1) p82 k82_1 rfl rfl (v := .int (s.1 16 5)) rfl ?_
  refine r_if_eq (pc := 4) p82 k82_4 (fun c => ?_) (fun c => ?_)
  · have e := (if_pos c).symm.trans e
    exact t82_37 s l x2 h0 h2 r e
  · have e := (if_neg c).symm.trans e
    refine r_aload_n (pc := 7) p82 k82_7 h0 ?_
    refine c_get (i := 16) rfl (pc := 8) p82 k82_8 rfl rfl (v := .ref (s.2.1 16 1)) rfl ?_
    refine r_aload_n (pc := 11) p82 k82_11 h0 ?_
    refine c_get (i := 16) rfl (pc := 12) p82 k82_12 rfl rfl (v := .ref (s.2.1 16 1)) rfl ?_
    refine r_aload_n (pc := 15) p82 k82_15 h0 ?_
    refine c_get (i := 16) rfl (pc := 16) p82 k82_16 rfl rfl (v := .int (s.1 16 6)) rfl ?_
    obtain ⟨c, e⟩ := of_if e
    refine c_cvI c (pc := 19) p82 k82_19 rfl p83 (r := [.ref (s.2.1 16 1)]) rfl rfl rfl rfl rfl (t83 (s.2.1 16 1) c s (s.1 16 6) _ rfl) (w := [.int (f83 (s.2.1 16 1) s (s.1 16 6)), .ref (s.2.1 16 1)]) rfl ?_
    refine r_aload_n (pc := 22) p82 k82_22 h0 ?_
    refine c_cv (i := 16) rfl (pc := 23) p82 k82_23 rfl p61 (r := [.int (f83 (s.2.1 16 1) s (s.1 16 6)), .ref (s.2.1 16 1)]) rfl rfl rfl rfl rfl rfl (t61 s _ rfl) (w := [.int (f61 s), .int (f83 (s.2.1 16 1) s (s.1 16 6)), .ref (s.2.1 16 1)]) rfl ?_
    refine r_iadd (pc := 26) p82 k82_26 ?_
    refine r_aload_n (pc := 27) p82 k82_27 h0 ?_
    refine c_get (i := 16) rfl (pc := 28) p82 k82_28 rfl rfl (v := .int (s.1 16 15)) rfl ?_
    refine r_iadd (pc := 31) p82 k82_31 ?_
    refine r_iload_n (pc := 32) p82 k82_32 h1 ?_
    refine r_iload_n (pc := 33) p82 k82_33 h2 ?_
    obtain ⟨c, e⟩ := of_if e
    obtain ⟨r1, er1, e⟩ := of_bind e
    refine c_cvI c (pc := 34) p82 k82_34 rfl p84 (r := []) rfl rfl rfl rfl rfl (t84 (s.2.1 16 1) c s (((f83 (s.2.1 16 1) s (s.1 16 6)) + (f61 s)) + (s.1 16 15)) x1 x2 r1 er1) (w := []) rfl ?_
    exact t82_37 r1 l x2 h0 h2 r e

theorem p67 : ab_prog[67]? = some (ab_m67, ab_c67) := rfl
theorem k67_0 : ab_fetch ab_c67 0 = some (.iconst 0, 1, 0, 0) := rfl
theorem k67_1 : ab_fetch ab_c67 1 = some (.istore_n 2, 1, 0, 0) := rfl
theorem k67_2 : ab_fetch ab_c67 2 = some (.iload_n 2, 1, 0, 0) := rfl
theorem k67_3 : ab_fetch ab_c67 3 = some (.ldc 150, 2, 65536, 0) := rfl
theorem k67_5 : ab_fetch ab_c67 5 = some (.if_icmp .ge 47, 3, 52, 0) := rfl
theorem k67_8 : ab_fetch ab_c67 8 = some (.aload_n 0, 1, 0, 0) := rfl
theorem k67_9 : ab_fetch ab_c67 9 = some (.aload_n 0, 1, 0, 0) := rfl
theorem k67_10 : ab_fetch ab_c67 10 = some (.getfield 29, 3, 0, 4) := rfl
theorem k67_13 : ab_fetch ab_c67 13 = some (.iconst 1, 1, 0, 0) := rfl
theorem k67_14 : ab_fetch ab_c67 14 = some (.iconst 0, 1, 0, 0) := rfl
theorem k67_15 : ab_fetch ab_c67 15 = some (.invokevirtual 209, 3, 68, 2) := rfl
theorem k67_18 : ab_fetch ab_c67 18 = some (.iload_n 1, 1, 0, 0) := rfl
theorem k67_19 : ab_fetch ab_c67 19 = some (.invokevirtual 212, 3, 82, 2) := rfl
theorem k67_22 : ab_fetch ab_c67 22 = some (.aload_n 0, 1, 0, 0) := rfl
theorem k67_23 : ab_fetch ab_c67 23 = some (.getfield 21, 3, 0, 2) := rfl
theorem k67_26 : ab_fetch ab_c67 26 = some (.getfield 84, 3, 4, 3) := rfl
theorem k67_29 : ab_fetch ab_c67 29 = some (.bipush 44, 2, 0, 0) := rfl
theorem k67_31 : ab_fetch ab_c67 31 = some (.if_icmp .eq 6, 3, 37, 0) := rfl
theorem k67_34 : ab_fetch ab_c67 34 = some (.goto 18, 3, 52, 0) := rfl
theorem k67_37 : ab_fetch ab_c67 37 = some (.aload_n 0, 1, 0, 0) := rfl
theorem k67_38 : ab_fetch ab_c67 38 = some (.getfield 21, 3, 0, 2) := rfl
theorem k67_41 : ab_fetch ab_c67 41 = some (.bipush 44, 2, 0, 0) := rfl
theorem k67_43 : ab_fetch ab_c67 43 = some (.invokevirtual 98, 3, 45, 1) := rfl
theorem k67_46 : ab_fetch ab_c67 46 = some (.iinc 2 1, 3, 0, 0) := rfl
theorem k67_49 : ab_fetch ab_c67 49 = some (.goto (-47), 3, 2, 0) := rfl
theorem k67_52 : ab_fetch ab_c67 52 = some (.return_, 1, 0, 0) := rfl
/- CodeSmith$Assembler readList(I)V -/
def f67_34 (s : cS) : Option (cS ⊕ cS) := some (.inl s)
theorem t67_34 {d : Nat} {Z : Nat → ab_C} : ∀ (s : cS) (l : ab_L)   (r : cS ⊕ cS) (e : f67_34 s  = some r), ab_Rn (d + 456) 67 34 l [] (ch s Z) (oV r) (ch (zV r) Z) := by
  intro s l r e
  unfold f67_34 at e
  refine r_goto (pc := 34) p67 k67_34 ?_
  obtain rfl := Option.some.inj e
  exact r_retV (pc := 52) p67 k67_52 rfl
def f67_2 : Nat → cS → Int32 → Int32 → Option (cS ⊕ cS)
  | 0, _, _, _ => none
  | u + 1, s, x1, x2 => (if (65536 : Int32) ≤ x2 then some (.inl s) else (tb (f68 s (1 : Int32) (0 : Int32)) fun r1 => ((f82 r1.2 r1.1 x1).bind fun r2 => (if (r2.1 11 3) = (44 : Int32) then (tb (f45 r2 (44 : Int32)) fun r3 => f67_2 u r3 x1 (x2 + (1 : Int32))) else f67_34 r2))))
theorem t67_2 {d : Nat} {Z : Nat → ab_C} : ∀ u : Nat, ∀ (s : cS) (l : ab_L) (x1 : Int32) (x2 : Int32) (h0 : ab_get l 0 = some (.ref 16)) (h1 : ab_get l 1 = some (.int x1)) (h2 : ab_get l 2 = some (.int x2)) (r : cS ⊕ cS) (e : f67_2 u s x1 x2 = some r), ab_Rn (d + 456) 67 2 l [] (ch s Z) (oV r) (ch (zV r) Z) := by
  intro u
  induction u with
  | zero => intro s l x1 x2 h0 h1 h2 r e; rw [f67_2] at e; cases e
  | succ u ih =>
    intro s l x1 x2 h0 h1 h2 r e
    rw [f67_2] at e
    refine r_iload_n (pc := 2) p67 k67_2 h2 ?_
    refine r_ldcI (pc := 3) p67 k67_3 (v := (65536 : Int32)) rfl ?_
    refine r_ic_ge (pc := 5) p67 k67_5 (fun c => ?_) (fun c => ?_)
    · have e := (if_pos c).symm.trans e
      obtain rfl := Option.some.inj e
      exact r_retV (pc := 52) p67 k67_52 rfl
    · have e := (if_neg c).symm.trans e
      refine r_aload_n (pc := 8) p67 k67_8 h0 ?_
      refine r_aload_n (pc := 9) p67 k67_9 h0 ?_
      refine c_get (i := 16) rfl (pc := 10) p67 k67_10 rfl rfl (v := .ref 17) rfl ?_
      refine r_iconst (pc := 13) p67 k67_13 (v := (1 : Int32)) rfl ?_
      refine r_iconst (pc := 14) p67 k67_14 (v := (0 : Int32)) rfl ?_
      rcases of_tb e with ⟨r1, er1, e⟩ | ⟨t, et, rfl⟩
      rotate_left
      · exact c_cvx (i := 17) rfl (pc := 15) p67 k67_15 rfl p68 (r := [.ref 16]) rfl rfl rfl rfl rfl rfl (t68 s (1 : Int32) (0 : Int32) _ et)
      refine c_cv (i := 17) rfl (pc := 15) p67 k67_15 rfl p68 (r := [.ref 16]) rfl rfl rfl rfl rfl rfl (t68 s (1 : Int32) (0 : Int32) _ er1) (w := [.int r1.1, .ref 16]) rfl ?_
      refine r_iload_n (pc := 18) p67 k67_18 h1 ?_
      obtain ⟨r2, er2, e⟩ := of_bind e
      refine c_cv (i := 16) rfl (pc := 19) p67 k67_19 rfl p82 (r := []) rfl rfl rfl rfl rfl rfl (t82 r1.2 r1.1 x1 r2 er2) (w := []) rfl ?_
      refine r_aload_n (pc := 22) p67 k67_22 h0 ?_
      refine c_get (i := 16) rfl (pc := 23) p67 k67_23 rfl rfl (v := .ref 11) rfl ?_
      refine c_get (i := 11) rfl (pc := 26) p67 k67_26 rfl rfl (v := .int (r2.1 11 3)) rfl ?_
      refine r_bipush (pc := 29) p67 k67_29 (v := (44 : Int32)) rfl ?_
      refine r_ic_eq (pc := 31) p67 k67_31 (fun c => ?_) (fun c => ?_)
      · have e := (if_pos c).symm.trans e
        refine r_aload_n (pc := 37) p67 k67_37 h0 ?_
        refine c_get (i := 16) rfl (pc := 38) p67 k67_38 rfl rfl (v := .ref 11) rfl ?_
        refine r_bipush (pc := 41) p67 k67_41 (v := (44 : Int32)) rfl ?_
        rcases of_tb e with ⟨r3, er3, e⟩ | ⟨t, et, rfl⟩
        rotate_left
        · exact c_cvx (i := 11) rfl (pc := 43) p67 k67_43 rfl p45 (r := []) rfl rfl rfl rfl rfl rfl (t45 r2 (44 : Int32) _ et)
        refine c_cv (i := 11) rfl (pc := 43) p67 k67_43 rfl p45 (r := []) rfl rfl rfl rfl rfl rfl (t45 r2 (44 : Int32) _ er3) (w := []) rfl ?_
        refine r_iinc (pc := 46) p67 k67_46 h2 (by decide) (v := (x2 + (1 : Int32))) rfl (fun l g h2 => ?_)
        have h0 := g 0 _ (by decide) h0 (Or.inl rfl)
        have h1 := g 1 _ (by decide) h1 (Or.inl rfl)
        refine r_goto (pc := 49) p67 k67_49 ?_
        exact ih r3 l x1 (x2 + (1 : Int32)) h0 h1 h2 r e
      · have e := (if_neg c).symm.trans e
        exact t67_34 r2 l r e
def f67 (s : cS) (x1 : Int32) : Option (cS ⊕ cS) := f67_2 mm_U s x1 (0 : Int32)
theorem t67 {d : Nat} {Z : Nat → ab_C} (s : cS) (x1 : Int32) (r : cS ⊕ cS) (e : f67 s x1 = some r) : ab_Rn (d + 456) 67 0 (lv_args 0 [.ref 16, .int x1]) [] (ch s Z) (oV r) (ch (zV r) Z) := by
  unfold f67 at e
  obtain ⟨l, hl⟩ : ∃ l, l = (lv_args 0 [.ref 16, .int x1]) := ⟨_, rfl⟩
  rw [← hl]
  have h0 : ab_get l 0 = some (.ref 16) := by rw [hl]; rfl
  have h1 : ab_get l 1 = some (.int x1) := by rw [hl]; rfl
  refine r_iconst (pc := 0) p67 k67_0 (v := (0 : Int32)) rfl ?_
  refine r_istore_n (pc := 1) p67 k67_1 (by decide) (fun l g h2 => ?_)
  have h0 := g 0 _ (by decide) h0 (Or.inl rfl)
  have h1 := g 1 _ (by decide) h1 (Or.inl rfl)
  exact t67_2 mm_U s l x1 (0 : Int32) h0 h1 h2 r e

theorem p85 : ab_prog[85]? = some (ab_m85, ab_c85) := rfl
theorem k85_0 : ab_fetch ab_c85 0 = some (.aload_n 0, 1, 0, 0) := rfl
theorem k85_1 : ab_fetch ab_c85 1 = some (.getfield 21, 3, 0, 2) := rfl
theorem k85_4 : ab_fetch ab_c85 4 = some (.getfield 89, 3, 4, 4) := rfl
theorem k85_7 : ab_fetch ab_c85 7 = some (.iconst 1, 1, 0, 0) := rfl
theorem k85_8 : ab_fetch ab_c85 8 = some (.iadd, 1, 0, 0) := rfl
theorem k85_9 : ab_fetch ab_c85 9 = some (.istore_n 2, 1, 0, 0) := rfl
theorem k85_10 : ab_fetch ab_c85 10 = some (.aload_n 0, 1, 0, 0) := rfl
theorem k85_11 : ab_fetch ab_c85 11 = some (.getfield 21, 3, 0, 2) := rfl
theorem k85_14 : ab_fetch ab_c85 14 = some (.getfield 95, 3, 4, 5) := rfl
theorem k85_17 : ab_fetch ab_c85 17 = some (.istore_n 3, 1, 0, 0) := rfl
theorem k85_18 : ab_fetch ab_c85 18 = some (.aload_n 0, 1, 0, 0) := rfl
theorem k85_19 : ab_fetch ab_c85 19 = some (.getfield 21, 3, 0, 2) := rfl
theorem k85_22 : ab_fetch ab_c85 22 = some (.iconst 3, 1, 0, 0) := rfl
theorem k85_23 : ab_fetch ab_c85 23 = some (.invokevirtual 98, 3, 45, 1) := rfl
theorem k85_26 : ab_fetch ab_c85 26 = some (.iconst 0, 1, 0, 0) := rfl
theorem k85_27 : ab_fetch ab_c85 27 = some (.istore 4, 2, 0, 0) := rfl
theorem k85_29 : ab_fetch ab_c85 29 = some (.iload 4, 2, 0, 0) := rfl
theorem k85_31 : ab_fetch ab_c85 31 = some (.iload_n 3, 1, 0, 0) := rfl
theorem k85_32 : ab_fetch ab_c85 32 = some (.if_icmp .ge 35, 3, 67, 0) := rfl
theorem k85_35 : ab_fetch ab_c85 35 = some (.aload_n 0, 1, 0, 0) := rfl
theorem k85_36 : ab_fetch ab_c85 36 = some (.aload_n 0, 1, 0, 0) := rfl
theorem k85_37 : ab_fetch ab_c85 37 = some (.getfield 21, 3, 0, 2) := rfl
theorem k85_40 : ab_fetch ab_c85 40 = some (.iload_n 2, 1, 0, 0) := rfl
theorem k85_41 : ab_fetch ab_c85 41 = some (.bipush 34, 2, 0, 0) := rfl
theorem k85_43 : ab_fetch ab_c85 43 = some (.invokevirtual 215, 3, 36, 2) := rfl
theorem k85_46 : ab_fetch ab_c85 46 = some (.iconst 1, 1, 0, 0) := rfl
theorem k85_47 : ab_fetch ab_c85 47 = some (.invokevirtual 212, 3, 82, 2) := rfl
theorem k85_50 : ab_fetch ab_c85 50 = some (.iload_n 2, 1, 0, 0) := rfl
theorem k85_51 : ab_fetch ab_c85 51 = some (.aload_n 0, 1, 0, 0) := rfl
theorem k85_52 : ab_fetch ab_c85 52 = some (.getfield 21, 3, 0, 2) := rfl
theorem k85_55 : ab_fetch ab_c85 55 = some (.iload_n 2, 1, 0, 0) := rfl
theorem k85_56 : ab_fetch ab_c85 56 = some (.invokevirtual 218, 3, 38, 1) := rfl
theorem k85_59 : ab_fetch ab_c85 59 = some (.iadd, 1, 0, 0) := rfl
theorem k85_60 : ab_fetch ab_c85 60 = some (.istore_n 2, 1, 0, 0) := rfl
theorem k85_61 : ab_fetch ab_c85 61 = some (.iinc 4 1, 3, 0, 0) := rfl
theorem k85_64 : ab_fetch ab_c85 64 = some (.goto (-35), 3, 29, 0) := rfl
theorem k85_67 : ab_fetch ab_c85 67 = some (.iconst 0, 1, 0, 0) := rfl
theorem k85_68 : ab_fetch ab_c85 68 = some (.istore 4, 2, 0, 0) := rfl
theorem k85_70 : ab_fetch ab_c85 70 = some (.iload 4, 2, 0, 0) := rfl
theorem k85_72 : ab_fetch ab_c85 72 = some (.iload_n 1, 1, 0, 0) := rfl
theorem k85_73 : ab_fetch ab_c85 73 = some (.if_icmp .ge 15, 3, 88, 0) := rfl
theorem k85_76 : ab_fetch ab_c85 76 = some (.aload_n 0, 1, 0, 0) := rfl
theorem k85_77 : ab_fetch ab_c85 77 = some (.iconst 0, 1, 0, 0) := rfl
theorem k85_78 : ab_fetch ab_c85 78 = some (.iconst 1, 1, 0, 0) := rfl
theorem k85_79 : ab_fetch ab_c85 79 = some (.invokevirtual 212, 3, 82, 2) := rfl
theorem k85_82 : ab_fetch ab_c85 82 = some (.iinc 4 1, 3, 0, 0) := rfl
theorem k85_85 : ab_fetch ab_c85 85 = some (.goto (-15), 3, 70, 0) := rfl
theorem k85_88 : ab_fetch ab_c85 88 = some (.return_, 1, 0, 0) := rfl
/- CodeSmith$Assembler readString(I)V -/
def f85_70 : Nat → cS → Int32 → Int32 → Option (cS ⊕ cS)
  | 0, _, _, _ => none
  | u + 1, s, x1, x4 => (if x1 ≤ x4 then some (.inl s) else ((f82 s (0 : Int32) (1 : Int32)).bind fun r1 => f85_70 u r1 x1 (x4 + (1 : Int32))))
theorem t85_70 {d : Nat} {Z : Nat → ab_C} : ∀ u : Nat, ∀ (s : cS) (l : ab_L) (x1 : Int32) (x4 : Int32) (h0 : ab_get l 0 = some (.ref 16)) (h1 : ab_get l 1 = some (.int x1)) (h4 : ab_get l 4 = some (.int x4)) (r : cS ⊕ cS) (e : f85_70 u s x1 x4 = some r), ab_Rn (d + 2) 85 70 l [] (ch s Z) (oV r) (ch (zV r) Z) := by
  intro u
  induction u with
  | zero => intro s l x1 x4 h0 h1 h4 r e; rw [f85_70] at e; cases e
  | succ u ih =>
    intro s l x1 x4 h0 h1 h4 r e
    rw [f85_70] at e
    refine r_iload (pc := 70) p85 k85_70 h4 ?_
    refine r_iload_n (pc := 72) p85 k85_72 h1 ?_
    refine r_ic_ge (pc := 73) p85 k85_73 (fun c => ?_) (fun c => ?_)
    · have e := (if_pos c).symm.trans e
      obtain rfl := Option.some.inj e
      exact r_retV (pc := 88) p85 k85_88 rfl
    · have e := (if_neg c).symm.trans e
      refine r_aload_n (pc := 76) p85 k85_76 h0 ?_
      refine r_iconst (pc := 77) p85 k85_77 (v := (0 : Int32)) rfl ?_
      refine r_iconst (pc := 78) p85 k85_78 (v := (1 : Int32)) rfl ?_
      obtain ⟨r1, er1, e⟩ := of_bind e
      refine c_cv (i := 16) rfl (pc := 79) p85 k85_79 rfl p82 (r := []) rfl rfl rfl rfl rfl rfl (t82 s (0 : Int32) (1 : Int32) r1 er1) (w := []) rfl ?_
      refine r_iinc (pc := 82) p85 k85_82 h4 (by decide) (v := (x4 + (1 : Int32))) rfl (fun l g h4 => ?_)
      have h0 := g 0 _ (by decide) h0 (Or.inl rfl)
      have h1 := g 1 _ (by decide) h1 (Or.inl rfl)
      refine r_goto (pc := 85) p85 k85_85 ?_
      exact ih r1 l x1 (x4 + (1 : Int32)) h0 h1 h4 r e
def f85_67 (s : cS) (x1 : Int32) : Option (cS ⊕ cS) := f85_70 mm_U s x1 (0 : Int32)
theorem t85_67 {d : Nat} {Z : Nat → ab_C} : ∀ (s : cS) (l : ab_L) (x1 : Int32) (h0 : ab_get l 0 = some (.ref 16)) (h1 : ab_get l 1 = some (.int x1)) (r : cS ⊕ cS) (e : f85_67 s x1 = some r), ab_Rn (d + 2) 85 67 l [] (ch s Z) (oV r) (ch (zV r) Z) := by
  intro s l x1 h0 h1 r e
  unfold f85_67 at e
  refine r_iconst (pc := 67) p85 k85_67 (v := (0 : Int32)) rfl ?_
  refine r_istore (pc := 68) p85 k85_68 (by decide) (fun l g h4 => ?_)
  have h0 := g 0 _ (by decide) h0 (Or.inl rfl)
  have h1 := g 1 _ (by decide) h1 (Or.inl rfl)
  exact t85_70 mm_U s l x1 (0 : Int32) h0 h1 h4 r e
def f85_29 : Nat → cS → Int32 → Int32 → Int32 → Int32 → Option (cS ⊕ cS)
  | 0, _, _, _, _, _ => none
  | u + 1, s, x1, x2, x3, x4 => (if x3 ≤ x4 then f85_67 s x1 else ((f36 s x2 (34 : Int32)).bind fun r1 => ((f82 s r1 (1 : Int32)).bind fun r2 => ((f38 r2 x2).bind fun r3 => f85_29 u r2 x1 (x2 + r3) x3 (x4 + (1 : Int32))))))
theorem t85_29 {d : Nat} {Z : Nat → ab_C} : ∀ u : Nat, ∀ (s : cS) (l : ab_L) (x1 : Int32) (x2 : Int32) (x3 : Int32) (x4 : Int32) (h0 : ab_get l 0 = some (.ref 16)) (h1 : ab_get l 1 = some (.int x1)) (h2 : ab_get l 2 = some (.int x2)) (h3 : ab_get l 3 = some (.int x3)) (h4 : ab_get l 4 = some (.int x4)) (r : cS ⊕ cS) (e : f85_29 u s x1 x2 x3 x4 = some r), ab_Rn (d + 2) 85 29 l [] (ch s Z) (oV r) (ch (zV r) Z) := by
  intro u
  induction u with
  | zero => intro s l x1 x2 x3 x4 h0 h1 h2 h3 h4 r e; rw [f85_29] at e; cases e
  | succ u ih =>
    intro s l x1 x2 x3 x4 h0 h1 h2 h3 h4 r e
    rw [f85_29] at e
    refine r_iload (pc := 29) p85 k85_29 h4 ?_
    refine r_iload_n (pc := 31) p85 k85_31 h3 ?_
    refine r_ic_ge (pc := 32) p85 k85_32 (fun c => ?_) (fun c => ?_)
    · have e := (if_pos c).symm.trans e
      exact t85_67 s l x1 h0 h1 r e
    · have e := (if_neg c).symm.trans e
      refine r_aload_n (pc := 35) p85 k85_35 h0 ?_
      refine r_aload_n (pc := 36) p85 k85_36 h0 ?_
      refine c_get (i := 16) rfl (pc := 37) p85 k85_37 rfl rfl (v := .ref 11) rfl ?_
      refine r_iload_n (pc := 40) p85 k85_40 h2 ?_
      refine r_bipush (pc := 41) p85 k85_41 (v := (34 : Int32)) rfl ?_
      obtain ⟨r1, er1, e⟩ := of_bind e
      refine c_cv (i := 11) rfl (pc := 43) p85 k85_43 rfl p36 (r := [.ref 16]) rfl rfl rfl rfl rfl rfl (t36 s x2 (34 : Int32) r1 er1) (w := [.int r1, .ref 16]) rfl ?_
      refine r_iconst (pc := 46) p85 k85_46 (v := (1 : Int32)) rfl ?_
      obtain ⟨r2, er2, e⟩ := of_bind e
      refine c_cv (i := 16) rfl (pc := 47) p85 k85_47 rfl p82 (r := []) rfl rfl rfl rfl rfl rfl (t82 s r1 (1 : Int32) r2 er2) (w := []) rfl ?_
      refine r_iload_n (pc := 50) p85 k85_50 h2 ?_
      refine r_aload_n (pc := 51) p85 k85_51 h0 ?_
      refine c_get (i := 16) rfl (pc := 52) p85 k85_52 rfl rfl (v := .ref 11) rfl ?_
      refine r_iload_n (pc := 55) p85 k85_55 h2 ?_
      obtain ⟨r3, er3, e⟩ := of_bind e
      refine c_cv (i := 11) rfl (pc := 56) p85 k85_56 rfl p38 (r := [.int x2]) rfl rfl rfl rfl rfl rfl (t38 r2 x2 r3 er3) (w := [.int r3, .int x2]) rfl ?_
      refine r_iadd (pc := 59) p85 k85_59 ?_
      refine r_istore_n (pc := 60) p85 k85_60 (by decide) (fun l g h2 => ?_)
      have h0 := g 0 _ (by decide) h0 (Or.inl rfl)
      have h1 := g 1 _ (by decide) h1 (Or.inl rfl)
      have h3 := g 3 _ (by decide) h3 (Or.inl rfl)
      have h4 := g 4 _ (by decide) h4 (Or.inl rfl)
      refine r_iinc (pc := 61) p85 k85_61 h4 (by decide) (v := (x4 + (1 : Int32))) rfl (fun l g h4 => ?_)
      have h0 := g 0 _ (by decide) h0 (Or.inl rfl)
      have h1 := g 1 _ (by decide) h1 (Or.inl rfl)
      have h2 := g 2 _ (by decide) h2 (Or.inl rfl)
      have h3 := g 3 _ (by decide) h3 (Or.inl rfl)
      refine r_goto (pc := 64) p85 k85_64 ?_
      exact ih r2 l x1 (x2 + r3) x3 (x4 + (1 : Int32)) h0 h1 h2 h3 h4 r e
def f85 (s : cS) (x1 : Int32) : Option (cS ⊕ cS) := (tb (f45 s (3 : Int32)) fun r1 => f85_29 mm_U r1 x1 ((s.1 11 4) + (1 : Int32)) (s.1 11 5) (0 : Int32))
theorem t85 {d : Nat} {Z : Nat → ab_C} (s : cS) (x1 : Int32) (r : cS ⊕ cS) (e : f85 s x1 = some r) : ab_Rn (d + 2) 85 0 (lv_args 0 [.ref 16, .int x1]) [] (ch s Z) (oV r) (ch (zV r) Z) := by
  unfold f85 at e
  obtain ⟨l, hl⟩ : ∃ l, l = (lv_args 0 [.ref 16, .int x1]) := ⟨_, rfl⟩
  rw [← hl]
  have h0 : ab_get l 0 = some (.ref 16) := by rw [hl]; rfl
  have h1 : ab_get l 1 = some (.int x1) := by rw [hl]; rfl
  refine r_aload_n (pc := 0) p85 k85_0 h0 ?_
  refine c_get (i := 16) rfl (pc := 1) p85 k85_1 rfl rfl (v := .ref 11) rfl ?_
  refine c_get (i := 11) rfl (pc := 4) p85 k85_4 rfl rfl (v := .int (s.1 11 4)) rfl ?_
  refine r_iconst (pc := 7) p85 k85_7 (v := (1 : Int32)) rfl ?_
  refine r_iadd (pc := 8) p85 k85_8 ?_
  refine r_istore_n (pc := 9) p85 k85_9 (by decide) (fun l g h2 => ?_)
  have h0 := g 0 _ (by decide) h0 (Or.inl rfl)
  have h1 := g 1 _ (by decide) h1 (Or.inl rfl)
  refine r_aload_n (pc := 10) p85 k85_10 h0 ?_
  refine c_get (i := 16) rfl (pc := 11) p85 k85_11 rfl rfl (v := .ref 11) rfl ?_
  refine c_get (i := 11) rfl (pc := 14) p85 k85_14 rfl rfl (v := .int (s.1 11 5)) rfl ?_
  refine r_istore_n (pc := 17) p85 k85_17 (by decide) (fun l g h3 => ?_)
  have h0 := g 0 _ (by decide) h0 (Or.inl rfl)
  have h1 := g 1 _ (by decide) h1 (Or.inl rfl)
  have h2 := g 2 _ (by decide) h2 (Or.inl rfl)
  refine r_aload_n (pc := 18) p85 k85_18 h0 ?_
  refine c_get (i := 16) rfl (pc := 19) p85 k85_19 rfl rfl (v := .ref 11) rfl ?_
  refine r_iconst (pc := 22) p85 k85_22 (v := (3 : Int32)) rfl ?_
  rcases of_tb e with ⟨r1, er1, e⟩ | ⟨t, et, rfl⟩
  rotate_left
  · exact c_cvx (i := 11) rfl (pc := 23) p85 k85_23 rfl p45 (r := []) rfl rfl rfl rfl rfl rfl (t45 s (3 : Int32) _ et)
  refine c_cv (i := 11) rfl (pc := 23) p85 k85_23 rfl p45 (r := []) rfl rfl rfl rfl rfl rfl (t45 s (3 : Int32) _ er1) (w := []) rfl ?_
  refine r_iconst (pc := 26) p85 k85_26 (v := (0 : Int32)) rfl ?_
  refine r_istore (pc := 27) p85 k85_27 (by decide) (fun l g h4 => ?_)
  have h0 := g 0 _ (by decide) h0 (Or.inl rfl)
  have h1 := g 1 _ (by decide) h1 (Or.inl rfl)
  have h2 := g 2 _ (by decide) h2 (Or.inl rfl)
  have h3 := g 3 _ (by decide) h3 (Or.inl rfl)
  exact t85_29 mm_U r1 l x1 ((s.1 11 4) + (1 : Int32)) (s.1 11 5) (0 : Int32) h0 h1 h2 h3 h4 r e

theorem p86 : ab_prog[86]? = some (ab_m86, ab_c86) := rfl
theorem k86_0 : ab_fetch ab_c86 0 = some (.aload_n 0, 1, 0, 0) := rfl
theorem k86_1 : ab_fetch ab_c86 1 = some (.getfield 21, 3, 0, 2) := rfl
theorem k86_4 : ab_fetch ab_c86 4 = some (.getfield 89, 3, 4, 4) := rfl
theorem k86_7 : ab_fetch ab_c86 7 = some (.istore_n 1, 1, 0, 0) := rfl
theorem k86_8 : ab_fetch ab_c86 8 = some (.aload_n 0, 1, 0, 0) := rfl
theorem k86_9 : ab_fetch ab_c86 9 = some (.getfield 21, 3, 0, 2) := rfl
theorem k86_12 : ab_fetch ab_c86 12 = some (.getfield 95, 3, 4, 5) := rfl
theorem k86_15 : ab_fetch ab_c86 15 = some (.istore_n 2, 1, 0, 0) := rfl
theorem k86_16 : ab_fetch ab_c86 16 = some (.aload_n 0, 1, 0, 0) := rfl
theorem k86_17 : ab_fetch ab_c86 17 = some (.getfield 21, 3, 0, 2) := rfl
theorem k86_20 : ab_fetch ab_c86 20 = some (.iconst 1, 1, 0, 0) := rfl
theorem k86_21 : ab_fetch ab_c86 21 = some (.invokevirtual 98, 3, 45, 1) := rfl
theorem k86_24 : ab_fetch ab_c86 24 = some (.aload_n 0, 1, 0, 0) := rfl
theorem k86_25 : ab_fetch ab_c86 25 = some (.getfield 43, 3, 0, 5) := rfl
theorem k86_28 : ab_fetch ab_c86 28 = some (.ifCond .ne 9, 3, 37, 0) := rfl
theorem k86_31 : ab_fetch ab_c86 31 = some (.aload_n 0, 1, 0, 0) := rfl
theorem k86_32 : ab_fetch ab_c86 32 = some (.iload_n 1, 1, 0, 0) := rfl
theorem k86_33 : ab_fetch ab_c86 33 = some (.iload_n 2, 1, 0, 0) := rfl
theorem k86_34 : ab_fetch ab_c86 34 = some (.invokevirtual 155, 3, 47, 2) := rfl
theorem k86_37 : ab_fetch ab_c86 37 = some (.aload_n 0, 1, 0, 0) := rfl
theorem k86_38 : ab_fetch ab_c86 38 = some (.getfield 21, 3, 0, 2) := rfl
theorem k86_41 : ab_fetch ab_c86 41 = some (.bipush 44, 2, 0, 0) := rfl
theorem k86_43 : ab_fetch ab_c86 43 = some (.invokevirtual 98, 3, 45, 1) := rfl
theorem k86_46 : ab_fetch ab_c86 46 = some (.aload_n 0, 1, 0, 0) := rfl
theorem k86_47 : ab_fetch ab_c86 47 = some (.getfield 29, 3, 0, 4) := rfl
theorem k86_50 : ab_fetch ab_c86 50 = some (.iconst 1, 1, 0, 0) := rfl
theorem k86_51 : ab_fetch ab_c86 51 = some (.iconst 0, 1, 0, 0) := rfl
theorem k86_52 : ab_fetch ab_c86 52 = some (.invokevirtual 209, 3, 68, 2) := rfl
theorem k86_55 : ab_fetch ab_c86 55 = some (.istore_n 3, 1, 0, 0) := rfl
theorem k86_56 : ab_fetch ab_c86 56 = some (.aload_n 0, 1, 0, 0) := rfl
theorem k86_57 : ab_fetch ab_c86 57 = some (.getfield 43, 3, 0, 5) := rfl
theorem k86_60 : ab_fetch ab_c86 60 = some (.ifCond .ne 21, 3, 81, 0) := rfl
theorem k86_63 : ab_fetch ab_c86 63 = some (.aload_n 0, 1, 0, 0) := rfl
theorem k86_64 : ab_fetch ab_c86 64 = some (.getfield 25, 3, 0, 3) := rfl
theorem k86_67 : ab_fetch ab_c86 67 = some (.iload_n 1, 1, 0, 0) := rfl
theorem k86_68 : ab_fetch ab_c86 68 = some (.iload_n 2, 1, 0, 0) := rfl
theorem k86_69 : ab_fetch ab_c86 69 = some (.iconst 2, 1, 0, 0) := rfl
theorem k86_70 : ab_fetch ab_c86 70 = some (.iload_n 3, 1, 0, 0) := rfl
theorem k86_71 : ab_fetch ab_c86 71 = some (.aload_n 0, 1, 0, 0) := rfl
theorem k86_72 : ab_fetch ab_c86 72 = some (.getfield 21, 3, 0, 2) := rfl
theorem k86_75 : ab_fetch ab_c86 75 = some (.getfield 166, 3, 4, 6) := rfl
theorem k86_78 : ab_fetch ab_c86 78 = some (.invokevirtual 169, 3, 62, 5) := rfl
theorem k86_81 : ab_fetch ab_c86 81 = some (.return_, 1, 0, 0) := rfl
/- CodeSmith$Assembler readConstant()V -/
def f86_37 (s : cS) (x1 : Int32) (x2 : Int32) : Option (cS ⊕ cS) := (tb (f45 s (44 : Int32)) fun r1 => (tb (f68 r1 (1 : Int32) (0 : Int32)) fun r2 => (if (r2.2.1 16 5) = 0 then ((f62 r2.2 x1 x2 (2 : Int32) r2.1 (r2.2.1 11 6)).bind fun r3 => some (.inl r3)) else some (.inl r2.2))))
theorem t86_37 {d : Nat} {Z : Nat → ab_C} : ∀ (s : cS) (l : ab_L) (x1 : Int32) (x2 : Int32) (h0 : ab_get l 0 = some (.ref 16)) (h1 : ab_get l 1 = some (.int x1)) (h2 : ab_get l 2 = some (.int x2)) (r : cS ⊕ cS) (e : f86_37 s x1 x2 = some r), ab_Rn (d + 456) 86 37 l [] (ch s Z) (oV r) (ch (zV r) Z) := by
  intro s l x1 x2 h0 h1 h2 r e
  unfold f86_37 at e
  refine r_aload_n (pc := 37) p86 k86_37 h0 ?_
  refine c_get (i := 16) rfl (pc := 38) p86 k86_38 rfl rfl (v := .ref 11) rfl ?_
  refine r_bipush (pc := 41) p86 k86_41 (v := (44 : Int32)) rfl ?_
  rcases of_tb e with ⟨r1, er1, e⟩ | ⟨t, et, rfl⟩
  rotate_left
  · exact c_cvx (i := 11) rfl (pc := 43) p86 k86_43 rfl p45 (r := []) rfl rfl rfl rfl rfl rfl (t45 s (44 : Int32) _ et)
  refine c_cv (i := 11) rfl (pc := 43) p86 k86_43 rfl p45 (r := []) rfl rfl rfl rfl rfl rfl (t45 s (44 : Int32) _ er1) (w := []) rfl ?_
  refine r_aload_n (pc := 46) p86 k86_46 h0 ?_
  refine c_get (i := 16) rfl (pc := 47) p86 k86_47 rfl rfl (v := .ref 17) rfl ?_
  refine r_iconst (pc := 50) p86 k86_50 (v := (1 : Int32)) rfl ?_
  refine r_iconst (pc := 51) p86 k86_51 (v := (0 : Int32)) rfl ?_
  rcases of_tb e with ⟨r2, er2, e⟩ | ⟨t, et, rfl⟩
  rotate_left
  · exact c_cvx (i := 17) rfl (pc := 52) p86 k86_52 rfl p68 (r := []) rfl rfl rfl rfl rfl rfl (t68 r1 (1 : Int32) (0 : Int32) _ et)
  refine c_cv (i := 17) rfl (pc := 52) p86 k86_52 rfl p68 (r := []) rfl rfl rfl rfl rfl rfl (t68 r1 (1 : Int32) (0 : Int32) _ er2) (w := [.int r2.1]) rfl ?_
  refine r_istore_n (pc := 55) p86 k86_55 (by decide) (fun l g h3 => ?_)
  have h0 := g 0 _ (by decide) h0 (Or.inl rfl)
  have h1 := g 1 _ (by decide) h1 (Or.inl rfl)
  have h2 := g 2 _ (by decide) h2 (Or.inl rfl)
  refine r_aload_n (pc := 56) p86 k86_56 h0 ?_
  refine c_get (i := 16) rfl (pc := 57) p86 k86_57 rfl rfl (v := .int (r2.2.1 16 5)) rfl ?_
  refine r_if_ne (pc := 60) p86 k86_60 (fun c => ?_) (fun c => ?_)
  · have e := (if_neg c).symm.trans e
    obtain rfl := Option.some.inj e
    exact r_retV (pc := 81) p86 k86_81 rfl
  · have e := (if_pos c).symm.trans e
    refine r_aload_n (pc := 63) p86 k86_63 h0 ?_
    refine c_get (i := 16) rfl (pc := 64) p86 k86_64 rfl rfl (v := .ref 2) rfl ?_
    refine r_iload_n (pc := 67) p86 k86_67 h1 ?_
    refine r_iload_n (pc := 68) p86 k86_68 h2 ?_
    refine r_iconst (pc := 69) p86 k86_69 (v := (2 : Int32)) rfl ?_
    refine r_iload_n (pc := 70) p86 k86_70 h3 ?_
    refine r_aload_n (pc := 71) p86 k86_71 h0 ?_
    refine c_get (i := 16) rfl (pc := 72) p86 k86_72 rfl rfl (v := .ref 11) rfl ?_
    refine c_get (i := 11) rfl (pc := 75) p86 k86_75 rfl rfl (v := .int (r2.2.1 11 6)) rfl ?_
    obtain ⟨r3, er3, e⟩ := of_bind e
    refine c_cv (i := 2) rfl (pc := 78) p86 k86_78 rfl p62 (r := []) rfl rfl rfl rfl rfl rfl (t62 r2.2 x1 x2 (2 : Int32) r2.1 (r2.2.1 11 6) r3 er3) (w := []) rfl ?_
    obtain rfl := Option.some.inj e
    exact r_retV (pc := 81) p86 k86_81 rfl
def f86 (s : cS) : Option (cS ⊕ cS) := (tb (f45 s (1 : Int32)) fun r1 => (if (r1.1 16 5) = 0 then (tb (f47 r1 (s.1 11 4) (s.1 11 5)) fun r2 => f86_37 r2 (s.1 11 4) (s.1 11 5)) else f86_37 r1 (s.1 11 4) (s.1 11 5)))
theorem t86 {d : Nat} {Z : Nat → ab_C} (s : cS) (r : cS ⊕ cS) (e : f86 s = some r) : ab_Rn (d + 456) 86 0 (lv_args 0 [.ref 16]) [] (ch s Z) (oV r) (ch (zV r) Z) := by
  unfold f86 at e
  obtain ⟨l, hl⟩ : ∃ l, l = (lv_args 0 [.ref 16]) := ⟨_, rfl⟩
  rw [← hl]
  have h0 : ab_get l 0 = some (.ref 16) := by rw [hl]; rfl
  refine r_aload_n (pc := 0) p86 k86_0 h0 ?_
  refine c_get (i := 16) rfl (pc := 1) p86 k86_1 rfl rfl (v := .ref 11) rfl ?_
  refine c_get (i := 11) rfl (pc := 4) p86 k86_4 rfl rfl (v := .int (s.1 11 4)) rfl ?_
  refine r_istore_n (pc := 7) p86 k86_7 (by decide) (fun l g h1 => ?_)
  have h0 := g 0 _ (by decide) h0 (Or.inl rfl)
  refine r_aload_n (pc := 8) p86 k86_8 h0 ?_
  refine c_get (i := 16) rfl (pc := 9) p86 k86_9 rfl rfl (v := .ref 11) rfl ?_
  refine c_get (i := 11) rfl (pc := 12) p86 k86_12 rfl rfl (v := .int (s.1 11 5)) rfl ?_
  refine r_istore_n (pc := 15) p86 k86_15 (by decide) (fun l g h2 => ?_)
  have h0 := g 0 _ (by decide) h0 (Or.inl rfl)
  have h1 := g 1 _ (by decide) h1 (Or.inl rfl)
  refine r_aload_n (pc := 16) p86 k86_16 h0 ?_
  refine c_get (i := 16) rfl (pc := 17) p86 k86_17 rfl rfl (v := .ref 11) rfl ?_
  refine r_iconst (pc := 20) p86 k86_20 (v := (1 : Int32)) rfl ?_
  rcases of_tb e with ⟨r1, er1, e⟩ | ⟨t, et, rfl⟩
  rotate_left
  · exact c_cvx (i := 11) rfl (pc := 21) p86 k86_21 rfl p45 (r := []) rfl rfl rfl rfl rfl rfl (t45 s (1 : Int32) _ et)
  refine c_cv (i := 11) rfl (pc := 21) p86 k86_21 rfl p45 (r := []) rfl rfl rfl rfl rfl rfl (t45 s (1 : Int32) _ er1) (w := []) rfl ?_
  refine r_aload_n (pc := 24) p86 k86_24 h0 ?_
  refine c_get (i := 16) rfl (pc := 25) p86 k86_25 rfl rfl (v := .int (r1.1 16 5)) rfl ?_
  refine r_if_ne (pc := 28) p86 k86_28 (fun c => ?_) (fun c => ?_)
  · have e := (if_neg c).symm.trans e
    exact t86_37 r1 l (s.1 11 4) (s.1 11 5) h0 h1 h2 r e
  · have e := (if_pos c).symm.trans e
    refine r_aload_n (pc := 31) p86 k86_31 h0 ?_
    refine r_iload_n (pc := 32) p86 k86_32 h1 ?_
    refine r_iload_n (pc := 33) p86 k86_33 h2 ?_
    rcases of_tb e with ⟨r2, er2, e⟩ | ⟨t, et, rfl⟩
    rotate_left
    · exact c_cvx (i := 16) rfl (pc := 34) p86 k86_34 rfl p47 (r := []) rfl rfl rfl rfl rfl rfl (t47 r1 (s.1 11 4) (s.1 11 5) _ et)
    refine c_cv (i := 16) rfl (pc := 34) p86 k86_34 rfl p47 (r := []) rfl rfl rfl rfl rfl rfl (t47 r1 (s.1 11 4) (s.1 11 5) _ er2) (w := []) rfl ?_
    exact t86_37 r2 l (s.1 11 4) (s.1 11 5) h0 h1 h2 r e

theorem p88 : ab_prog[88]? = some (ab_m88, ab_c88) := rfl
theorem k88_0 : ab_fetch ab_c88 0 = some (.aload_n 0, 1, 0, 0) := rfl
theorem k88_1 : ab_fetch ab_c88 1 = some (.getfield 59, 3, 4, 15) := rfl
theorem k88_4 : ab_fetch ab_c88 4 = some (.iload_n 1, 1, 0, 0) := rfl
theorem k88_5 : ab_fetch ab_c88 5 = some (.iadd, 1, 0, 0) := rfl
theorem k88_6 : ab_fetch ab_c88 6 = some (.istore_n 2, 1, 0, 0) := rfl
theorem k88_7 : ab_fetch ab_c88 7 = some (.iload_n 2, 1, 0, 0) := rfl
theorem k88_8 : ab_fetch ab_c88 8 = some (.ifCond .lt 21, 3, 29, 0) := rfl
theorem k88_11 : ab_fetch ab_c88 11 = some (.iload_n 2, 1, 0, 0) := rfl
theorem k88_12 : ab_fetch ab_c88 12 = some (.aload_n 0, 1, 0, 0) := rfl
theorem k88_13 : ab_fetch ab_c88 13 = some (.getfield 88, 3, 4, 14) := rfl
theorem k88_16 : ab_fetch ab_c88 16 = some (.if_icmp .ge 13, 3, 29, 0) := rfl
theorem k88_19 : ab_fetch ab_c88 19 = some (.aload_n 0, 1, 0, 0) := rfl
theorem k88_20 : ab_fetch ab_c88 20 = some (.getfield 15, 3, 4, 11) := rfl
theorem k88_23 : ab_fetch ab_c88 23 = some (.iload_n 2, 1, 0, 0) := rfl
theorem k88_24 : ab_fetch ab_c88 24 = some (.iaload, 1, 0, 0) := rfl
theorem k88_25 : ab_fetch ab_c88 25 = some (.iconst 1, 1, 0, 0) := rfl
theorem k88_26 : ab_fetch ab_c88 26 = some (.if_icmp .eq 5, 3, 31, 0) := rfl
theorem k88_29 : ab_fetch ab_c88 29 = some (.iconst (-1), 1, 0, 0) := rfl
theorem k88_30 : ab_fetch ab_c88 30 = some (.ireturn, 1, 0, 0) := rfl
theorem k88_31 : ab_fetch ab_c88 31 = some (.aload_n 0, 1, 0, 0) := rfl
theorem k88_32 : ab_fetch ab_c88 32 = some (.aload_n 0, 1, 0, 0) := rfl
theorem k88_33 : ab_fetch ab_c88 33 = some (.getfield 19, 3, 4, 12) := rfl
theorem k88_36 : ab_fetch ab_c88 36 = some (.iload_n 2, 1, 0, 0) := rfl
theorem k88_37 : ab_fetch ab_c88 37 = some (.iaload, 1, 0, 0) := rfl
theorem k88_38 : ab_fetch ab_c88 38 = some (.aload_n 0, 1, 0, 0) := rfl
theorem k88_39 : ab_fetch ab_c88 39 = some (.getfield 22, 3, 4, 13) := rfl
theorem k88_42 : ab_fetch ab_c88 42 = some (.iload_n 2, 1, 0, 0) := rfl
theorem k88_43 : ab_fetch ab_c88 43 = some (.iaload, 1, 0, 0) := rfl
theorem k88_44 : ab_fetch ab_c88 44 = some (.invokevirtual 91, 3, 48, 2) := rfl
theorem k88_47 : ab_fetch ab_c88 47 = some (.ireturn, 1, 0, 0) := rfl
/- CodeSmith$Tokens registerAhead(I)I -/
def f88 (s : cS) (x1 : Int32) : Option Int32 := (if ((s.1 11 15) + x1) < 0 then some (-1 : Int32) else (if (s.1 11 14) ≤ ((s.1 11 15) + x1) then some (-1 : Int32) else if cB s 1 (s.2.1 11 11) ((s.1 11 15) + x1) then (if (ce s (s.2.1 11 11) ((s.1 11 15) + x1)) = (1 : Int32) then if cB s 1 (s.2.1 11 12) ((s.1 11 15) + x1) then if cB s 1 (s.2.1 11 13) ((s.1 11 15) + x1) then ((f48 s (ce s (s.2.1 11 12) ((s.1 11 15) + x1)) (ce s (s.2.1 11 13) ((s.1 11 15) + x1))).bind fun r1 => some r1) else none else none else some (-1 : Int32)) else none))
theorem t88 {d : Nat} {Z : Nat → ab_C} (s : cS) (x1 : Int32) (r : Int32) (e : f88 s x1 = some r) : ab_Rn (d + 7) 88 0 (lv_args 0 [.ref 11, .int x1]) [] (ch s Z) (.inl (some (.int r))) (ch s Z) := by
  unfold f88 at e
  obtain ⟨l, hl⟩ : ∃ l, l = (lv_args 0 [.ref 11, .int x1]) := ⟨_, rfl⟩
  rw [← hl]
  have h0 : ab_get l 0 = some (.ref 11) := by rw [hl]; rfl
  have h1 : ab_get l 1 = some (.int x1) := by rw [hl]; rfl
  refine r_aload_n (pc := 0) p88 k88_0 h0 ?_
  refine c_get (i := 11) rfl (pc := 1) p88 k88_1 rfl rfl (v := .int (s.1 11 15)) rfl ?_
  refine r_iload_n (pc := 4) p88 k88_4 h1 ?_
  refine r_iadd (pc := 5) p88 k88_5 ?_
  refine r_istore_n (pc := 6) p88 k88_6 (by decide) (fun l g h2 => ?_)
  have h0 := g 0 _ (by decide) h0 (Or.inl rfl)
  refine r_iload_n (pc := 7) p88 k88_7 h2 ?_
  refine r_if_lt (pc := 8) p88 k88_8 (fun c => ?_) (fun c => ?_)
  · have e := (if_pos c).symm.trans e
    refine r_iconst (pc := 29) p88 k88_29 (v := (-1 : Int32)) rfl ?_
    obtain rfl := Option.some.inj e
    exact r_retI (pc := 30) p88 k88_30 rfl
  · have e := (if_neg c).symm.trans e
    refine r_iload_n (pc := 11) p88 k88_11 h2 ?_
    refine r_aload_n (pc := 12) p88 k88_12 h0 ?_
    refine c_get (i := 11) rfl (pc := 13) p88 k88_13 rfl rfl (v := .int (s.1 11 14)) rfl ?_
    refine r_ic_ge (pc := 16) p88 k88_16 (fun c => ?_) (fun c => ?_)
    · have e := (if_pos c).symm.trans e
      refine r_iconst (pc := 29) p88 k88_29 (v := (-1 : Int32)) rfl ?_
      obtain rfl := Option.some.inj e
      exact r_retI (pc := 30) p88 k88_30 rfl
    · have e := (if_neg c).symm.trans e
      refine r_aload_n (pc := 19) p88 k88_19 h0 ?_
      refine c_get (i := 11) rfl (pc := 20) p88 k88_20 rfl rfl (v := .ref (s.2.1 11 11)) rfl ?_
      refine r_iload_n (pc := 23) p88 k88_23 h2 ?_
      obtain ⟨c, e⟩ := of_if e
      refine c_ild (pc := 24) p88 k88_24 c ?_
      refine r_iconst (pc := 25) p88 k88_25 (v := (1 : Int32)) rfl ?_
      refine r_ic_eq (pc := 26) p88 k88_26 (fun c => ?_) (fun c => ?_)
      · have e := (if_pos c).symm.trans e
        refine r_aload_n (pc := 31) p88 k88_31 h0 ?_
        refine r_aload_n (pc := 32) p88 k88_32 h0 ?_
        refine c_get (i := 11) rfl (pc := 33) p88 k88_33 rfl rfl (v := .ref (s.2.1 11 12)) rfl ?_
        refine r_iload_n (pc := 36) p88 k88_36 h2 ?_
        obtain ⟨c, e⟩ := of_if e
        refine c_ild (pc := 37) p88 k88_37 c ?_
        refine r_aload_n (pc := 38) p88 k88_38 h0 ?_
        refine c_get (i := 11) rfl (pc := 39) p88 k88_39 rfl rfl (v := .ref (s.2.1 11 13)) rfl ?_
        refine r_iload_n (pc := 42) p88 k88_42 h2 ?_
        obtain ⟨c, e⟩ := of_if e
        refine c_ild (pc := 43) p88 k88_43 c ?_
        obtain ⟨r1, er1, e⟩ := of_bind e
        refine c_cv (i := 11) rfl (pc := 44) p88 k88_44 rfl p48 (r := []) rfl rfl rfl rfl rfl rfl (t48 s (ce s (s.2.1 11 12) ((s.1 11 15) + x1)) (ce s (s.2.1 11 13) ((s.1 11 15) + x1)) r1 er1) (w := [.int r1]) rfl ?_
        obtain rfl := Option.some.inj e
        exact r_retI (pc := 47) p88 k88_47 rfl
      · have e := (if_neg c).symm.trans e
        refine r_iconst (pc := 29) p88 k88_29 (v := (-1 : Int32)) rfl ?_
        obtain rfl := Option.some.inj e
        exact r_retI (pc := 30) p88 k88_30 rfl

theorem p87 : ab_prog[87]? = some (ab_m87, ab_c87) := rfl
theorem k87_0 : ab_fetch ab_c87 0 = some (.aload_n 1, 1, 0, 0) := rfl
theorem k87_1 : ab_fetch ab_c87 1 = some (.getstatic 222, 3, 439, 0) := rfl
theorem k87_4 : ab_fetch ab_c87 4 = some (.if_acmp .ne 23, 3, 27, 0) := rfl
theorem k87_7 : ab_fetch ab_c87 7 = some (.aload_n 0, 1, 0, 0) := rfl
theorem k87_8 : ab_fetch ab_c87 8 = some (.getfield 21, 3, 0, 2) := rfl
theorem k87_11 : ab_fetch ab_c87 11 = some (.iconst 0, 1, 0, 0) := rfl
theorem k87_12 : ab_fetch ab_c87 12 = some (.invokevirtual 226, 3, 88, 1) := rfl
theorem k87_15 : ab_fetch ab_c87 15 = some (.iconst (-1), 1, 0, 0) := rfl
theorem k87_16 : ab_fetch ab_c87 16 = some (.if_icmp .ne 11, 3, 27, 0) := rfl
theorem k87_19 : ab_fetch ab_c87 19 = some (.aload_n 0, 1, 0, 0) := rfl
theorem k87_20 : ab_fetch ab_c87 20 = some (.iconst 1, 1, 0, 0) := rfl
theorem k87_21 : ab_fetch ab_c87 21 = some (.putfield 187, 3, 0, 11) := rfl
theorem k87_24 : ab_fetch ab_c87 24 = some (.ldc 229, 2, 6, 1) := rfl
theorem k87_26 : ab_fetch ab_c87 26 = some (.areturn, 1, 0, 0) := rfl
theorem k87_27 : ab_fetch ab_c87 27 = some (.aload_n 1, 1, 0, 0) := rfl
theorem k87_28 : ab_fetch ab_c87 28 = some (.getstatic 231, 3, 440, 0) := rfl
theorem k87_31 : ab_fetch ab_c87 31 = some (.if_acmp .ne 23, 3, 54, 0) := rfl
theorem k87_34 : ab_fetch ab_c87 34 = some (.aload_n 0, 1, 0, 0) := rfl
theorem k87_35 : ab_fetch ab_c87 35 = some (.getfield 21, 3, 0, 2) := rfl
theorem k87_38 : ab_fetch ab_c87 38 = some (.invokevirtual 151, 3, 44, 0) := rfl
theorem k87_41 : ab_fetch ab_c87 41 = some (.bipush 44, 2, 0, 0) := rfl
theorem k87_43 : ab_fetch ab_c87 43 = some (.if_icmp .eq 11, 3, 54, 0) := rfl
theorem k87_46 : ab_fetch ab_c87 46 = some (.aload_n 0, 1, 0, 0) := rfl
theorem k87_47 : ab_fetch ab_c87 47 = some (.iconst 1, 1, 0, 0) := rfl
theorem k87_48 : ab_fetch ab_c87 48 = some (.putfield 187, 3, 0, 11) := rfl
theorem k87_51 : ab_fetch ab_c87 51 = some (.ldc 234, 2, 7, 1) := rfl
theorem k87_53 : ab_fetch ab_c87 53 = some (.areturn, 1, 0, 0) := rfl
theorem k87_54 : ab_fetch ab_c87 54 = some (.aload_n 1, 1, 0, 0) := rfl
theorem k87_55 : ab_fetch ab_c87 55 = some (.getfield 235, 3, 100, 3) := rfl
theorem k87_58 : ab_fetch ab_c87 58 = some (.areturn, 1, 0, 0) := rfl
/- CodeSmith$Assembler patternOf(LCodeSmith$Statement;)Ljava/lang/String; -/
def f87_54 (s : cS) (x1 : Nat) : Option (Nat × cS) := if cE x1 then some ((en x1).2.1, s) else none
theorem t87_54 {d : Nat} {Z : Nat → ab_C} : ∀ (s : cS) (l : ab_L) (x1 : Nat) (h1 : ab_get l 1 = some (.retAddr x1)) (r : Nat × cS) (e : f87_54 s x1 = some r), ab_Rn (d + 8) 87 54 l [] (ch s Z) (.inl (some (.retAddr r.1))) (ch r.2 Z) := by
  intro s l x1 h1 r e
  unfold f87_54 at e
  refine r_aloadS_n (pc := 54) p87 k87_54 h1 ?_
  obtain ⟨c, e⟩ := of_if e
  refine r_sget (pc := 55) p87 k87_55 (en_patt c) ?_
  obtain rfl := Option.some.inj e
  dsimp only
  exact r_retS (pc := 58) p87 k87_58 rfl
def f87_27 (s : cS) (x1 : Nat) : Option (Nat × cS) := if cE x1 then (if x1 = 440 then ((f44 s).bind fun r1 => (if r1 = (44 : Int32) then f87_54 s x1 else some (7, (cg s 16 11 (1 : Int32))))) else f87_54 s x1) else none
theorem t87_27 {d : Nat} {Z : Nat → ab_C} : ∀ (s : cS) (l : ab_L) (x1 : Nat) (h0 : ab_get l 0 = some (.ref 16)) (h1 : ab_get l 1 = some (.retAddr x1)) (r : Nat × cS) (e : f87_27 s x1 = some r), ab_Rn (d + 8) 87 27 l [] (ch s Z) (.inl (some (.retAddr r.1))) (ch r.2 Z) := by
  intro s l x1 h0 h1 r e
  unfold f87_27 at e
  refine r_aloadS_n (pc := 27) p87 k87_27 h1 ?_
  refine r_gstS (pc := 28) p87 k87_28 ?_
  obtain ⟨cx, e⟩ := of_if e
  refine r_acmp (pc := 31) p87 k87_31 cx (by decide) (fun c => ?_) (fun c => ?_)
  · have e := (if_neg c).symm.trans e
    exact t87_54 s l x1 h1 r e
  · have e := (if_pos c).symm.trans e
    refine r_aload_n (pc := 34) p87 k87_34 h0 ?_
    refine c_get (i := 16) rfl (pc := 35) p87 k87_35 rfl rfl (v := .ref 11) rfl ?_
    obtain ⟨r1, er1, e⟩ := of_bind e
    refine c_cv (i := 11) rfl (pc := 38) p87 k87_38 rfl p44 (r := []) rfl rfl rfl rfl rfl rfl (t44 s r1 er1) (w := [.int r1]) rfl ?_
    refine r_bipush (pc := 41) p87 k87_41 (v := (44 : Int32)) rfl ?_
    refine r_ic_eq (pc := 43) p87 k87_43 (fun c => ?_) (fun c => ?_)
    · have e := (if_pos c).symm.trans e
      exact t87_54 s l x1 h1 r e
    · have e := (if_neg c).symm.trans e
      refine r_aload_n (pc := 46) p87 k87_46 h0 ?_
      refine r_iconst (pc := 47) p87 k87_47 (v := (1 : Int32)) rfl ?_
      refine c_put (i := 16) rfl (pc := 48) p87 k87_48 rfl rfl rfl (cc_g16 _ Z 11 _) (cs16_11 _ _) rfl rfl ?_
      refine r_ldS (pc := 51) p87 k87_51 ?_
      obtain rfl := Option.some.inj e
      dsimp only
      exact r_retS (pc := 53) p87 k87_53 rfl
def f87 (s : cS) (x1 : Nat) : Option (Nat × cS) := if cE x1 then (if x1 = 439 then ((f88 s (0 : Int32)).bind fun r1 => (if r1 = (-1 : Int32) then some (6, (cg s 16 11 (1 : Int32))) else f87_27 s x1)) else f87_27 s x1) else none
theorem t87 {d : Nat} {Z : Nat → ab_C} (s : cS) (x1 : Nat) (r : Nat × cS) (e : f87 s x1 = some r) : ab_Rn (d + 8) 87 0 (lv_args 0 [.ref 16, .retAddr x1]) [] (ch s Z) (.inl (some (.retAddr r.1))) (ch r.2 Z) := by
  unfold f87 at e
  obtain ⟨l, hl⟩ : ∃ l, l = (lv_args 0 [.ref 16, .retAddr x1]) := ⟨_, rfl⟩
  rw [← hl]
  have h0 : ab_get l 0 = some (.ref 16) := by rw [hl]; rfl
  have h1 : ab_get l 1 = some (.retAddr x1) := by rw [hl]; rfl
  refine r_aloadS_n (pc := 0) p87 k87_0 h1 ?_
  refine r_gstS (pc := 1) p87 k87_1 ?_
  obtain ⟨cx, e⟩ := of_if e
  refine r_acmp (pc := 4) p87 k87_4 cx (by decide) (fun c => ?_) (fun c => ?_)
  · have e := (if_neg c).symm.trans e
    exact t87_27 s l x1 h0 h1 r e
  · have e := (if_pos c).symm.trans e
    refine r_aload_n (pc := 7) p87 k87_7 h0 ?_
    refine c_get (i := 16) rfl (pc := 8) p87 k87_8 rfl rfl (v := .ref 11) rfl ?_
    refine r_iconst (pc := 11) p87 k87_11 (v := (0 : Int32)) rfl ?_
    obtain ⟨r1, er1, e⟩ := of_bind e
    refine c_cv (i := 11) rfl (pc := 12) p87 k87_12 rfl p88 (r := []) rfl rfl rfl rfl rfl rfl (t88 s (0 : Int32) r1 er1) (w := [.int r1]) rfl ?_
    refine r_iconst (pc := 15) p87 k87_15 (v := (-1 : Int32)) rfl ?_
    refine r_ic_ne (pc := 16) p87 k87_16 (fun c => ?_) (fun c => ?_)
    · have e := (if_neg c).symm.trans e
      exact t87_27 s l x1 h0 h1 r e
    · have e := (if_pos c).symm.trans e
      refine r_aload_n (pc := 19) p87 k87_19 h0 ?_
      refine r_iconst (pc := 20) p87 k87_20 (v := (1 : Int32)) rfl ?_
      refine c_put (i := 16) rfl (pc := 21) p87 k87_21 rfl rfl rfl (cc_g16 _ Z 11 _) (cs16_11 _ _) rfl rfl ?_
      refine r_ldS (pc := 24) p87 k87_24 ?_
      obtain rfl := Option.some.inj e
      dsimp only
      exact r_retS (pc := 26) p87 k87_26 rfl

theorem p90 : ab_prog[90]? = some (ab_m90, ab_c90) := rfl
theorem k90_0 : ab_fetch ab_c90 0 = some (.aload_n 0, 1, 0, 0) := rfl
theorem k90_1 : ab_fetch ab_c90 1 = some (.getfield 21, 3, 0, 2) := rfl
theorem k90_4 : ab_fetch ab_c90 4 = some (.getfield 89, 3, 4, 4) := rfl
theorem k90_7 : ab_fetch ab_c90 7 = some (.istore_n 1, 1, 0, 0) := rfl
theorem k90_8 : ab_fetch ab_c90 8 = some (.aload_n 0, 1, 0, 0) := rfl
theorem k90_9 : ab_fetch ab_c90 9 = some (.getfield 21, 3, 0, 2) := rfl
theorem k90_12 : ab_fetch ab_c90 12 = some (.iconst 0, 1, 0, 0) := rfl
theorem k90_13 : ab_fetch ab_c90 13 = some (.invokevirtual 226, 3, 88, 1) := rfl
theorem k90_16 : ab_fetch ab_c90 16 = some (.istore_n 2, 1, 0, 0) := rfl
theorem k90_17 : ab_fetch ab_c90 17 = some (.aload_n 0, 1, 0, 0) := rfl
theorem k90_18 : ab_fetch ab_c90 18 = some (.getfield 21, 3, 0, 2) := rfl
theorem k90_21 : ab_fetch ab_c90 21 = some (.iconst 1, 1, 0, 0) := rfl
theorem k90_22 : ab_fetch ab_c90 22 = some (.invokevirtual 98, 3, 45, 1) := rfl
theorem k90_25 : ab_fetch ab_c90 25 = some (.iload_n 2, 1, 0, 0) := rfl
theorem k90_26 : ab_fetch ab_c90 26 = some (.iconst (-1), 1, 0, 0) := rfl
theorem k90_27 : ab_fetch ab_c90 27 = some (.if_icmp .ne 12, 3, 39, 0) := rfl
theorem k90_30 : ab_fetch ab_c90 30 = some (.aload_n 0, 1, 0, 0) := rfl
theorem k90_31 : ab_fetch ab_c90 31 = some (.getfield 21, 3, 0, 2) := rfl
theorem k90_34 : ab_fetch ab_c90 34 = some (.iload_n 1, 1, 0, 0) := rfl
theorem k90_35 : ab_fetch ab_c90 35 = some (.iconst 1, 1, 0, 0) := rfl
theorem k90_36 : ab_fetch ab_c90 36 = some (.invokevirtual 106, 3, 46, 2) := rfl
theorem k90_39 : ab_fetch ab_c90 39 = some (.iload_n 2, 1, 0, 0) := rfl
theorem k90_40 : ab_fetch ab_c90 40 = some (.ireturn, 1, 0, 0) := rfl
/- CodeSmith$Assembler readRegister()I -/
def f90 (s : cS) : Option ((Int32 × cS) ⊕ cS) := ((f88 s (0 : Int32)).bind fun r1 => (tb (f45 s (1 : Int32)) fun r2 => (if r1 = (-1 : Int32) then some (.inr (f46 r2 (s.1 11 4) (1 : Int32))) else some (.inl (r1, r2)))))
theorem t90 {d : Nat} {Z : Nat → ab_C} (s : cS) (r : (Int32 × cS) ⊕ cS) (e : f90 s = some r) : ab_Rn (d + 8) 90 0 (lv_args 0 [.ref 16]) [] (ch s Z) (oI r) (ch (zI r) Z) := by
  unfold f90 at e
  obtain ⟨l, hl⟩ : ∃ l, l = (lv_args 0 [.ref 16]) := ⟨_, rfl⟩
  rw [← hl]
  have h0 : ab_get l 0 = some (.ref 16) := by rw [hl]; rfl
  refine r_aload_n (pc := 0) p90 k90_0 h0 ?_
  refine c_get (i := 16) rfl (pc := 1) p90 k90_1 rfl rfl (v := .ref 11) rfl ?_
  refine c_get (i := 11) rfl (pc := 4) p90 k90_4 rfl rfl (v := .int (s.1 11 4)) rfl ?_
  refine r_istore_n (pc := 7) p90 k90_7 (by decide) (fun l g h1 => ?_)
  have h0 := g 0 _ (by decide) h0 (Or.inl rfl)
  refine r_aload_n (pc := 8) p90 k90_8 h0 ?_
  refine c_get (i := 16) rfl (pc := 9) p90 k90_9 rfl rfl (v := .ref 11) rfl ?_
  refine r_iconst (pc := 12) p90 k90_12 (v := (0 : Int32)) rfl ?_
  obtain ⟨r1, er1, e⟩ := of_bind e
  refine c_cv (i := 11) rfl (pc := 13) p90 k90_13 rfl p88 (r := []) rfl rfl rfl rfl rfl rfl (t88 s (0 : Int32) r1 er1) (w := [.int r1]) rfl ?_
  refine r_istore_n (pc := 16) p90 k90_16 (by decide) (fun l g h2 => ?_)
  have h0 := g 0 _ (by decide) h0 (Or.inl rfl)
  have h1 := g 1 _ (by decide) h1 (Or.inl rfl)
  refine r_aload_n (pc := 17) p90 k90_17 h0 ?_
  refine c_get (i := 16) rfl (pc := 18) p90 k90_18 rfl rfl (v := .ref 11) rfl ?_
  refine r_iconst (pc := 21) p90 k90_21 (v := (1 : Int32)) rfl ?_
  rcases of_tb e with ⟨r2, er2, e⟩ | ⟨t, et, rfl⟩
  rotate_left
  · exact c_cvx (i := 11) rfl (pc := 22) p90 k90_22 rfl p45 (r := []) rfl rfl rfl rfl rfl rfl (t45 s (1 : Int32) _ et)
  refine c_cv (i := 11) rfl (pc := 22) p90 k90_22 rfl p45 (r := []) rfl rfl rfl rfl rfl rfl (t45 s (1 : Int32) _ er2) (w := []) rfl ?_
  refine r_iload_n (pc := 25) p90 k90_25 h2 ?_
  refine r_iconst (pc := 26) p90 k90_26 (v := (-1 : Int32)) rfl ?_
  refine r_ic_ne (pc := 27) p90 k90_27 (fun c => ?_) (fun c => ?_)
  · have e := (if_neg c).symm.trans e
    refine r_iload_n (pc := 39) p90 k90_39 h2 ?_
    obtain rfl := Option.some.inj e
    exact r_retI (pc := 40) p90 k90_40 rfl
  · have e := (if_pos c).symm.trans e
    refine r_aload_n (pc := 30) p90 k90_30 h0 ?_
    refine c_get (i := 16) rfl (pc := 31) p90 k90_31 rfl rfl (v := .ref 11) rfl ?_
    refine r_iload_n (pc := 34) p90 k90_34 h1 ?_
    refine r_iconst (pc := 35) p90 k90_35 (v := (1 : Int32)) rfl ?_
    cases e
    exact c_cvx (i := 11) rfl (pc := 36) p90 k90_36 rfl p46 (r := []) rfl rfl rfl rfl rfl rfl (t46 r2 (s.1 11 4) (1 : Int32) _ rfl)

theorem p91 : ab_prog[91]? = some (ab_m91, ab_c91) := rfl
theorem k91_0 : ab_fetch ab_c91 0 = some (.iload_n 2, 1, 0, 0) := rfl
theorem k91_1 : ab_fetch ab_c91 1 = some (.iconst 1, 1, 0, 0) := rfl
theorem k91_2 : ab_fetch ab_c91 2 = some (.iadd, 1, 0, 0) := rfl
theorem k91_3 : ab_fetch ab_c91 3 = some (.aload_n 1, 1, 0, 0) := rfl
theorem k91_4 : ab_fetch ab_c91 4 = some (.invokevirtual 238, 3, 52, 0) := rfl
theorem k91_7 : ab_fetch ab_c91 7 = some (.if_icmp .ge 43, 3, 50, 0) := rfl
theorem k91_10 : ab_fetch ab_c91 10 = some (.aload_n 1, 1, 0, 0) := rfl
theorem k91_11 : ab_fetch ab_c91 11 = some (.iload_n 2, 1, 0, 0) := rfl
theorem k91_12 : ab_fetch ab_c91 12 = some (.iconst 1, 1, 0, 0) := rfl
theorem k91_13 : ab_fetch ab_c91 13 = some (.iadd, 1, 0, 0) := rfl
theorem k91_14 : ab_fetch ab_c91 14 = some (.invokevirtual 242, 3, 54, 1) := rfl
theorem k91_17 : ab_fetch ab_c91 17 = some (.bipush 40, 2, 0, 0) := rfl
theorem k91_19 : ab_fetch ab_c91 19 = some (.if_icmp .ne 31, 3, 50, 0) := rfl
theorem k91_22 : ab_fetch ab_c91 22 = some (.aload_n 0, 1, 0, 0) := rfl
theorem k91_23 : ab_fetch ab_c91 23 = some (.getfield 21, 3, 0, 2) := rfl
theorem k91_26 : ab_fetch ab_c91 26 = some (.getfield 84, 3, 4, 3) := rfl
theorem k91_29 : ab_fetch ab_c91 29 = some (.bipush 40, 2, 0, 0) := rfl
theorem k91_31 : ab_fetch ab_c91 31 = some (.if_icmp .ne 19, 3, 50, 0) := rfl
theorem k91_34 : ab_fetch ab_c91 34 = some (.aload_n 0, 1, 0, 0) := rfl
theorem k91_35 : ab_fetch ab_c91 35 = some (.getfield 21, 3, 0, 2) := rfl
theorem k91_38 : ab_fetch ab_c91 38 = some (.iconst 1, 1, 0, 0) := rfl
theorem k91_39 : ab_fetch ab_c91 39 = some (.invokevirtual 226, 3, 88, 1) := rfl
theorem k91_42 : ab_fetch ab_c91 42 = some (.iconst (-1), 1, 0, 0) := rfl
theorem k91_43 : ab_fetch ab_c91 43 = some (.if_icmp .eq 7, 3, 50, 0) := rfl
theorem k91_46 : ab_fetch ab_c91 46 = some (.iconst 1, 1, 0, 0) := rfl
theorem k91_47 : ab_fetch ab_c91 47 = some (.goto 4, 3, 51, 0) := rfl
theorem k91_50 : ab_fetch ab_c91 50 = some (.iconst 0, 1, 0, 0) := rfl
theorem k91_51 : ab_fetch ab_c91 51 = some (.ireturn, 1, 0, 0) := rfl
/- CodeSmith$Assembler isBaseAlone(Ljava/lang/String;I)Z -/
def f91 (s : cS) (x1 : Nat) (x2 : Int32) : Option Int32 := if x1 < 106 then (if (Int32.ofNat (sl x1)) ≤ (x2 + (1 : Int32)) then some (0 : Int32) else if cJ x1 (x2 + (1 : Int32)) then (if (sc x1 (x2 + (1 : Int32))) = (40 : Int32) then (if (s.1 11 3) = (40 : Int32) then ((f88 s (1 : Int32)).bind fun r1 => (if r1 = (-1 : Int32) then some (0 : Int32) else some (1 : Int32))) else some (0 : Int32)) else some (0 : Int32)) else none) else none
theorem t91 {d : Nat} {Z : Nat → ab_C} (s : cS) (x1 : Nat) (x2 : Int32) (r : Int32) (e : f91 s x1 x2 = some r) : ab_Rn (d + 8) 91 0 (lv_args 0 [.ref 16, .retAddr x1, .int x2]) [] (ch s Z) (.inl (some (.int r))) (ch s Z) := by
  unfold f91 at e
  obtain ⟨l, hl⟩ : ∃ l, l = (lv_args 0 [.ref 16, .retAddr x1, .int x2]) := ⟨_, rfl⟩
  rw [← hl]
  have h0 : ab_get l 0 = some (.ref 16) := by rw [hl]; rfl
  have h1 : ab_get l 1 = some (.retAddr x1) := by rw [hl]; rfl
  have h2 : ab_get l 2 = some (.int x2) := by rw [hl]; rfl
  refine r_iload_n (pc := 0) p91 k91_0 h2 ?_
  refine r_iconst (pc := 1) p91 k91_1 (v := (1 : Int32)) rfl ?_
  refine r_iadd (pc := 2) p91 k91_2 ?_
  refine r_aloadS_n (pc := 3) p91 k91_3 h1 ?_
  obtain ⟨c, e⟩ := of_if e
  refine r_cvs (k := x1) c (pc := 4) p91 k91_4 rfl p52 (r := [.int (x2 + (1 : Int32))]) rfl rfl rfl rfl rfl (t52 x1 c) (w := [.int (Int32.ofNat (sl x1)), .int (x2 + (1 : Int32))]) rfl ?_
  refine r_ic_ge (pc := 7) p91 k91_7 (fun c => ?_) (fun c => ?_)
  · have e := (if_pos c).symm.trans e
    refine r_iconst (pc := 50) p91 k91_50 (v := (0 : Int32)) rfl ?_
    obtain rfl := Option.some.inj e
    exact r_retZ (pc := 51) p91 k91_51 rfl (Or.inl rfl)
  · have e := (if_neg c).symm.trans e
    refine r_aloadS_n (pc := 10) p91 k91_10 h1 ?_
    refine r_iload_n (pc := 11) p91 k91_11 h2 ?_
    refine r_iconst (pc := 12) p91 k91_12 (v := (1 : Int32)) rfl ?_
    refine r_iadd (pc := 13) p91 k91_13 ?_
    obtain ⟨c, e⟩ := of_if e
    refine r_cvs (k := x1) c.1 (pc := 14) p91 k91_14 rfl p54 (r := []) rfl rfl rfl rfl rfl (t54 x1 (x2 + (1 : Int32)) c) (w := [.int (sc x1 (x2 + (1 : Int32)))]) rfl ?_
    refine r_bipush (pc := 17) p91 k91_17 (v := (40 : Int32)) rfl ?_
    refine r_ic_ne (pc := 19) p91 k91_19 (fun c => ?_) (fun c => ?_)
    · have e := (if_neg c).symm.trans e
      refine r_iconst (pc := 50) p91 k91_50 (v := (0 : Int32)) rfl ?_
      obtain rfl := Option.some.inj e
      exact r_retZ (pc := 51) p91 k91_51 rfl (Or.inl rfl)
    · have e := (if_pos c).symm.trans e
      refine r_aload_n (pc := 22) p91 k91_22 h0 ?_
      refine c_get (i := 16) rfl (pc := 23) p91 k91_23 rfl rfl (v := .ref 11) rfl ?_
      refine c_get (i := 11) rfl (pc := 26) p91 k91_26 rfl rfl (v := .int (s.1 11 3)) rfl ?_
      refine r_bipush (pc := 29) p91 k91_29 (v := (40 : Int32)) rfl ?_
      refine r_ic_ne (pc := 31) p91 k91_31 (fun c => ?_) (fun c => ?_)
      · have e := (if_neg c).symm.trans e
        refine r_iconst (pc := 50) p91 k91_50 (v := (0 : Int32)) rfl ?_
        obtain rfl := Option.some.inj e
        exact r_retZ (pc := 51) p91 k91_51 rfl (Or.inl rfl)
      · have e := (if_pos c).symm.trans e
        refine r_aload_n (pc := 34) p91 k91_34 h0 ?_
        refine c_get (i := 16) rfl (pc := 35) p91 k91_35 rfl rfl (v := .ref 11) rfl ?_
        refine r_iconst (pc := 38) p91 k91_38 (v := (1 : Int32)) rfl ?_
        obtain ⟨r1, er1, e⟩ := of_bind e
        refine c_cv (i := 11) rfl (pc := 39) p91 k91_39 rfl p88 (r := []) rfl rfl rfl rfl rfl rfl (t88 s (1 : Int32) r1 er1) (w := [.int r1]) rfl ?_
        refine r_iconst (pc := 42) p91 k91_42 (v := (-1 : Int32)) rfl ?_
        refine r_ic_eq (pc := 43) p91 k91_43 (fun c => ?_) (fun c => ?_)
        · have e := (if_pos c).symm.trans e
          refine r_iconst (pc := 50) p91 k91_50 (v := (0 : Int32)) rfl ?_
          obtain rfl := Option.some.inj e
          exact r_retZ (pc := 51) p91 k91_51 rfl (Or.inl rfl)
        · have e := (if_neg c).symm.trans e
          refine r_iconst (pc := 46) p91 k91_46 (v := (1 : Int32)) rfl ?_
          refine r_goto (pc := 47) p91 k91_47 ?_
          obtain rfl := Option.some.inj e
          exact r_retZ (pc := 51) p91 k91_51 rfl (Or.inr rfl)

theorem p89 : ab_prog[89]? = some (ab_m89, ab_c89) := rfl
theorem k89_0 : ab_fetch ab_c89 0 = some (.iconst 0, 1, 0, 0) := rfl
theorem k89_1 : ab_fetch ab_c89 1 = some (.istore_n 2, 1, 0, 0) := rfl
theorem k89_2 : ab_fetch ab_c89 2 = some (.iload_n 2, 1, 0, 0) := rfl
theorem k89_3 : ab_fetch ab_c89 3 = some (.aload_n 1, 1, 0, 0) := rfl
theorem k89_4 : ab_fetch ab_c89 4 = some (.invokevirtual 238, 3, 52, 0) := rfl
theorem k89_7 : ab_fetch ab_c89 7 = some (.if_icmp .ge 164, 3, 171, 0) := rfl
theorem k89_10 : ab_fetch ab_c89 10 = some (.aload_n 1, 1, 0, 0) := rfl
theorem k89_11 : ab_fetch ab_c89 11 = some (.iload_n 2, 1, 0, 0) := rfl
theorem k89_12 : ab_fetch ab_c89 12 = some (.invokevirtual 242, 3, 54, 1) := rfl
theorem k89_15 : ab_fetch ab_c89 15 = some (.istore_n 3, 1, 0, 0) := rfl
theorem k89_16 : ab_fetch ab_c89 16 = some (.iload_n 3, 1, 0, 0) := rfl
theorem k89_17 : ab_fetch ab_c89 17 = some (.tableswitch 140 97 110 #[82, 93, 140, 71, 115, 140, 140, 140, 140, 140, 140, 140, 140, 104], 71, 0, 0) := rfl
theorem k89_88 : ab_fetch ab_c89 88 = some (.aload_n 0, 1, 0, 0) := rfl
theorem k89_89 : ab_fetch ab_c89 89 = some (.aload_n 0, 1, 0, 0) := rfl
theorem k89_90 : ab_fetch ab_c89 90 = some (.invokevirtual 246, 3, 90, 0) := rfl
theorem k89_93 : ab_fetch ab_c89 93 = some (.putfield 187, 3, 0, 11) := rfl
theorem k89_96 : ab_fetch ab_c89 96 = some (.goto 69, 3, 165, 0) := rfl
theorem k89_99 : ab_fetch ab_c89 99 = some (.aload_n 0, 1, 0, 0) := rfl
theorem k89_100 : ab_fetch ab_c89 100 = some (.aload_n 0, 1, 0, 0) := rfl
theorem k89_101 : ab_fetch ab_c89 101 = some (.invokevirtual 246, 3, 90, 0) := rfl
theorem k89_104 : ab_fetch ab_c89 104 = some (.putfield 190, 3, 0, 12) := rfl
theorem k89_107 : ab_fetch ab_c89 107 = some (.goto 58, 3, 165, 0) := rfl
theorem k89_110 : ab_fetch ab_c89 110 = some (.aload_n 0, 1, 0, 0) := rfl
theorem k89_111 : ab_fetch ab_c89 111 = some (.aload_n 0, 1, 0, 0) := rfl
theorem k89_112 : ab_fetch ab_c89 112 = some (.invokevirtual 246, 3, 90, 0) := rfl
theorem k89_115 : ab_fetch ab_c89 115 = some (.putfield 193, 3, 0, 13) := rfl
theorem k89_118 : ab_fetch ab_c89 118 = some (.goto 47, 3, 165, 0) := rfl
theorem k89_121 : ab_fetch ab_c89 121 = some (.aload_n 0, 1, 0, 0) := rfl
theorem k89_122 : ab_fetch ab_c89 122 = some (.getfield 21, 3, 0, 2) := rfl
theorem k89_125 : ab_fetch ab_c89 125 = some (.iconst 1, 1, 0, 0) := rfl
theorem k89_126 : ab_fetch ab_c89 126 = some (.invokevirtual 98, 3, 45, 1) := rfl
theorem k89_129 : ab_fetch ab_c89 129 = some (.goto 36, 3, 165, 0) := rfl
theorem k89_132 : ab_fetch ab_c89 132 = some (.aload_n 0, 1, 0, 0) := rfl
theorem k89_133 : ab_fetch ab_c89 133 = some (.aload_n 1, 1, 0, 0) := rfl
theorem k89_134 : ab_fetch ab_c89 134 = some (.iload_n 2, 1, 0, 0) := rfl
theorem k89_135 : ab_fetch ab_c89 135 = some (.invokevirtual 249, 3, 91, 2) := rfl
theorem k89_138 : ab_fetch ab_c89 138 = some (.ifCond .ne 27, 3, 165, 0) := rfl
theorem k89_141 : ab_fetch ab_c89 141 = some (.aload_n 0, 1, 0, 0) := rfl
theorem k89_142 : ab_fetch ab_c89 142 = some (.aload_n 0, 1, 0, 0) := rfl
theorem k89_143 : ab_fetch ab_c89 143 = some (.getfield 29, 3, 0, 4) := rfl
theorem k89_146 : ab_fetch ab_c89 146 = some (.iconst 1, 1, 0, 0) := rfl
theorem k89_147 : ab_fetch ab_c89 147 = some (.iconst 0, 1, 0, 0) := rfl
theorem k89_148 : ab_fetch ab_c89 148 = some (.invokevirtual 209, 3, 68, 2) := rfl
theorem k89_151 : ab_fetch ab_c89 151 = some (.putfield 196, 3, 0, 14) := rfl
theorem k89_154 : ab_fetch ab_c89 154 = some (.goto 11, 3, 165, 0) := rfl
theorem k89_157 : ab_fetch ab_c89 157 = some (.aload_n 0, 1, 0, 0) := rfl
theorem k89_158 : ab_fetch ab_c89 158 = some (.getfield 21, 3, 0, 2) := rfl
theorem k89_161 : ab_fetch ab_c89 161 = some (.iload_n 3, 1, 0, 0) := rfl
theorem k89_162 : ab_fetch ab_c89 162 = some (.invokevirtual 98, 3, 45, 1) := rfl
theorem k89_165 : ab_fetch ab_c89 165 = some (.iinc 2 1, 3, 0, 0) := rfl
theorem k89_168 : ab_fetch ab_c89 168 = some (.goto (-166), 3, 2, 0) := rfl
theorem k89_171 : ab_fetch ab_c89 171 = some (.return_, 1, 0, 0) := rfl
/- CodeSmith$Assembler readOperands(Ljava/lang/String;)V -/
def f89_165 (q2 : cS → Nat → Int32 → Option (cS ⊕ cS)) (s : cS) (x1 : Nat) (x2 : Int32) : Option (cS ⊕ cS) := q2 s x1 (x2 + (1 : Int32))
theorem t89_165 {d : Nat} {Z : Nat → ab_C} (q2 : cS → Nat → Int32 → Option (cS ⊕ cS)) (hq2 : ∀ (s : cS) (l : ab_L) (x1 : Nat) (x2 : Int32) (h0 : ab_get l 0 = some (.ref 16)) (h1 : ab_get l 1 = some (.retAddr x1)) (h2 : ab_get l 2 = some (.int x2)) (r : cS ⊕ cS) (e : q2 s x1 x2 = some r), ab_Rn (d + 456) 89 2 l [] (ch s Z) (oV r) (ch (zV r) Z)) : ∀ (s : cS) (l : ab_L) (x1 : Nat) (x2 : Int32) (h0 : ab_get l 0 = some (.ref 16)) (h1 : ab_get l 1 = some (.retAddr x1)) (h2 : ab_get l 2 = some (.int x2)) (r : cS ⊕ cS) (e : f89_165 q2 s x1 x2 = some r), ab_Rn (d + 456) 89 165 l [] (ch s Z) (oV r) (ch (zV r) Z) := by
  intro s l x1 x2 h0 h1 h2 r e
  unfold f89_165 at e
  refine r_iinc (pc := 165) p89 k89_165 h2 (by decide) (v := (x2 + (1 : Int32))) rfl (fun l g h2 => ?_)
  have h0 := g 0 _ (by decide) h0 (Or.inl rfl)
  have h1 := g 1 _ (by decide) h1 (Or.inl rfl)
  refine r_goto (pc := 168) p89 k89_168 ?_
  exact hq2 s l x1 (x2 + (1 : Int32)) h0 h1 h2 r e
def f89_2 : Nat → cS → Nat → Int32 → Option (cS ⊕ cS)
  | 0, _, _, _ => none
  | u + 1, s, x1, x2 => if x1 < 106 then (if (Int32.ofNat (sl x1)) ≤ x2 then some (.inl s) else if cJ x1 x2 then (if (sc x1 x2) = 97 then (tb (f90 s) fun r1 => f89_165 (f89_2 u) (cg r1.2 16 12 r1.1) x1 x2) else if (sc x1 x2) = 98 then (tb (f90 s) fun r1 => f89_165 (f89_2 u) (cg r1.2 16 13 r1.1) x1 x2) else if (sc x1 x2) = 100 then (tb (f90 s) fun r1 => f89_165 (f89_2 u) (cg r1.2 16 11 r1.1) x1 x2) else if (sc x1 x2) = 101 then ((f91 s x1 x2).bind fun r1 => (if r1 = 0 then (tb (f68 s (1 : Int32) (0 : Int32)) fun r2 => f89_165 (f89_2 u) (cg r2.2 16 14 r2.1) x1 x2) else f89_165 (f89_2 u) s x1 x2)) else if (sc x1 x2) = 110 then (tb (f45 s (1 : Int32)) fun r1 => f89_165 (f89_2 u) r1 x1 x2) else (tb (f45 s (sc x1 x2)) fun r1 => f89_165 (f89_2 u) r1 x1 x2)) else none) else none
theorem t89_2 {d : Nat} {Z : Nat → ab_C} : ∀ u : Nat, ∀ (s : cS) (l : ab_L) (x1 : Nat) (x2 : Int32) (h0 : ab_get l 0 = some (.ref 16)) (h1 : ab_get l 1 = some (.retAddr x1)) (h2 : ab_get l 2 = some (.int x2)) (r : cS ⊕ cS) (e : f89_2 u s x1 x2 = some r), ab_Rn (d + 456) 89 2 l [] (ch s Z) (oV r) (ch (zV r) Z) := by
  intro u
  induction u with
  | zero => intro s l x1 x2 h0 h1 h2 r e; rw [f89_2] at e; cases e
  | succ u ih =>
    intro s l x1 x2 h0 h1 h2 r e
    rw [f89_2] at e
    refine r_iload_n (pc := 2) p89 k89_2 h2 ?_
    refine r_aloadS_n (pc := 3) p89 k89_3 h1 ?_
    obtain ⟨c, e⟩ := of_if e
    refine r_cvs (k := x1) c (pc := 4) p89 k89_4 rfl p52 (r := [.int x2]) rfl rfl rfl rfl rfl (t52 x1 c) (w := [.int (Int32.ofNat (sl x1)), .int x2]) rfl ?_
    refine r_ic_ge (pc := 7) p89 k89_7 (fun c => ?_) (fun c => ?_)
    · have e := (if_pos c).symm.trans e
      obtain rfl := Option.some.inj e
      exact r_retV (pc := 171) p89 k89_171 rfl
    · have e := (if_neg c).symm.trans e
      refine r_aloadS_n (pc := 10) p89 k89_10 h1 ?_
      refine r_iload_n (pc := 11) p89 k89_11 h2 ?_
      obtain ⟨c, e⟩ := of_if e
      refine r_cvs (k := x1) c.1 (pc := 12) p89 k89_12 rfl p54 (r := []) rfl rfl rfl rfl rfl (t54 x1 x2 c) (w := [.int (sc x1 x2)]) rfl ?_
      refine r_istore_n (pc := 15) p89 k89_15 (by decide) (fun l g h3 => ?_)
      have h0 := g 0 _ (by decide) h0 (Or.inl rfl)
      have h1 := g 1 _ (by decide) h1 (Or.inl rfl)
      have h2 := g 2 _ (by decide) h2 (Or.inl rfl)
      refine r_iload_n (pc := 16) p89 k89_16 h3 ?_
      by_cases c0 : (sc x1 x2) = 97
      · have e := (if_pos c0).symm.trans e
        refine r_sw (t := 99) (st' := []) (pc := 17) p89 k89_17 rfl rfl rfl (by rw [c0]; rfl) ?_
        refine r_aload_n (pc := 99) p89 k89_99 h0 ?_
        refine r_aload_n (pc := 100) p89 k89_100 h0 ?_
        rcases of_tb e with ⟨r1, er1, e⟩ | ⟨t, et, rfl⟩
        rotate_left
        · exact c_cvx (i := 16) rfl (pc := 101) p89 k89_101 rfl p90 (r := [.ref 16]) rfl rfl rfl rfl rfl rfl (t90 s _ et)
        refine c_cv (i := 16) rfl (pc := 101) p89 k89_101 rfl p90 (r := [.ref 16]) rfl rfl rfl rfl rfl rfl (t90 s _ er1) (w := [.int r1.1, .ref 16]) rfl ?_
        refine c_put (i := 16) rfl (pc := 104) p89 k89_104 rfl rfl rfl (cc_g16 _ Z 12 _) (cs16_12 _ _) rfl rfl ?_
        refine r_goto (pc := 107) p89 k89_107 ?_
        exact t89_165 (f89_2 u) ih (cg r1.2 16 12 r1.1) l x1 x2 h0 h1 h2 r e
      have e := (if_neg c0).symm.trans e
      by_cases c1 : (sc x1 x2) = 98
      · have e := (if_pos c1).symm.trans e
        refine r_sw (t := 110) (st' := []) (pc := 17) p89 k89_17 rfl rfl rfl (by rw [c1]; rfl) ?_
        refine r_aload_n (pc := 110) p89 k89_110 h0 ?_
        refine r_aload_n (pc := 111) p89 k89_111 h0 ?_
        rcases of_tb e with ⟨r1, er1, e⟩ | ⟨t, et, rfl⟩
        rotate_left
        · exact c_cvx (i := 16) rfl (pc := 112) p89 k89_112 rfl p90 (r := [.ref 16]) rfl rfl rfl rfl rfl rfl (t90 s _ et)
        refine c_cv (i := 16) rfl (pc := 112) p89 k89_112 rfl p90 (r := [.ref 16]) rfl rfl rfl rfl rfl rfl (t90 s _ er1) (w := [.int r1.1, .ref 16]) rfl ?_
        refine c_put (i := 16) rfl (pc := 115) p89 k89_115 rfl rfl rfl (cc_g16 _ Z 13 _) (cs16_13 _ _) rfl rfl ?_
        refine r_goto (pc := 118) p89 k89_118 ?_
        exact t89_165 (f89_2 u) ih (cg r1.2 16 13 r1.1) l x1 x2 h0 h1 h2 r e
      have e := (if_neg c1).symm.trans e
      by_cases c2 : (sc x1 x2) = 100
      · have e := (if_pos c2).symm.trans e
        refine r_sw (t := 88) (st' := []) (pc := 17) p89 k89_17 rfl rfl rfl (by rw [c2]; rfl) ?_
        refine r_aload_n (pc := 88) p89 k89_88 h0 ?_
        refine r_aload_n (pc := 89) p89 k89_89 h0 ?_
        rcases of_tb e with ⟨r1, er1, e⟩ | ⟨t, et, rfl⟩
        rotate_left
        · exact c_cvx (i := 16) rfl (pc := 90) p89 k89_90 rfl p90 (r := [.ref 16]) rfl rfl rfl rfl rfl rfl (t90 s _ et)
        refine c_cv (i := 16) rfl (pc := 90) p89 k89_90 rfl p90 (r := [.ref 16]) rfl rfl rfl rfl rfl rfl (t90 s _ er1) (w := [.int r1.1, .ref 16]) rfl ?_
        refine c_put (i := 16) rfl (pc := 93) p89 k89_93 rfl rfl rfl (cc_g16 _ Z 11 _) (cs16_11 _ _) rfl rfl ?_
        refine r_goto (pc := 96) p89 k89_96 ?_
        exact t89_165 (f89_2 u) ih (cg r1.2 16 11 r1.1) l x1 x2 h0 h1 h2 r e
      have e := (if_neg c2).symm.trans e
      by_cases c3 : (sc x1 x2) = 101
      · have e := (if_pos c3).symm.trans e
        refine r_sw (t := 132) (st' := []) (pc := 17) p89 k89_17 rfl rfl rfl (by rw [c3]; rfl) ?_
        refine r_aload_n (pc := 132) p89 k89_132 h0 ?_
        refine r_aloadS_n (pc := 133) p89 k89_133 h1 ?_
        refine r_iload_n (pc := 134) p89 k89_134 h2 ?_
        obtain ⟨r1, er1, e⟩ := of_bind e
        refine c_cv (i := 16) rfl (pc := 135) p89 k89_135 rfl p91 (r := []) rfl rfl rfl rfl rfl rfl (t91 s x1 x2 r1 er1) (w := [.int r1]) rfl ?_
        refine r_if_ne (pc := 138) p89 k89_138 (fun c => ?_) (fun c => ?_)
        · have e := (if_neg c).symm.trans e
          exact t89_165 (f89_2 u) ih s l x1 x2 h0 h1 h2 r e
        · have e := (if_pos c).symm.trans e
          refine r_aload_n (pc := 141) p89 k89_141 h0 ?_
          refine r_aload_n (pc := 142) p89 k89_142 h0 ?_
          refine c_get (i := 16) rfl (pc := 143) p89 k89_143 rfl rfl (v := .ref 17) rfl ?_
          refine r_iconst (pc := 146) p89 k89_146 (v := (1 : Int32)) rfl ?_
          refine r_iconst (pc := 147) p89 k89_147 (v := (0 : Int32)) rfl ?_
          rcases of_tb e with ⟨r2, er2, e⟩ | ⟨t, et, rfl⟩
          rotate_left
          · exact c_cvx (i := 17) rfl (pc := 148) p89 k89_148 rfl p68 (r := [.ref 16]) rfl rfl rfl rfl rfl rfl (t68 s (1 : Int32) (0 : Int32) _ et)
          refine c_cv (i := 17) rfl (pc := 148) p89 k89_148 rfl p68 (r := [.ref 16]) rfl rfl rfl rfl rfl rfl (t68 s (1 : Int32) (0 : Int32) _ er2) (w := [.int r2.1, .ref 16]) rfl ?_
          refine c_put (i := 16) rfl (pc := 151) p89 k89_151 rfl rfl rfl (cc_g16 _ Z 14 _) (cs16_14 _ _) rfl rfl ?_
          refine r_goto (pc := 154) p89 k89_154 ?_
          exact t89_165 (f89_2 u) ih (cg r2.2 16 14 r2.1) l x1 x2 h0 h1 h2 r e
      have e := (if_neg c3).symm.trans e
      by_cases c4 : (sc x1 x2) = 110
      · have e := (if_pos c4).symm.trans e
        refine r_sw (t := 121) (st' := []) (pc := 17) p89 k89_17 rfl rfl rfl (by rw [c4]; rfl) ?_
        refine r_aload_n (pc := 121) p89 k89_121 h0 ?_
        refine c_get (i := 16) rfl (pc := 122) p89 k89_122 rfl rfl (v := .ref 11) rfl ?_
        refine r_iconst (pc := 125) p89 k89_125 (v := (1 : Int32)) rfl ?_
        rcases of_tb e with ⟨r1, er1, e⟩ | ⟨t, et, rfl⟩
        rotate_left
        · exact c_cvx (i := 11) rfl (pc := 126) p89 k89_126 rfl p45 (r := []) rfl rfl rfl rfl rfl rfl (t45 s (1 : Int32) _ et)
        refine c_cv (i := 11) rfl (pc := 126) p89 k89_126 rfl p45 (r := []) rfl rfl rfl rfl rfl rfl (t45 s (1 : Int32) _ er1) (w := []) rfl ?_
        refine r_goto (pc := 129) p89 k89_129 ?_
        exact t89_165 (f89_2 u) ih r1 l x1 x2 h0 h1 h2 r e
      have e := (if_neg c4).symm.trans e
      refine r_tswd (T := 157) (pc := 17) p89 k89_17 (by decide) (by decide) (by decide) (by
          intro k hk hx
          have hk : k < 14 := hk
          have hk : k = 0 ∨ k = 1 ∨ k = 2 ∨ k = 3 ∨ k = 4 ∨ k = 5 ∨ k = 6 ∨ k = 7 ∨ k = 8 ∨ k = 9 ∨ k = 10 ∨ k = 11 ∨ k = 12 ∨ k = 13 := by omega
          rcases hk with rfl | rfl | rfl | rfl | rfl | rfl | rfl | rfl | rfl | rfl | rfl | rfl | rfl | rfl
          · exact absurd (Int32.toInt_inj.mp (hx.trans rfl)) c0
          · exact absurd (Int32.toInt_inj.mp (hx.trans rfl)) c1
          · exact rfl
          · exact absurd (Int32.toInt_inj.mp (hx.trans rfl)) c2
          · exact absurd (Int32.toInt_inj.mp (hx.trans rfl)) c3
          · exact rfl
          · exact rfl
          · exact rfl
          · exact rfl
          · exact rfl
          · exact rfl
          · exact rfl
          · exact rfl
          · exact absurd (Int32.toInt_inj.mp (hx.trans rfl)) c4) ?_
      refine r_aload_n (pc := 157) p89 k89_157 h0 ?_
      refine c_get (i := 16) rfl (pc := 158) p89 k89_158 rfl rfl (v := .ref 11) rfl ?_
      refine r_iload_n (pc := 161) p89 k89_161 h3 ?_
      rcases of_tb e with ⟨r1, er1, e⟩ | ⟨t, et, rfl⟩
      rotate_left
      · exact c_cvx (i := 11) rfl (pc := 162) p89 k89_162 rfl p45 (r := []) rfl rfl rfl rfl rfl rfl (t45 s (sc x1 x2) _ et)
      refine c_cv (i := 11) rfl (pc := 162) p89 k89_162 rfl p45 (r := []) rfl rfl rfl rfl rfl rfl (t45 s (sc x1 x2) _ er1) (w := []) rfl ?_
      exact t89_165 (f89_2 u) ih r1 l x1 x2 h0 h1 h2 r e
def f89 (s : cS) (x1 : Nat) : Option (cS ⊕ cS) := f89_2 mm_U s x1 (0 : Int32)
theorem t89 {d : Nat} {Z : Nat → ab_C} (s : cS) (x1 : Nat) (r : cS ⊕ cS) (e : f89 s x1 = some r) : ab_Rn (d + 456) 89 0 (lv_args 0 [.ref 16, .retAddr x1]) [] (ch s Z) (oV r) (ch (zV r) Z) := by
  unfold f89 at e
  obtain ⟨l, hl⟩ : ∃ l, l = (lv_args 0 [.ref 16, .retAddr x1]) := ⟨_, rfl⟩
  rw [← hl]
  have h0 : ab_get l 0 = some (.ref 16) := by rw [hl]; rfl
  have h1 : ab_get l 1 = some (.retAddr x1) := by rw [hl]; rfl
  refine r_iconst (pc := 0) p89 k89_0 (v := (0 : Int32)) rfl ?_
  refine r_istore_n (pc := 1) p89 k89_1 (by decide) (fun l g h2 => ?_)
  have h0 := g 0 _ (by decide) h0 (Or.inl rfl)
  have h1 := g 1 _ (by decide) h1 (Or.inl rfl)
  exact t89_2 mm_U s l x1 (0 : Int32) h0 h1 h2 r e
