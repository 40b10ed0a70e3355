theorem p65 : ab_prog[65]? = some (ab_m65, ab_c65) := rfl
theorem k65_0 : ab_fetch ab_c65 0 = some (.iconst 0, 1, 0, 0) := rfl
theorem k65_1 : ab_fetch ab_c65 1 = some (.istore_n 3, 1, 0, 0) := rfl
theorem k65_2 : ab_fetch ab_c65 2 = some (.getstatic 179, 3, 500, 0) := rfl
theorem k65_5 : ab_fetch ab_c65 5 = some (.arraylength, 1, 0, 0) := rfl
theorem k65_6 : ab_fetch ab_c65 6 = some (.iconst 1, 1, 0, 0) := rfl
theorem k65_7 : ab_fetch ab_c65 7 = some (.isub, 1, 0, 0) := rfl
theorem k65_8 : ab_fetch ab_c65 8 = some (.istore 4, 2, 0, 0) := rfl
theorem k65_10 : ab_fetch ab_c65 10 = some (.iload_n 3, 1, 0, 0) := rfl
theorem k65_11 : ab_fetch ab_c65 11 = some (.iload 4, 2, 0, 0) := rfl
theorem k65_13 : ab_fetch ab_c65 13 = some (.if_icmp .gt 65, 3, 78, 0) := rfl
theorem k65_16 : ab_fetch ab_c65 16 = some (.iload_n 3, 1, 0, 0) := rfl
theorem k65_17 : ab_fetch ab_c65 17 = some (.iload 4, 2, 0, 0) := rfl
theorem k65_19 : ab_fetch ab_c65 19 = some (.iadd, 1, 0, 0) := rfl
theorem k65_20 : ab_fetch ab_c65 20 = some (.iconst 2, 1, 0, 0) := rfl
theorem k65_21 : ab_fetch ab_c65 21 = some (.idiv, 1, 0, 0) := rfl
theorem k65_22 : ab_fetch ab_c65 22 = some (.istore 5, 2, 0, 0) := rfl
theorem k65_24 : ab_fetch ab_c65 24 = some (.aload_n 0, 1, 0, 0) := rfl
theorem k65_25 : ab_fetch ab_c65 25 = some (.getfield 21, 3, 0, 2) := rfl
theorem k65_28 : ab_fetch ab_c65 28 = some (.iload_n 1, 1, 0, 0) := rfl
theorem k65_29 : ab_fetch ab_c65 29 = some (.iload_n 2, 1, 0, 0) := rfl
theorem k65_30 : ab_fetch ab_c65 30 = some (.getstatic 179, 3, 500, 0) := rfl
theorem k65_33 : ab_fetch ab_c65 33 = some (.iload 5, 2, 0, 0) := rfl
theorem k65_35 : ab_fetch ab_c65 35 = some (.aaload, 1, 0, 0) := rfl
theorem k65_36 : ab_fetch ab_c65 36 = some (.getfield 183, 3, 100, 2) := rfl
theorem k65_39 : ab_fetch ab_c65 39 = some (.invokevirtual 159, 3, 51, 3) := rfl
theorem k65_42 : ab_fetch ab_c65 42 = some (.istore 6, 2, 0, 0) := rfl
theorem k65_44 : ab_fetch ab_c65 44 = some (.iload 6, 2, 0, 0) := rfl
theorem k65_46 : ab_fetch ab_c65 46 = some (.ifCond .ne 10, 3, 56, 0) := rfl
theorem k65_49 : ab_fetch ab_c65 49 = some (.getstatic 179, 3, 500, 0) := rfl
theorem k65_52 : ab_fetch ab_c65 52 = some (.iload 5, 2, 0, 0) := rfl
theorem k65_54 : ab_fetch ab_c65 54 = some (.aaload, 1, 0, 0) := rfl
theorem k65_55 : ab_fetch ab_c65 55 = some (.areturn, 1, 0, 0) := rfl
theorem k65_56 : ab_fetch ab_c65 56 = some (.iload 6, 2, 0, 0) := rfl
theorem k65_58 : ab_fetch ab_c65 58 = some (.ifCond .ge 12, 3, 70, 0) := rfl
theorem k65_61 : ab_fetch ab_c65 61 = some (.iload 5, 2, 0, 0) := rfl
theorem k65_63 : ab_fetch ab_c65 63 = some (.iconst 1, 1, 0, 0) := rfl
theorem k65_64 : ab_fetch ab_c65 64 = some (.isub, 1, 0, 0) := rfl
theorem k65_65 : ab_fetch ab_c65 65 = some (.istore 4, 2, 0, 0) := rfl
theorem k65_67 : ab_fetch ab_c65 67 = some (.goto 8, 3, 75, 0) := rfl
theorem k65_70 : ab_fetch ab_c65 70 = some (.iload 5, 2, 0, 0) := rfl
theorem k65_72 : ab_fetch ab_c65 72 = some (.iconst 1, 1, 0, 0) := rfl
theorem k65_73 : ab_fetch ab_c65 73 = some (.iadd, 1, 0, 0) := rfl
theorem k65_74 : ab_fetch ab_c65 74 = some (.istore_n 3, 1, 0, 0) := rfl
theorem k65_75 : ab_fetch ab_c65 75 = some (.goto (-65), 3, 10, 0) := rfl
theorem k65_78 : ab_fetch ab_c65 78 = some (.aconst_null, 1, 0, 0) := rfl
theorem k65_79 : ab_fetch ab_c65 79 = some (.areturn, 1, 0, 0) := rfl
/- CodeSmith$Assembler statementNamed(II)LCodeSmith$Statement; -/
def f65_75 (q10 : cS → Int32 → Int32 → Int32 → Int32 → Option (Option Nat)) (s : cS) (x1 : Int32) (x2 : Int32) (x3 : Int32) (x4 : Int32) : Option (Option Nat) := q10 s x1 x2 x3 x4
theorem t65_75 {d : Nat} {Z : Nat → ab_C} (q10 : cS → Int32 → Int32 → Int32 → Int32 → Option (Option Nat)) (hq10 : ∀ (s : cS) (l : ab_L) (x1 : Int32) (x2 : Int32) (x3 : Int32) (x4 : Int32) (h0 : ab_get l 0 = some (.ref 16)) (h1 : ab_get l 1 = some (.int x1)) (h2 : ab_get l 2 = some (.int x2)) (h3 : ab_get l 3 = some (.int x3)) (h4 : ab_get l 4 = some (.int x4)) (r : Option Nat) (e : q10 s x1 x2 x3 x4 = some r), ab_Rn (d + 5) 65 10 l [] (ch s Z) (.inl (some (ov r))) (ch s Z)) : ∀ (s : cS) (l : ab_L) (x1 : Int32) (x2 : Int32) (x3 : Int32) (x4 : Int32) (h0 : ab_get l 0 = some (.ref 16)) (h1 : ab_get l 1 = some (.int x1)) (h2 : ab_get l 2 = some (.int x2)) (h3 : ab_get l 3 = some (.int x3)) (h4 : ab_get l 4 = some (.int x4)) (r : Option Nat) (e : f65_75 q10 s x1 x2 x3 x4 = some r), ab_Rn (d + 5) 65 75 l [] (ch s Z) (.inl (some (ov r))) (ch s Z) := by
  intro s l x1 x2 x3 x4 h0 h1 h2 h3 h4 r e
  unfold f65_75 at e
  refine r_goto (pc := 75) p65 k65_75 ?_
  exact hq10 s l x1 x2 x3 x4 h0 h1 h2 h3 h4 r e
def f65_49 (s : cS) (x5 : Int32) : Option (Option Nat) := if ib x5 83 then some (some (400 + x5.toNatClampNeg)) else none
theorem t65_49 {d : Nat} {Z : Nat → ab_C} : ∀ (s : cS) (l : ab_L) (x5 : Int32) (h5 : ab_get l 5 = some (.int x5)) (r : Option Nat) (e : f65_49 s x5 = some r), ab_Rn (d + 5) 65 49 l [] (ch s Z) (.inl (some (ov r))) (ch s Z) := by
  intro s l x5 h5 r e
  unfold f65_49 at e
  refine r_gstS (pc := 49) p65 k65_49 ?_
  refine r_iload (pc := 52) p65 k65_52 h5 ?_
  obtain ⟨c, e⟩ := of_if e
  refine r_sald (pc := 54) p65 k65_54 c ?_
  obtain rfl := Option.some.inj e
  exact r_retS (pc := 55) p65 k65_55 rfl
def f65_10 : Nat → cS → Int32 → Int32 → Int32 → Int32 → Option (Option Nat)
  | 0, _, _, _, _, _ => none
  | u + 1, s, x1, x2, x3, x4 => (if x4 < x3 then some none else if ib ((x3 + x4) / (2 : Int32)) 83 then if cE (400 + ((x3 + x4) / (2 : Int32)).toNatClampNeg) then ((f51 s x1 x2 (en (400 + ((x3 + x4) / (2 : Int32)).toNatClampNeg)).1).bind fun r1 => (if r1 = 0 then f65_49 s ((x3 + x4) / (2 : Int32)) else (if 0 ≤ r1 then f65_75 (f65_10 u) s x1 x2 (((x3 + x4) / (2 : Int32)) + (1 : Int32)) x4 else f65_75 (f65_10 u) s x1 x2 x3 (((x3 + x4) / (2 : Int32)) - (1 : Int32))))) else none else none)
theorem t65_10 {d : Nat} {Z : Nat → ab_C} : ∀ u : Nat, ∀ (s : cS) (l : ab_L) (x1 : Int32) (x2 : Int32) (x3 : Int32) (x4 : Int32) (h0 : ab_get l 0 = some (.ref 16)) (h1 : ab_get l 1 = some (.int x1)) (h2 : ab_get l 2 = some (.int x2)) (h3 : ab_get l 3 = some (.int x3)) (h4 : ab_get l 4 = some (.int x4)) (r : Option Nat) (e : f65_10 u s x1 x2 x3 x4 = some r), ab_Rn (d + 5) 65 10 l [] (ch s Z) (.inl (some (ov r))) (ch s Z) := by
  intro u
  induction u with
  | zero => intro s l x1 x2 x3 x4 h0 h1 h2 h3 h4 r e; rw [f65_10] at e; cases e
  | succ u ih =>
    intro s l x1 x2 x3 x4 h0 h1 h2 h3 h4 r e
    rw [f65_10] at e
    refine r_iload_n (pc := 10) p65 k65_10 h3 ?_
    refine r_iload (pc := 11) p65 k65_11 h4 ?_
    refine r_ic_gt (pc := 13) p65 k65_13 (fun c => ?_) (fun c => ?_)
    · have e := (if_pos c).symm.trans e
      refine r_null (pc := 78) p65 k65_78 ?_
      obtain rfl := Option.some.inj e
      exact r_retN (pc := 79) p65 k65_79 rfl
    · have e := (if_neg c).symm.trans e
      refine r_iload_n (pc := 16) p65 k65_16 h3 ?_
      refine r_iload (pc := 17) p65 k65_17 h4 ?_
      refine r_iadd (pc := 19) p65 k65_19 ?_
      refine r_iconst (pc := 20) p65 k65_20 (v := (2 : Int32)) rfl ?_
      refine r_idiv (pc := 21) p65 k65_21 (by decide) ?_
      refine r_istore (pc := 22) p65 k65_22 (by decide) (fun l g h5 => ?_)
      have h0 := g 0 _ (by decide) h0 (Or.inl rfl)
      have h1 := g 1 _ (by decide) h1 (Or.inl rfl)
      have h2 := g 2 _ (by decide) h2 (Or.inl rfl)
      have h3 := g 3 _ (by decide) h3 (Or.inl rfl)
      have h4 := g 4 _ (by decide) h4 (Or.inl rfl)
      refine r_aload_n (pc := 24) p65 k65_24 h0 ?_
      refine c_get (i := 16) rfl (pc := 25) p65 k65_25 rfl rfl (v := .ref 11) rfl ?_
      refine r_iload_n (pc := 28) p65 k65_28 h1 ?_
      refine r_iload_n (pc := 29) p65 k65_29 h2 ?_
      refine r_gstS (pc := 30) p65 k65_30 ?_
      refine r_iload (pc := 33) p65 k65_33 h5 ?_
      obtain ⟨c, e⟩ := of_if e
      refine r_sald (pc := 35) p65 k65_35 c ?_
      obtain ⟨c, e⟩ := of_if e
      refine r_sget (pc := 36) p65 k65_36 (en_spell c) ?_
      obtain ⟨r1, er1, e⟩ := of_bind e
      refine c_cv (i := 11) rfl (pc := 39) p65 k65_39 rfl p51 (r := []) rfl rfl rfl rfl rfl rfl (t51 s x1 x2 (en (400 + ((x3 + x4) / (2 : Int32)).toNatClampNeg)).1 r1 er1) (w := [.int r1]) rfl ?_
      refine r_istore (pc := 42) p65 k65_42 (by decide) (fun l g h6 => ?_)
      have h0 := g 0 _ (by decide) h0 (Or.inl rfl)
      have h1 := g 1 _ (by decide) h1 (Or.inl rfl)
      have h2 := g 2 _ (by decide) h2 (Or.inl rfl)
      have h3 := g 3 _ (by decide) h3 (Or.inl rfl)
      have h4 := g 4 _ (by decide) h4 (Or.inl rfl)
      have h5 := g 5 _ (by decide) h5 (Or.inl rfl)
      refine r_iload (pc := 44) p65 k65_44 h6 ?_
      refine r_if_ne (pc := 46) p65 k65_46 (fun c => ?_) (fun c => ?_)
      · have e := (if_neg c).symm.trans e
        refine r_iload (pc := 56) p65 k65_56 h6 ?_
        refine r_if_ge (pc := 58) p65 k65_58 (fun c => ?_) (fun c => ?_)
        · have e := (if_pos c).symm.trans e
          refine r_iload (pc := 70) p65 k65_70 h5 ?_
          refine r_iconst (pc := 72) p65 k65_72 (v := (1 : Int32)) rfl ?_
          refine r_iadd (pc := 73) p65 k65_73 ?_
          refine r_istore_n (pc := 74) p65 k65_74 (by decide) (fun l g h3 => ?_)
          have h0 := g 0 _ (by decide) h0 (Or.inl rfl)
          have h1 := g 1 _ (by decide) h1 (Or.inl rfl)
          have h2 := g 2 _ (by decide) h2 (Or.inl rfl)
          have h4 := g 4 _ (by decide) h4 (Or.inl rfl)
          exact t65_75 (f65_10 u) ih s l x1 x2 (((x3 + x4) / (2 : Int32)) + (1 : Int32)) x4 h0 h1 h2 h3 h4 r e
        · have e := (if_neg c).symm.trans e
          refine r_iload (pc := 61) p65 k65_61 h5 ?_
          refine r_iconst (pc := 63) p65 k65_63 (v := (1 : Int32)) rfl ?_
          refine r_isub (pc := 64) p65 k65_64 ?_
          refine r_istore (pc := 65) p65 k65_65 (by decide) (fun l g h4 => ?_)
          have h0 := g 0 _ (by decide) h0 (Or.inl rfl)
          have h1 := g 1 _ (by decide) h1 (Or.inl rfl)
          have h2 := g 2 _ (by decide) h2 (Or.inl rfl)
          have h3 := g 3 _ (by decide) h3 (Or.inl rfl)
          refine r_goto (pc := 67) p65 k65_67 ?_
          exact t65_75 (f65_10 u) ih s l x1 x2 x3 (((x3 + x4) / (2 : Int32)) - (1 : Int32)) h0 h1 h2 h3 h4 r e
      · have e := (if_pos c).symm.trans e
        exact t65_49 s l ((x3 + x4) / (2 : Int32)) h5 r e
def f65 (s : cS) (x1 : Int32) (x2 : Int32) : Option (Option Nat) := f65_10 mm_U s x1 x2 (0 : Int32) ((83 : Int32) - (1 : Int32))
theorem t65 {d : Nat} {Z : Nat → ab_C} (s : cS) (x1 : Int32) (x2 : Int32) (r : Option Nat) (e : f65 s x1 x2 = some r) : ab_Rn (d + 5) 65 0 (lv_args 0 [.ref 16, .int x1, .int x2]) [] (ch s Z) (.inl (some (ov r))) (ch s Z) := by
  unfold f65 at e
  obtain ⟨l, hl⟩ : ∃ l, l = (lv_args 0 [.ref 16, .int x1, .int x2]) := ⟨_, rfl⟩
  rw [← hl]
  have h0 : ab_get l 0 = some (.ref 16) := by rw [hl]; rfl
  have h1 : ab_get l 1 = some (.int x1) := by rw [hl]; rfl
  have h2 : ab_get l 2 = some (.int x2) := by rw [hl]; rfl
  refine r_iconst (pc := 0) p65 k65_0 (v := (0 : Int32)) rfl ?_
  refine r_istore_n (pc := 1) p65 k65_1 (by decide) (fun l g h3 => ?_)
  have h0 := g 0 _ (by decide) h0 (Or.inl rfl)
  have h1 := g 1 _ (by decide) h1 (Or.inl rfl)
  have h2 := g 2 _ (by decide) h2 (Or.inl rfl)
  refine r_gstS (pc := 2) p65 k65_2 ?_
  refine r_slen (pc := 5) p65 k65_5 ?_
  refine r_iconst (pc := 6) p65 k65_6 (v := (1 : Int32)) rfl ?_
  refine r_isub (pc := 7) p65 k65_7 ?_
  refine r_istore (pc := 8) p65 k65_8 (by decide) (fun l g h4 => ?_)
  have h0 := g 0 _ (by decide) h0 (Or.inl rfl)
  have h1 := g 1 _ (by decide) h1 (Or.inl rfl)
  have h2 := g 2 _ (by decide) h2 (Or.inl rfl)
  have h3 := g 3 _ (by decide) h3 (Or.inl rfl)
  exact t65_10 mm_U s l x1 x2 (0 : Int32) ((83 : Int32) - (1 : Int32)) h0 h1 h2 h3 h4 r e

theorem p66 : ab_prog[66]? = some (ab_m66, ab_c66) := rfl
theorem k66_0 : ab_fetch ab_c66 0 = some (.aload_n 0, 1, 0, 0) := rfl
theorem k66_1 : ab_fetch ab_c66 1 = some (.iconst 0, 1, 0, 0) := rfl
theorem k66_2 : ab_fetch ab_c66 2 = some (.putfield 187, 3, 0, 11) := rfl
theorem k66_5 : ab_fetch ab_c66 5 = some (.aload_n 0, 1, 0, 0) := rfl
theorem k66_6 : ab_fetch ab_c66 6 = some (.iconst 0, 1, 0, 0) := rfl
theorem k66_7 : ab_fetch ab_c66 7 = some (.putfield 190, 3, 0, 12) := rfl
theorem k66_10 : ab_fetch ab_c66 10 = some (.aload_n 0, 1, 0, 0) := rfl
theorem k66_11 : ab_fetch ab_c66 11 = some (.iconst 0, 1, 0, 0) := rfl
theorem k66_12 : ab_fetch ab_c66 12 = some (.putfield 193, 3, 0, 13) := rfl
theorem k66_15 : ab_fetch ab_c66 15 = some (.aload_n 0, 1, 0, 0) := rfl
theorem k66_16 : ab_fetch ab_c66 16 = some (.iconst 0, 1, 0, 0) := rfl
theorem k66_17 : ab_fetch ab_c66 17 = some (.putfield 196, 3, 0, 14) := rfl
theorem k66_20 : ab_fetch ab_c66 20 = some (.aload_n 0, 1, 0, 0) := rfl
theorem k66_21 : ab_fetch ab_c66 21 = some (.iconst 0, 1, 0, 0) := rfl
theorem k66_22 : ab_fetch ab_c66 22 = some (.putfield 197, 3, 0, 15) := rfl
theorem k66_25 : ab_fetch ab_c66 25 = some (.aload_n 0, 1, 0, 0) := rfl
theorem k66_26 : ab_fetch ab_c66 26 = some (.getfield 29, 3, 0, 4) := rfl
theorem k66_29 : ab_fetch ab_c66 29 = some (.iconst 1, 1, 0, 0) := rfl
theorem k66_30 : ab_fetch ab_c66 30 = some (.putfield 200, 3, 1, 3) := rfl
theorem k66_33 : ab_fetch ab_c66 33 = some (.aload_n 0, 1, 0, 0) := rfl
theorem k66_34 : ab_fetch ab_c66 34 = some (.getfield 29, 3, 0, 4) := rfl
theorem k66_37 : ab_fetch ab_c66 37 = some (.aload_n 0, 1, 0, 0) := rfl
theorem k66_38 : ab_fetch ab_c66 38 = some (.invokevirtual 163, 3, 61, 0) := rfl
theorem k66_41 : ab_fetch ab_c66 41 = some (.aload_n 0, 1, 0, 0) := rfl
theorem k66_42 : ab_fetch ab_c66 42 = some (.getfield 147, 3, 0, 6) := rfl
theorem k66_45 : ab_fetch ab_c66 45 = some (.iconst 1, 1, 0, 0) := rfl
theorem k66_46 : ab_fetch ab_c66 46 = some (.if_icmp .ne 13, 3, 59, 0) := rfl
theorem k66_49 : ab_fetch ab_c66 49 = some (.aload_n 0, 1, 0, 0) := rfl
theorem k66_50 : ab_fetch ab_c66 50 = some (.getfield 29, 3, 0, 4) := rfl
theorem k66_53 : ab_fetch ab_c66 53 = some (.getfield 47, 3, 1, 2) := rfl
theorem k66_56 : ab_fetch ab_c66 56 = some (.goto 4, 3, 60, 0) := rfl
theorem k66_59 : ab_fetch ab_c66 59 = some (.iconst 0, 1, 0, 0) := rfl
theorem k66_60 : ab_fetch ab_c66 60 = some (.iadd, 1, 0, 0) := rfl
theorem k66_61 : ab_fetch ab_c66 61 = some (.putfield 203, 3, 1, 1) := rfl
theorem k66_64 : ab_fetch ab_c66 64 = some (.iload_n 1, 1, 0, 0) := rfl
theorem k66_65 : ab_fetch ab_c66 65 = some (.iconst 4, 1, 0, 0) := rfl
theorem k66_66 : ab_fetch ab_c66 66 = some (.if_icmp .eq 14, 3, 80, 0) := rfl
theorem k66_69 : ab_fetch ab_c66 69 = some (.iload_n 1, 1, 0, 0) := rfl
theorem k66_70 : ab_fetch ab_c66 70 = some (.iconst 5, 1, 0, 0) := rfl
theorem k66_71 : ab_fetch ab_c66 71 = some (.if_icmp .eq 9, 3, 80, 0) := rfl
theorem k66_74 : ab_fetch ab_c66 74 = some (.iload_n 1, 1, 0, 0) := rfl
theorem k66_75 : ab_fetch ab_c66 75 = some (.bipush 6, 2, 0, 0) := rfl
theorem k66_77 : ab_fetch ab_c66 77 = some (.if_icmp .ne 14, 3, 91, 0) := rfl
theorem k66_80 : ab_fetch ab_c66 80 = some (.aload_n 0, 1, 0, 0) := rfl
theorem k66_81 : ab_fetch ab_c66 81 = some (.getfield 29, 3, 0, 4) := rfl
theorem k66_84 : ab_fetch ab_c66 84 = some (.iconst 0, 1, 0, 0) := rfl
theorem k66_85 : ab_fetch ab_c66 85 = some (.putfield 206, 3, 1, 0) := rfl
theorem k66_88 : ab_fetch ab_c66 88 = some (.goto 22, 3, 110, 0) := rfl
theorem k66_91 : ab_fetch ab_c66 91 = some (.aload_n 0, 1, 0, 0) := rfl
theorem k66_92 : ab_fetch ab_c66 92 = some (.getfield 29, 3, 0, 4) := rfl
theorem k66_95 : ab_fetch ab_c66 95 = some (.aload_n 0, 1, 0, 0) := rfl
theorem k66_96 : ab_fetch ab_c66 96 = some (.getfield 43, 3, 0, 5) := rfl
theorem k66_99 : ab_fetch ab_c66 99 = some (.ifCond .eq 7, 3, 106, 0) := rfl
theorem k66_102 : ab_fetch ab_c66 102 = some (.iconst 2, 1, 0, 0) := rfl
theorem k66_103 : ab_fetch ab_c66 103 = some (.goto 4, 3, 107, 0) := rfl
theorem k66_106 : ab_fetch ab_c66 106 = some (.iconst 1, 1, 0, 0) := rfl
theorem k66_107 : ab_fetch ab_c66 107 = some (.putfield 206, 3, 1, 0) := rfl
theorem k66_110 : ab_fetch ab_c66 110 = some (.return_, 1, 0, 0) := rfl
/- CodeSmith$Assembler clearOperands(I)V -/
def f66_80 (s : cS) : cS := (cg s 17 0 (0 : Int32))
theorem t66_80 {d : Nat} {Z : Nat → ab_C} : ∀ (s : cS) (l : ab_L)  (h0 : ab_get l 0 = some (.ref 16)) (r : cS) (e : f66_80 s  = r), ab_Rn (d + 1) 66 80 l [] (ch s Z) (.inl none) (ch r Z) := by
  intro s l h0 r e
  unfold f66_80 at e
  refine r_aload_n (pc := 80) p66 k66_80 h0 ?_
  refine c_get (i := 16) rfl (pc := 81) p66 k66_81 rfl rfl (v := .ref 17) rfl ?_
  refine r_iconst (pc := 84) p66 k66_84 (v := (0 : Int32)) rfl ?_
  refine c_put (i := 17) rfl (pc := 85) p66 k66_85 rfl rfl rfl (cc_g17 _ Z 0 _) (cs17_0 _ _) rfl rfl ?_
  refine r_goto (pc := 88) p66 k66_88 ?_
  subst e
  exact r_retV (pc := 110) p66 k66_110 rfl
def f66_107 (s : cS) (y0 : Int32) : cS := (cg s 17 0 y0)
theorem t66_107 {d : Nat} {Z : Nat → ab_C} : ∀ (s : cS) (l : ab_L) (y0 : Int32)  (r : cS) (e : f66_107 s y0 = r), ab_Rn (d + 1) 66 107 l [.int y0, .ref 17] (ch s Z) (.inl none) (ch r Z) := by
  intro s l y0 r e
  unfold f66_107 at e
  refine c_put (i := 17) rfl (pc := 107) p66 k66_107 rfl rfl rfl (cc_g17 _ Z 0 _) (cs17_0 _ _) rfl rfl ?_
  subst e
  exact r_retV (pc := 110) p66 k66_110 rfl
def f66_60 (s : cS) (x1 : Int32) (y0 : Int32) (y1 : Int32) : cS := (if x1 = (4 : Int32) then f66_80 (cg s 17 1 (y1 + y0)) else (if x1 = (5 : Int32) then f66_80 (cg s 17 1 (y1 + y0)) else (if x1 = (6 : Int32) then f66_80 (cg s 17 1 (y1 + y0)) else (if (s.1 16 5) = 0 then f66_107 (cg s 17 1 (y1 + y0)) (1 : Int32) else f66_107 (cg s 17 1 (y1 + y0)) (2 : Int32)))))
theorem t66_60 {d : Nat} {Z : Nat → ab_C} : ∀ (s : cS) (l : ab_L) (x1 : Int32) (y0 : Int32) (y1 : Int32) (h0 : ab_get l 0 = some (.ref 16)) (h1 : ab_get l 1 = some (.int x1)) (r : cS) (e : f66_60 s x1 y0 y1 = r), ab_Rn (d + 1) 66 60 l [.int y0, .int y1, .ref 17] (ch s Z) (.inl none) (ch r Z) := by
  intro s l x1 y0 y1 h0 h1 r e
  unfold f66_60 at e
  refine r_iadd (pc := 60) p66 k66_60 ?_
  refine c_put (i := 17) rfl (pc := 61) p66 k66_61 rfl rfl rfl (cc_g17 _ Z 1 _) (cs17_1 _ _) rfl rfl ?_
  refine r_iload_n (pc := 64) p66 k66_64 h1 ?_
  refine r_iconst (pc := 65) p66 k66_65 (v := (4 : Int32)) rfl ?_
  refine r_ic_eq (pc := 66) p66 k66_66 (fun c => ?_) (fun c => ?_)
  · have e := (if_pos c).symm.trans e
    exact t66_80 (cg s 17 1 (y1 + y0)) l h0 r e
  · have e := (if_neg c).symm.trans e
    refine r_iload_n (pc := 69) p66 k66_69 h1 ?_
    refine r_iconst (pc := 70) p66 k66_70 (v := (5 : Int32)) rfl ?_
    refine r_ic_eq (pc := 71) p66 k66_71 (fun c => ?_) (fun c => ?_)
    · have e := (if_pos c).symm.trans e
      exact t66_80 (cg s 17 1 (y1 + y0)) l h0 r e
    · have e := (if_neg c).symm.trans e
      refine r_iload_n (pc := 74) p66 k66_74 h1 ?_
      refine r_bipush (pc := 75) p66 k66_75 (v := (6 : Int32)) rfl ?_
      refine r_ic_ne (pc := 77) p66 k66_77 (fun c => ?_) (fun c => ?_)
      · have e := (if_neg c).symm.trans e
        refine r_aload_n (pc := 91) p66 k66_91 h0 ?_
        refine c_get (i := 16) rfl (pc := 92) p66 k66_92 rfl rfl (v := .ref 17) rfl ?_
        refine r_aload_n (pc := 95) p66 k66_95 h0 ?_
        refine c_get (i := 16) rfl (pc := 96) p66 k66_96 rfl rfl (v := .int (s.1 16 5)) rfl ?_
        refine r_if_eq (pc := 99) p66 k66_99 (fun c => ?_) (fun c => ?_)
        · have e := (if_pos c).symm.trans e
          refine r_iconst (pc := 106) p66 k66_106 (v := (1 : Int32)) rfl ?_
          exact t66_107 (cg s 17 1 (y1 + y0)) l (1 : Int32) r e
        · have e := (if_neg c).symm.trans e
          refine r_iconst (pc := 102) p66 k66_102 (v := (2 : Int32)) rfl ?_
          refine r_goto (pc := 103) p66 k66_103 ?_
          exact t66_107 (cg s 17 1 (y1 + y0)) l (2 : Int32) r e
      · have e := (if_pos c).symm.trans e
        exact t66_80 (cg s 17 1 (y1 + y0)) l h0 r e
def f66 (s : cS) (x1 : Int32) : cS := (if (s.1 16 6) = (1 : Int32) then f66_60 (cg (cg (cg (cg (cg (cg s 16 11 (0 : Int32)) 16 12 (0 : Int32)) 16 13 (0 : Int32)) 16 14 (0 : Int32)) 16 15 (0 : Int32)) 17 3 (1 : Int32)) x1 (s.1 17 2) (f61 (cg (cg (cg (cg (cg (cg s 16 11 (0 : Int32)) 16 12 (0 : Int32)) 16 13 (0 : Int32)) 16 14 (0 : Int32)) 16 15 (0 : Int32)) 17 3 (1 : Int32))) else f66_60 (cg (cg (cg (cg (cg (cg s 16 11 (0 : Int32)) 16 12 (0 : Int32)) 16 13 (0 : Int32)) 16 14 (0 : Int32)) 16 15 (0 : Int32)) 17 3 (1 : Int32)) x1 (0 : Int32) (f61 (cg (cg (cg (cg (cg (cg s 16 11 (0 : Int32)) 16 12 (0 : Int32)) 16 13 (0 : Int32)) 16 14 (0 : Int32)) 16 15 (0 : Int32)) 17 3 (1 : Int32))))
theorem t66 {d : Nat} {Z : Nat → ab_C} (s : cS) (x1 : Int32) (r : cS) (e : f66 s x1 = r) : ab_Rn (d + 1) 66 0 (lv_args 0 [.ref 16, .int x1]) [] (ch s Z) (.inl none) (ch r Z) := by
  unfold f66 at e
  obtain ⟨l, hl⟩ : ∃ l, l = (lv_args 0 [.ref 16, .int x1]) := ⟨_, rfl⟩
  rw [← hl]
  have h0 : ab_get l 0 = some (.ref 16) := by rw [hl]; rfl
  have h1 : ab_get l 1 = some (.int x1) := by rw [hl]; rfl
  refine r_aload_n (pc := 0) p66 k66_0 h0 ?_
  refine r_iconst (pc := 1) p66 k66_1 (v := (0 : Int32)) rfl ?_
  refine c_put (i := 16) rfl (pc := 2) p66 k66_2 rfl rfl rfl (cc_g16 _ Z 11 _) (cs16_11 _ _) rfl rfl ?_
  refine r_aload_n (pc := 5) p66 k66_5 h0 ?_
  refine r_iconst (pc := 6) p66 k66_6 (v := (0 : Int32)) rfl ?_
  refine c_put (i := 16) rfl (pc := 7) p66 k66_7 rfl rfl rfl (cc_g16 _ Z 12 _) (cs16_12 _ _) rfl rfl ?_
  refine r_aload_n (pc := 10) p66 k66_10 h0 ?_
  refine r_iconst (pc := 11) p66 k66_11 (v := (0 : Int32)) rfl ?_
  refine c_put (i := 16) rfl (pc := 12) p66 k66_12 rfl rfl rfl (cc_g16 _ Z 13 _) (cs16_13 _ _) rfl rfl ?_
  refine r_aload_n (pc := 15) p66 k66_15 h0 ?_
  refine r_iconst (pc := 16) p66 k66_16 (v := (0 : Int32)) rfl ?_
  refine c_put (i := 16) rfl (pc := 17) p66 k66_17 rfl rfl rfl (cc_g16 _ Z 14 _) (cs16_14 _ _) rfl rfl ?_
  refine r_aload_n (pc := 20) p66 k66_20 h0 ?_
  refine r_iconst (pc := 21) p66 k66_21 (v := (0 : Int32)) rfl ?_
  refine c_put (i := 16) rfl (pc := 22) p66 k66_22 rfl rfl rfl (cc_g16 _ Z 15 _) (cs16_15 _ _) rfl rfl ?_
  refine r_aload_n (pc := 25) p66 k66_25 h0 ?_
  refine c_get (i := 16) rfl (pc := 26) p66 k66_26 rfl rfl (v := .ref 17) rfl ?_
  refine r_iconst (pc := 29) p66 k66_29 (v := (1 : Int32)) rfl ?_
  refine c_put (i := 17) rfl (pc := 30) p66 k66_30 rfl rfl rfl (cc_g17 _ Z 3 _) (cs17_3 _ _) rfl rfl ?_
  refine r_aload_n (pc := 33) p66 k66_33 h0 ?_
  refine c_get (i := 16) rfl (pc := 34) p66 k66_34 rfl rfl (v := .ref 17) rfl ?_
  refine r_aload_n (pc := 37) p66 k66_37 h0 ?_
  refine c_cv (i := 16) rfl (pc := 38) p66 k66_38 rfl p61 (r := [.ref 17]) rfl rfl rfl rfl rfl rfl (t61 (cg (cg (cg (cg (cg (cg s 16 11 (0 : Int32)) 16 12 (0 : Int32)) 16 13 (0 : Int32)) 16 14 (0 : Int32)) 16 15 (0 : Int32)) 17 3 (1 : Int32)) _ rfl) (w := [.int (f61 (cg (cg (cg (cg (cg (cg s 16 11 (0 : Int32)) 16 12 (0 : Int32)) 16 13 (0 : Int32)) 16 14 (0 : Int32)) 16 15 (0 : Int32)) 17 3 (1 : Int32))), .ref 17]) rfl ?_
  refine r_aload_n (pc := 41) p66 k66_41 h0 ?_
  refine c_get (i := 16) rfl (pc := 42) p66 k66_42 rfl rfl (v := .int (s.1 16 6)) rfl ?_
  refine r_iconst (pc := 45) p66 k66_45 (v := (1 : Int32)) rfl ?_
  refine r_ic_ne (pc := 46) p66 k66_46 (fun c => ?_) (fun c => ?_)
  · have e := (if_neg c).symm.trans e
    refine r_iconst (pc := 59) p66 k66_59 (v := (0 : Int32)) rfl ?_
    exact t66_60 (cg (cg (cg (cg (cg (cg s 16 11 (0 : Int32)) 16 12 (0 : Int32)) 16 13 (0 : Int32)) 16 14 (0 : Int32)) 16 15 (0 : Int32)) 17 3 (1 : Int32)) l x1 (0 : Int32) (f61 (cg (cg (cg (cg (cg (cg s 16 11 (0 : Int32)) 16 12 (0 : Int32)) 16 13 (0 : Int32)) 16 14 (0 : Int32)) 16 15 (0 : Int32)) 17 3 (1 : Int32))) h0 h1 r e
  · have e := (if_pos c).symm.trans e
    refine r_aload_n (pc := 49) p66 k66_49 h0 ?_
    refine c_get (i := 16) rfl (pc := 50) p66 k66_50 rfl rfl (v := .ref 17) rfl ?_
    refine c_get (i := 17) rfl (pc := 53) p66 k66_53 rfl rfl (v := .int (s.1 17 2)) rfl ?_
    refine r_goto (pc := 56) p66 k66_56 ?_
    exact t66_60 (cg (cg (cg (cg (cg (cg s 16 11 (0 : Int32)) 16 12 (0 : Int32)) 16 13 (0 : Int32)) 16 14 (0 : Int32)) 16 15 (0 : Int32)) 17 3 (1 : Int32)) l x1 (s.1 17 2) (f61 (cg (cg (cg (cg (cg (cg s 16 11 (0 : Int32)) 16 12 (0 : Int32)) 16 13 (0 : Int32)) 16 14 (0 : Int32)) 16 15 (0 : Int32)) 17 3 (1 : Int32))) h0 h1 r e

theorem p70 : ab_prog[70]? = some (ab_m70, ab_c70) := rfl
theorem k70_0 : ab_fetch ab_c70 0 = some (.iload_n 0, 1, 0, 0) := rfl
theorem k70_1 : ab_fetch ab_c70 1 = some (.bipush 45, 2, 0, 0) := rfl
theorem k70_3 : ab_fetch ab_c70 3 = some (.if_icmp .eq 15, 3, 18, 0) := rfl
theorem k70_6 : ab_fetch ab_c70 6 = some (.iload_n 0, 1, 0, 0) := rfl
theorem k70_7 : ab_fetch ab_c70 7 = some (.bipush 43, 2, 0, 0) := rfl
theorem k70_9 : ab_fetch ab_c70 9 = some (.if_icmp .eq 9, 3, 18, 0) := rfl
theorem k70_12 : ab_fetch ab_c70 12 = some (.iload_n 0, 1, 0, 0) := rfl
theorem k70_13 : ab_fetch ab_c70 13 = some (.bipush 126, 2, 0, 0) := rfl
theorem k70_15 : ab_fetch ab_c70 15 = some (.if_icmp .ne 7, 3, 22, 0) := rfl
theorem k70_18 : ab_fetch ab_c70 18 = some (.iconst 1, 1, 0, 0) := rfl
theorem k70_19 : ab_fetch ab_c70 19 = some (.goto 4, 3, 23, 0) := rfl
theorem k70_22 : ab_fetch ab_c70 22 = some (.iconst 0, 1, 0, 0) := rfl
theorem k70_23 : ab_fetch ab_c70 23 = some (.ireturn, 1, 0, 0) := rfl
/- CodeSmith$Calculator isPrefix(I)Z -/
def f70_18 : Int32 := (1 : Int32)
theorem t70_18 {d : Nat} {h : ab_H} : ∀ (l : ab_L)   (r : Int32) (e : f70_18  = r), ab_Rn d 70 18 l [] h (.inl (some (.int r))) h := by
  intro l r e
  unfold f70_18 at e
  refine r_iconst (pc := 18) p70 k70_18 (v := (1 : Int32)) rfl ?_
  refine r_goto (pc := 19) p70 k70_19 ?_
  subst e
  exact r_retZ (pc := 23) p70 k70_23 rfl (Or.inr rfl)
def f70 (x0 : Int32) : Int32 := (if x0 = (45 : Int32) then f70_18 else (if x0 = (43 : Int32) then f70_18 else (if x0 = (126 : Int32) then f70_18 else (0 : Int32))))
theorem t70 {d : Nat} {h : ab_H} (x0 : Int32) (r : Int32) (e : f70 x0 = r) : ab_Rn d 70 0 (lv_args 0 [.int x0]) [] h (.inl (some (.int r))) h := by
  unfold f70 at e
  obtain ⟨l, hl⟩ : ∃ l, l = (lv_args 0 [.int x0]) := ⟨_, rfl⟩
  rw [← hl]
  have h0 : ab_get l 0 = some (.int x0) := by rw [hl]; rfl
  refine r_iload_n (pc := 0) p70 k70_0 h0 ?_
  refine r_bipush (pc := 1) p70 k70_1 (v := (45 : Int32)) rfl ?_
  refine r_ic_eq (pc := 3) p70 k70_3 (fun c => ?_) (fun c => ?_)
  · have e := (if_pos c).symm.trans e
    exact t70_18 l r e
  · have e := (if_neg c).symm.trans e
    refine r_iload_n (pc := 6) p70 k70_6 h0 ?_
    refine r_bipush (pc := 7) p70 k70_7 (v := (43 : Int32)) rfl ?_
    refine r_ic_eq (pc := 9) p70 k70_9 (fun c => ?_) (fun c => ?_)
    · have e := (if_pos c).symm.trans e
      exact t70_18 l r e
    · have e := (if_neg c).symm.trans e
      refine r_iload_n (pc := 12) p70 k70_12 h0 ?_
      refine r_bipush (pc := 13) p70 k70_13 (v := (126 : Int32)) rfl ?_
      refine r_ic_ne (pc := 15) p70 k70_15 (fun c => ?_) (fun c => ?_)
      · have e := (if_neg c).symm.trans e
        refine r_iconst (pc := 22) p70 k70_22 (v := (0 : Int32)) rfl ?_
        subst e
        exact r_retZ (pc := 23) p70 k70_23 rfl (Or.inl rfl)
      · have e := (if_pos c).symm.trans e
        exact t70_18 l r e

theorem p72 : ab_prog[72]? = some (ab_m72, ab_c72) := rfl
theorem k72_0 : ab_fetch ab_c72 0 = some (.iload_n 1, 1, 0, 0) := rfl
theorem k72_1 : ab_fetch ab_c72 1 = some (.ifCond .lt 35, 3, 36, 0) := rfl
theorem k72_4 : ab_fetch ab_c72 4 = some (.iload_n 1, 1, 0, 0) := rfl
theorem k72_5 : ab_fetch ab_c72 5 = some (.aload_n 0, 1, 0, 0) := rfl
theorem k72_6 : ab_fetch ab_c72 6 = some (.getfield 37, 3, 3, 0) := rfl
theorem k72_9 : ab_fetch ab_c72 9 = some (.if_icmp .ge 27, 3, 36, 0) := rfl
theorem k72_12 : ab_fetch ab_c72 12 = some (.aload_n 0, 1, 0, 0) := rfl
theorem k72_13 : ab_fetch ab_c72 13 = some (.getfield 28, 3, 3, 6) := rfl
theorem k72_16 : ab_fetch ab_c72 16 = some (.iload_n 1, 1, 0, 0) := rfl
theorem k72_17 : ab_fetch ab_c72 17 = some (.iaload, 1, 0, 0) := rfl
theorem k72_18 : ab_fetch ab_c72 18 = some (.iconst 2, 1, 0, 0) := rfl
theorem k72_19 : ab_fetch ab_c72 19 = some (.if_icmp .ne 17, 3, 36, 0) := rfl
theorem k72_22 : ab_fetch ab_c72 22 = some (.aload_n 0, 1, 0, 0) := rfl
theorem k72_23 : ab_fetch ab_c72 23 = some (.getfield 34, 3, 3, 8) := rfl
theorem k72_26 : ab_fetch ab_c72 26 = some (.iload_n 1, 1, 0, 0) := rfl
theorem k72_27 : ab_fetch ab_c72 27 = some (.iaload, 1, 0, 0) := rfl
theorem k72_28 : ab_fetch ab_c72 28 = some (.iload_n 2, 1, 0, 0) := rfl
theorem k72_29 : ab_fetch ab_c72 29 = some (.if_icmp .ge 7, 3, 36, 0) := rfl
theorem k72_32 : ab_fetch ab_c72 32 = some (.iconst 1, 1, 0, 0) := rfl
theorem k72_33 : ab_fetch ab_c72 33 = some (.goto 4, 3, 37, 0) := rfl
theorem k72_36 : ab_fetch ab_c72 36 = some (.iconst 0, 1, 0, 0) := rfl
theorem k72_37 : ab_fetch ab_c72 37 = some (.ireturn, 1, 0, 0) := rfl
/- CodeSmith$Symbols isConstantBefore(II)Z -/
def f72 (s : cS) (x1 : Int32) (x2 : Int32) : Option Int32 := (if x1 < 0 then some (0 : Int32) else (if (s.1 2 0) ≤ x1 then some (0 : Int32) else if cB s 1 (s.2.1 2 6) x1 then (if (ce s (s.2.1 2 6) x1) = (2 : Int32) then if cB s 1 (s.2.1 2 8) x1 then (if x2 ≤ (ce s (s.2.1 2 8) x1) then some (0 : Int32) else some (1 : Int32)) else none else some (0 : Int32)) else none))
theorem t72 {d : Nat} {Z : Nat → ab_C} (s : cS) (x1 : Int32) (x2 : Int32) (r : Int32) (e : f72 s x1 x2 = some r) : ab_Rn d 72 0 (lv_args 0 [.ref 2, .int x1, .int x2]) [] (ch s Z) (.inl (some (.int r))) (ch s Z) := by
  unfold f72 at e
  obtain ⟨l, hl⟩ : ∃ l, l = (lv_args 0 [.ref 2, .int x1, .int x2]) := ⟨_, rfl⟩
  rw [← hl]
  have h0 : ab_get l 0 = some (.ref 2) := by rw [hl]; rfl
  have h1 : ab_get l 1 = some (.int x1) := by rw [hl]; rfl
  have h2 : ab_get l 2 = some (.int x2) := by rw [hl]; rfl
  refine r_iload_n (pc := 0) p72 k72_0 h1 ?_
  refine r_if_lt (pc := 1) p72 k72_1 (fun c => ?_) (fun c => ?_)
  · have e := (if_pos c).symm.trans e
    refine r_iconst (pc := 36) p72 k72_36 (v := (0 : Int32)) rfl ?_
    obtain rfl := Option.some.inj e
    exact r_retZ (pc := 37) p72 k72_37 rfl (Or.inl rfl)
  · have e := (if_neg c).symm.trans e
    refine r_iload_n (pc := 4) p72 k72_4 h1 ?_
    refine r_aload_n (pc := 5) p72 k72_5 h0 ?_
    refine c_get (i := 2) rfl (pc := 6) p72 k72_6 rfl rfl (v := .int (s.1 2 0)) rfl ?_
    refine r_ic_ge (pc := 9) p72 k72_9 (fun c => ?_) (fun c => ?_)
    · have e := (if_pos c).symm.trans e
      refine r_iconst (pc := 36) p72 k72_36 (v := (0 : Int32)) rfl ?_
      obtain rfl := Option.some.inj e
      exact r_retZ (pc := 37) p72 k72_37 rfl (Or.inl rfl)
    · have e := (if_neg c).symm.trans e
      refine r_aload_n (pc := 12) p72 k72_12 h0 ?_
      refine c_get (i := 2) rfl (pc := 13) p72 k72_13 rfl rfl (v := .ref (s.2.1 2 6)) rfl ?_
      refine r_iload_n (pc := 16) p72 k72_16 h1 ?_
      obtain ⟨c, e⟩ := of_if e
      refine c_ild (pc := 17) p72 k72_17 c ?_
      refine r_iconst (pc := 18) p72 k72_18 (v := (2 : Int32)) rfl ?_
      refine r_ic_ne (pc := 19) p72 k72_19 (fun c => ?_) (fun c => ?_)
      · have e := (if_neg c).symm.trans e
        refine r_iconst (pc := 36) p72 k72_36 (v := (0 : Int32)) rfl ?_
        obtain rfl := Option.some.inj e
        exact r_retZ (pc := 37) p72 k72_37 rfl (Or.inl rfl)
      · have e := (if_pos c).symm.trans e
        refine r_aload_n (pc := 22) p72 k72_22 h0 ?_
        refine c_get (i := 2) rfl (pc := 23) p72 k72_23 rfl rfl (v := .ref (s.2.1 2 8)) rfl ?_
        refine r_iload_n (pc := 26) p72 k72_26 h1 ?_
        obtain ⟨c, e⟩ := of_if e
        refine c_ild (pc := 27) p72 k72_27 c ?_
        refine r_iload_n (pc := 28) p72 k72_28 h2 ?_
        refine r_ic_ge (pc := 29) p72 k72_29 (fun c => ?_) (fun c => ?_)
        · have e := (if_pos c).symm.trans e
          refine r_iconst (pc := 36) p72 k72_36 (v := (0 : Int32)) rfl ?_
          obtain rfl := Option.some.inj e
          exact r_retZ (pc := 37) p72 k72_37 rfl (Or.inl rfl)
        · have e := (if_neg c).symm.trans e
          refine r_iconst (pc := 32) p72 k72_32 (v := (1 : Int32)) rfl ?_
          refine r_goto (pc := 33) p72 k72_33 ?_
          obtain rfl := Option.some.inj e
          exact r_retZ (pc := 37) p72 k72_37 rfl (Or.inr rfl)

theorem p73 : ab_prog[73]? = some (ab_m73, ab_c73) := rfl
theorem k73_0 : ab_fetch ab_c73 0 = some (.iload_n 1, 1, 0, 0) := rfl
theorem k73_1 : ab_fetch ab_c73 1 = some (.ifCond .lt 11, 3, 12, 0) := rfl
theorem k73_4 : ab_fetch ab_c73 4 = some (.iload_n 1, 1, 0, 0) := rfl
theorem k73_5 : ab_fetch ab_c73 5 = some (.aload_n 0, 1, 0, 0) := rfl
theorem k73_6 : ab_fetch ab_c73 6 = some (.getfield 37, 3, 3, 0) := rfl
theorem k73_9 : ab_fetch ab_c73 9 = some (.if_icmp .lt 5, 3, 14, 0) := rfl
theorem k73_12 : ab_fetch ab_c73 12 = some (.iconst 0, 1, 0, 0) := rfl
theorem k73_13 : ab_fetch ab_c73 13 = some (.ireturn, 1, 0, 0) := rfl
theorem k73_14 : ab_fetch ab_c73 14 = some (.aload_n 0, 1, 0, 0) := rfl
theorem k73_15 : ab_fetch ab_c73 15 = some (.getfield 28, 3, 3, 6) := rfl
theorem k73_18 : ab_fetch ab_c73 18 = some (.iload_n 1, 1, 0, 0) := rfl
theorem k73_19 : ab_fetch ab_c73 19 = some (.iaload, 1, 0, 0) := rfl
theorem k73_20 : ab_fetch ab_c73 20 = some (.iconst 1, 1, 0, 0) := rfl
theorem k73_21 : ab_fetch ab_c73 21 = some (.if_icmp .ne 14, 3, 35, 0) := rfl
theorem k73_24 : ab_fetch ab_c73 24 = some (.iload_n 2, 1, 0, 0) := rfl
theorem k73_25 : ab_fetch ab_c73 25 = some (.aload_n 0, 1, 0, 0) := rfl
theorem k73_26 : ab_fetch ab_c73 26 = some (.getfield 31, 3, 3, 7) := rfl
theorem k73_29 : ab_fetch ab_c73 29 = some (.iload_n 1, 1, 0, 0) := rfl
theorem k73_30 : ab_fetch ab_c73 30 = some (.iaload, 1, 0, 0) := rfl
theorem k73_31 : ab_fetch ab_c73 31 = some (.iadd, 1, 0, 0) := rfl
theorem k73_32 : ab_fetch ab_c73 32 = some (.goto 9, 3, 41, 0) := rfl
theorem k73_35 : ab_fetch ab_c73 35 = some (.aload_n 0, 1, 0, 0) := rfl
theorem k73_36 : ab_fetch ab_c73 36 = some (.getfield 31, 3, 3, 7) := rfl
theorem k73_39 : ab_fetch ab_c73 39 = some (.iload_n 1, 1, 0, 0) := rfl
theorem k73_40 : ab_fetch ab_c73 40 = some (.iaload, 1, 0, 0) := rfl
theorem k73_41 : ab_fetch ab_c73 41 = some (.ireturn, 1, 0, 0) := rfl
/- CodeSmith$Symbols valueOf(II)I -/
def f73 (s : cS) (x1 : Int32) (x2 : Int32) : Option Int32 := (if x1 < 0 then some (0 : Int32) else (if x1 < (s.1 2 0) then if cB s 1 (s.2.1 2 6) x1 then (if (ce s (s.2.1 2 6) x1) = (1 : Int32) then if cB s 1 (s.2.1 2 7) x1 then some (x2 + (ce s (s.2.1 2 7) x1)) else none else if cB s 1 (s.2.1 2 7) x1 then some (ce s (s.2.1 2 7) x1) else none) else none else some (0 : Int32)))
theorem t73 {d : Nat} {Z : Nat → ab_C} (s : cS) (x1 : Int32) (x2 : Int32) (r : Int32) (e : f73 s x1 x2 = some r) : ab_Rn d 73 0 (lv_args 0 [.ref 2, .int x1, .int x2]) [] (ch s Z) (.inl (some (.int r))) (ch s Z) := by
  unfold f73 at e
  obtain ⟨l, hl⟩ : ∃ l, l = (lv_args 0 [.ref 2, .int x1, .int x2]) := ⟨_, rfl⟩
  rw [← hl]
  have h0 : ab_get l 0 = some (.ref 2) := by rw [hl]; rfl
  have h1 : ab_get l 1 = some (.int x1) := by rw [hl]; rfl
  have h2 : ab_get l 2 = some (.int x2) := by rw [hl]; rfl
  refine r_iload_n (pc := 0) p73 k73_0 h1 ?_
  refine r_if_lt (pc := 1) p73 k73_1 (fun c => ?_) (fun c => ?_)
  · have e := (if_pos c).symm.trans e
    refine r_iconst (pc := 12) p73 k73_12 (v := (0 : Int32)) rfl ?_
    obtain rfl := Option.some.inj e
    exact r_retI (pc := 13) p73 k73_13 rfl
  · have e := (if_neg c).symm.trans e
    refine r_iload_n (pc := 4) p73 k73_4 h1 ?_
    refine r_aload_n (pc := 5) p73 k73_5 h0 ?_
    refine c_get (i := 2) rfl (pc := 6) p73 k73_6 rfl rfl (v := .int (s.1 2 0)) rfl ?_
    refine r_ic_lt (pc := 9) p73 k73_9 (fun c => ?_) (fun c => ?_)
    · have e := (if_pos c).symm.trans e
      refine r_aload_n (pc := 14) p73 k73_14 h0 ?_
      refine c_get (i := 2) rfl (pc := 15) p73 k73_15 rfl rfl (v := .ref (s.2.1 2 6)) rfl ?_
      refine r_iload_n (pc := 18) p73 k73_18 h1 ?_
      obtain ⟨c, e⟩ := of_if e
      refine c_ild (pc := 19) p73 k73_19 c ?_
      refine r_iconst (pc := 20) p73 k73_20 (v := (1 : Int32)) rfl ?_
      refine r_ic_ne (pc := 21) p73 k73_21 (fun c => ?_) (fun c => ?_)
      · have e := (if_neg c).symm.trans e
        refine r_aload_n (pc := 35) p73 k73_35 h0 ?_
        refine c_get (i := 2) rfl (pc := 36) p73 k73_36 rfl rfl (v := .ref (s.2.1 2 7)) rfl ?_
        refine r_iload_n (pc := 39) p73 k73_39 h1 ?_
        obtain ⟨c, e⟩ := of_if e
        refine c_ild (pc := 40) p73 k73_40 c ?_
        obtain rfl := Option.some.inj e
        exact r_retI (pc := 41) p73 k73_41 rfl
      · have e := (if_pos c).symm.trans e
        refine r_iload_n (pc := 24) p73 k73_24 h2 ?_
        refine r_aload_n (pc := 25) p73 k73_25 h0 ?_
        refine c_get (i := 2) rfl (pc := 26) p73 k73_26 rfl rfl (v := .ref (s.2.1 2 7)) rfl ?_
        refine r_iload_n (pc := 29) p73 k73_29 h1 ?_
        obtain ⟨c, e⟩ := of_if e
        refine c_ild (pc := 30) p73 k73_30 c ?_
        refine r_iadd (pc := 31) p73 k73_31 ?_
        refine r_goto (pc := 32) p73 k73_32 ?_
        obtain rfl := Option.some.inj e
        exact r_retI (pc := 41) p73 k73_41 rfl
    · have e := (if_neg c).symm.trans e
      refine r_iconst (pc := 12) p73 k73_12 (v := (0 : Int32)) rfl ?_
      obtain rfl := Option.some.inj e
      exact r_retI (pc := 13) p73 k73_13 rfl

theorem p71 : ab_prog[71]? = some (ab_m71, ab_c71) := rfl
theorem k71_0 : ab_fetch ab_c71 0 = some (.aload_n 0, 1, 0, 0) := rfl
theorem k71_1 : ab_fetch ab_c71 1 = some (.getfield 9, 3, 1, 4) := rfl
theorem k71_4 : ab_fetch ab_c71 4 = some (.getfield 33, 3, 4, 4) := rfl
theorem k71_7 : ab_fetch ab_c71 7 = some (.istore_n 1, 1, 0, 0) := rfl
theorem k71_8 : ab_fetch ab_c71 8 = some (.aload_n 0, 1, 0, 0) := rfl
theorem k71_9 : ab_fetch ab_c71 9 = some (.getfield 9, 3, 1, 4) := rfl
theorem k71_12 : ab_fetch ab_c71 12 = some (.getfield 72, 3, 4, 5) := rfl
theorem k71_15 : ab_fetch ab_c71 15 = some (.istore_n 2, 1, 0, 0) := rfl
theorem k71_16 : ab_fetch ab_c71 16 = some (.aload_n 0, 1, 0, 0) := rfl
theorem k71_17 : ab_fetch ab_c71 17 = some (.getfield 9, 3, 1, 4) := rfl
theorem k71_20 : ab_fetch ab_c71 20 = some (.iconst 1, 1, 0, 0) := rfl
theorem k71_21 : ab_fetch ab_c71 21 = some (.invokevirtual 36, 3, 45, 1) := rfl
theorem k71_24 : ab_fetch ab_c71 24 = some (.aload_n 0, 1, 0, 0) := rfl
theorem k71_25 : ab_fetch ab_c71 25 = some (.getfield 15, 3, 1, 5) := rfl
theorem k71_28 : ab_fetch ab_c71 28 = some (.iload_n 1, 1, 0, 0) := rfl
theorem k71_29 : ab_fetch ab_c71 29 = some (.iload_n 2, 1, 0, 0) := rfl
theorem k71_30 : ab_fetch ab_c71 30 = some (.invokevirtual 87, 3, 58, 2) := rfl
theorem k71_33 : ab_fetch ab_c71 33 = some (.istore_n 3, 1, 0, 0) := rfl
theorem k71_34 : ab_fetch ab_c71 34 = some (.aload_n 0, 1, 0, 0) := rfl
theorem k71_35 : ab_fetch ab_c71 35 = some (.getfield 15, 3, 1, 5) := rfl
theorem k71_38 : ab_fetch ab_c71 38 = some (.iload_n 3, 1, 0, 0) := rfl
theorem k71_39 : ab_fetch ab_c71 39 = some (.aload_n 0, 1, 0, 0) := rfl
theorem k71_40 : ab_fetch ab_c71 40 = some (.getfield 9, 3, 1, 4) := rfl
theorem k71_43 : ab_fetch ab_c71 43 = some (.getfield 92, 3, 4, 6) := rfl
theorem k71_46 : ab_fetch ab_c71 46 = some (.invokevirtual 95, 3, 72, 2) := rfl
theorem k71_49 : ab_fetch ab_c71 49 = some (.ifCond .ne 24, 3, 73, 0) := rfl
theorem k71_52 : ab_fetch ab_c71 52 = some (.aload_n 0, 1, 0, 0) := rfl
theorem k71_53 : ab_fetch ab_c71 53 = some (.iconst 0, 1, 0, 0) := rfl
theorem k71_54 : ab_fetch ab_c71 54 = some (.putfield 99, 3, 1, 3) := rfl
theorem k71_57 : ab_fetch ab_c71 57 = some (.aload_n 0, 1, 0, 0) := rfl
theorem k71_58 : ab_fetch ab_c71 58 = some (.getfield 103, 3, 1, 0) := rfl
theorem k71_61 : ab_fetch ab_c71 61 = some (.ifCond .ne 12, 3, 73, 0) := rfl
theorem k71_64 : ab_fetch ab_c71 64 = some (.aload_n 0, 1, 0, 0) := rfl
theorem k71_65 : ab_fetch ab_c71 65 = some (.getfield 9, 3, 1, 4) := rfl
theorem k71_68 : ab_fetch ab_c71 68 = some (.iload_n 1, 1, 0, 0) := rfl
theorem k71_69 : ab_fetch ab_c71 69 = some (.iconst 4, 1, 0, 0) := rfl
theorem k71_70 : ab_fetch ab_c71 70 = some (.invokevirtual 75, 3, 46, 2) := rfl
theorem k71_73 : ab_fetch ab_c71 73 = some (.iload_n 3, 1, 0, 0) := rfl
theorem k71_74 : ab_fetch ab_c71 74 = some (.iconst (-1), 1, 0, 0) := rfl
theorem k71_75 : ab_fetch ab_c71 75 = some (.if_icmp .ne 21, 3, 96, 0) := rfl
theorem k71_78 : ab_fetch ab_c71 78 = some (.aload_n 0, 1, 0, 0) := rfl
theorem k71_79 : ab_fetch ab_c71 79 = some (.getfield 103, 3, 1, 0) := rfl
theorem k71_82 : ab_fetch ab_c71 82 = some (.iconst 2, 1, 0, 0) := rfl
theorem k71_83 : ab_fetch ab_c71 83 = some (.if_icmp .ne 13, 3, 96, 0) := rfl
theorem k71_86 : ab_fetch ab_c71 86 = some (.aload_n 0, 1, 0, 0) := rfl
theorem k71_87 : ab_fetch ab_c71 87 = some (.getfield 9, 3, 1, 4) := rfl
theorem k71_90 : ab_fetch ab_c71 90 = some (.iload_n 1, 1, 0, 0) := rfl
theorem k71_91 : ab_fetch ab_c71 91 = some (.bipush 8, 2, 0, 0) := rfl
theorem k71_93 : ab_fetch ab_c71 93 = some (.invokevirtual 75, 3, 46, 2) := rfl
theorem k71_96 : ab_fetch ab_c71 96 = some (.aload_n 0, 1, 0, 0) := rfl
theorem k71_97 : ab_fetch ab_c71 97 = some (.getfield 15, 3, 1, 5) := rfl
theorem k71_100 : ab_fetch ab_c71 100 = some (.iload_n 3, 1, 0, 0) := rfl
theorem k71_101 : ab_fetch ab_c71 101 = some (.aload_n 0, 1, 0, 0) := rfl
theorem k71_102 : ab_fetch ab_c71 102 = some (.getfield 106, 3, 1, 2) := rfl
theorem k71_105 : ab_fetch ab_c71 105 = some (.invokevirtual 109, 3, 73, 2) := rfl
theorem k71_108 : ab_fetch ab_c71 108 = some (.ireturn, 1, 0, 0) := rfl
/- CodeSmith$Calculator named()I -/
def f71_96 (s : cS) (x3 : Int32) : Option ((Int32 × cS) ⊕ cS) := ((f73 s x3 (s.1 17 2)).bind fun r1 => some (.inl (r1, s)))
theorem t71_96 {d : Nat} {Z : Nat → ab_C} : ∀ (s : cS) (l : ab_L) (x3 : Int32) (h0 : ab_get l 0 = some (.ref 17)) (h3 : ab_get l 3 = some (.int x3)) (r : (Int32 × cS) ⊕ cS) (e : f71_96 s x3 = some r), ab_Rn (d + 2) 71 96 l [] (ch s Z) (oI r) (ch (zI r) Z) := by
  intro s l x3 h0 h3 r e
  unfold f71_96 at e
  refine r_aload_n (pc := 96) p71 k71_96 h0 ?_
  refine c_get (i := 17) rfl (pc := 97) p71 k71_97 rfl rfl (v := .ref 2) rfl ?_
  refine r_iload_n (pc := 100) p71 k71_100 h3 ?_
  refine r_aload_n (pc := 101) p71 k71_101 h0 ?_
  refine c_get (i := 17) rfl (pc := 102) p71 k71_102 rfl rfl (v := .int (s.1 17 2)) rfl ?_
  obtain ⟨r1, er1, e⟩ := of_bind e
  refine c_cv (i := 2) rfl (pc := 105) p71 k71_105 rfl p73 (r := []) rfl rfl rfl rfl rfl rfl (t73 s x3 (s.1 17 2) r1 er1) (w := [.int r1]) rfl ?_
  obtain rfl := Option.some.inj e
  exact r_retI (pc := 108) p71 k71_108 rfl
def f71_73 (s : cS) (x1 : Int32) (x3 : Int32) : Option ((Int32 × cS) ⊕ cS) := (if x3 = (-1 : Int32) then (if (s.1 17 0) = (2 : Int32) then some (.inr (f46 s x1 (8 : Int32))) else f71_96 s x3) else f71_96 s x3)
theorem t71_73 {d : Nat} {Z : Nat → ab_C} : ∀ (s : cS) (l : ab_L) (x1 : Int32) (x3 : Int32) (h0 : ab_get l 0 = some (.ref 17)) (h1 : ab_get l 1 = some (.int x1)) (h3 : ab_get l 3 = some (.int x3)) (r : (Int32 × cS) ⊕ cS) (e : f71_73 s x1 x3 = some r), ab_Rn (d + 2) 71 73 l [] (ch s Z) (oI r) (ch (zI r) Z) := by
  intro s l x1 x3 h0 h1 h3 r e
  unfold f71_73 at e
  refine r_iload_n (pc := 73) p71 k71_73 h3 ?_
  refine r_iconst (pc := 74) p71 k71_74 (v := (-1 : Int32)) rfl ?_
  refine r_ic_ne (pc := 75) p71 k71_75 (fun c => ?_) (fun c => ?_)
  · have e := (if_neg c).symm.trans e
    exact t71_96 s l x3 h0 h3 r e
  · have e := (if_pos c).symm.trans e
    refine r_aload_n (pc := 78) p71 k71_78 h0 ?_
    refine c_get (i := 17) rfl (pc := 79) p71 k71_79 rfl rfl (v := .int (s.1 17 0)) rfl ?_
    refine r_iconst (pc := 82) p71 k71_82 (v := (2 : Int32)) rfl ?_
    refine r_ic_ne (pc := 83) p71 k71_83 (fun c => ?_) (fun c => ?_)
    · have e := (if_neg c).symm.trans e
      exact t71_96 s l x3 h0 h3 r e
    · have e := (if_pos c).symm.trans e
      refine r_aload_n (pc := 86) p71 k71_86 h0 ?_
      refine c_get (i := 17) rfl (pc := 87) p71 k71_87 rfl rfl (v := .ref 11) rfl ?_
      refine r_iload_n (pc := 90) p71 k71_90 h1 ?_
      refine r_bipush (pc := 91) p71 k71_91 (v := (8 : Int32)) rfl ?_
      cases e
      exact c_cvx (i := 11) rfl (pc := 93) p71 k71_93 rfl p46 (r := []) rfl rfl rfl rfl rfl rfl (t46 s x1 (8 : Int32) _ rfl)
def f71 (s : cS) : Option ((Int32 × cS) ⊕ cS) := (tb (f45 s (1 : Int32)) fun r1 => ((f58 r1 (s.1 11 4) (s.1 11 5)).bind fun r2 => ((f72 r1 r2 (r1.1 11 6)).bind fun r3 => (if r3 = 0 then (if (r1.1 17 0) = 0 then some (.inr (f46 (cg r1 17 3 (0 : Int32)) (s.1 11 4) (4 : Int32))) else f71_73 (cg r1 17 3 (0 : Int32)) (s.1 11 4) r2) else f71_73 r1 (s.1 11 4) r2))))
theorem t71 {d : Nat} {Z : Nat → ab_C} (s : cS) (r : (Int32 × cS) ⊕ cS) (e : f71 s = some r) : ab_Rn (d + 2) 71 0 (lv_args 0 [.ref 17]) [] (ch s Z) (oI r) (ch (zI r) Z) := by
  unfold f71 at e
  obtain ⟨l, hl⟩ : ∃ l, l = (lv_args 0 [.ref 17]) := ⟨_, rfl⟩
  rw [← hl]
  have h0 : ab_get l 0 = some (.ref 17) := by rw [hl]; rfl
  refine r_aload_n (pc := 0) p71 k71_0 h0 ?_
  refine c_get (i := 17) rfl (pc := 1) p71 k71_1 rfl rfl (v := .ref 11) rfl ?_
  refine c_get (i := 11) rfl (pc := 4) p71 k71_4 rfl rfl (v := .int (s.1 11 4)) rfl ?_
  refine r_istore_n (pc := 7) p71 k71_7 (by decide) (fun l g h1 => ?_)
  have h0 := g 0 _ (by decide) h0 (Or.inl rfl)
  refine r_aload_n (pc := 8) p71 k71_8 h0 ?_
  refine c_get (i := 17) rfl (pc := 9) p71 k71_9 rfl rfl (v := .ref 11) rfl ?_
  refine c_get (i := 11) rfl (pc := 12) p71 k71_12 rfl rfl (v := .int (s.1 11 5)) rfl ?_
  refine r_istore_n (pc := 15) p71 k71_15 (by decide) (fun l g h2 => ?_)
  have h0 := g 0 _ (by decide) h0 (Or.inl rfl)
  have h1 := g 1 _ (by decide) h1 (Or.inl rfl)
  refine r_aload_n (pc := 16) p71 k71_16 h0 ?_
  refine c_get (i := 17) rfl (pc := 17) p71 k71_17 rfl rfl (v := .ref 11) rfl ?_
  refine r_iconst (pc := 20) p71 k71_20 (v := (1 : Int32)) rfl ?_
  rcases of_tb e with ⟨r1, er1, e⟩ | ⟨t, et, rfl⟩
  rotate_left
  · exact c_cvx (i := 11) rfl (pc := 21) p71 k71_21 rfl p45 (r := []) rfl rfl rfl rfl rfl rfl (t45 s (1 : Int32) _ et)
  refine c_cv (i := 11) rfl (pc := 21) p71 k71_21 rfl p45 (r := []) rfl rfl rfl rfl rfl rfl (t45 s (1 : Int32) _ er1) (w := []) rfl ?_
  refine r_aload_n (pc := 24) p71 k71_24 h0 ?_
  refine c_get (i := 17) rfl (pc := 25) p71 k71_25 rfl rfl (v := .ref 2) rfl ?_
  refine r_iload_n (pc := 28) p71 k71_28 h1 ?_
  refine r_iload_n (pc := 29) p71 k71_29 h2 ?_
  obtain ⟨r2, er2, e⟩ := of_bind e
  refine c_cv (i := 2) rfl (pc := 30) p71 k71_30 rfl p58 (r := []) rfl rfl rfl rfl rfl rfl (t58 r1 (s.1 11 4) (s.1 11 5) r2 er2) (w := [.int r2]) rfl ?_
  refine r_istore_n (pc := 33) p71 k71_33 (by decide) (fun l g h3 => ?_)
  have h0 := g 0 _ (by decide) h0 (Or.inl rfl)
  have h1 := g 1 _ (by decide) h1 (Or.inl rfl)
  refine r_aload_n (pc := 34) p71 k71_34 h0 ?_
  refine c_get (i := 17) rfl (pc := 35) p71 k71_35 rfl rfl (v := .ref 2) rfl ?_
  refine r_iload_n (pc := 38) p71 k71_38 h3 ?_
  refine r_aload_n (pc := 39) p71 k71_39 h0 ?_
  refine c_get (i := 17) rfl (pc := 40) p71 k71_40 rfl rfl (v := .ref 11) rfl ?_
  refine c_get (i := 11) rfl (pc := 43) p71 k71_43 rfl rfl (v := .int (r1.1 11 6)) rfl ?_
  obtain ⟨r3, er3, e⟩ := of_bind e
  refine c_cv (i := 2) rfl (pc := 46) p71 k71_46 rfl p72 (r := []) rfl rfl rfl rfl rfl rfl (t72 r1 r2 (r1.1 11 6) r3 er3) (w := [.int r3]) rfl ?_
  refine r_if_ne (pc := 49) p71 k71_49 (fun c => ?_) (fun c => ?_)
  · have e := (if_neg c).symm.trans e
    exact t71_73 r1 l (s.1 11 4) r2 h0 h1 h3 r e
  · have e := (if_pos c).symm.trans e
    refine r_aload_n (pc := 52) p71 k71_52 h0 ?_
    refine r_iconst (pc := 53) p71 k71_53 (v := (0 : Int32)) rfl ?_
    refine c_put (i := 17) rfl (pc := 54) p71 k71_54 rfl rfl rfl (cc_g17 _ Z 3 _) (cs17_3 _ _) rfl rfl ?_
    refine r_aload_n (pc := 57) p71 k71_57 h0 ?_
    refine c_get (i := 17) rfl (pc := 58) p71 k71_58 rfl rfl (v := .int (r1.1 17 0)) rfl ?_
    refine r_if_ne (pc := 61) p71 k71_61 (fun c => ?_) (fun c => ?_)
    · have e := (if_neg c).symm.trans e
      exact t71_73 (cg r1 17 3 (0 : Int32)) l (s.1 11 4) r2 h0 h1 h3 r e
    · have e := (if_pos c).symm.trans e
      refine r_aload_n (pc := 64) p71 k71_64 h0 ?_
      refine c_get (i := 17) rfl (pc := 65) p71 k71_65 rfl rfl (v := .ref 11) rfl ?_
      refine r_iload_n (pc := 68) p71 k71_68 h1 ?_
      refine r_iconst (pc := 69) p71 k71_69 (v := (4 : Int32)) rfl ?_
      cases e
      exact c_cvx (i := 11) rfl (pc := 70) p71 k71_70 rfl p46 (r := []) rfl rfl rfl rfl rfl rfl (t46 (cg r1 17 3 (0 : Int32)) (s.1 11 4) (4 : Int32) _ rfl)

theorem p74 : ab_prog[74]? = some (ab_m74, ab_c74) := rfl
theorem k74_0 : ab_fetch ab_c74 0 = some (.aload_n 0, 1, 0, 0) := rfl
theorem k74_1 : ab_fetch ab_c74 1 = some (.iconst 0, 1, 0, 0) := rfl
theorem k74_2 : ab_fetch ab_c74 2 = some (.putfield 99, 3, 1, 3) := rfl
theorem k74_5 : ab_fetch ab_c74 5 = some (.aload_n 0, 1, 0, 0) := rfl
theorem k74_6 : ab_fetch ab_c74 6 = some (.getfield 103, 3, 1, 0) := rfl
theorem k74_9 : ab_fetch ab_c74 9 = some (.ifCond .ne 18, 3, 27, 0) := rfl
theorem k74_12 : ab_fetch ab_c74 12 = some (.aload_n 0, 1, 0, 0) := rfl
theorem k74_13 : ab_fetch ab_c74 13 = some (.getfield 9, 3, 1, 4) := rfl
theorem k74_16 : ab_fetch ab_c74 16 = some (.aload_n 0, 1, 0, 0) := rfl
theorem k74_17 : ab_fetch ab_c74 17 = some (.getfield 9, 3, 1, 4) := rfl
theorem k74_20 : ab_fetch ab_c74 20 = some (.getfield 33, 3, 4, 4) := rfl
theorem k74_23 : ab_fetch ab_c74 23 = some (.iconst 4, 1, 0, 0) := rfl
theorem k74_24 : ab_fetch ab_c74 24 = some (.invokevirtual 75, 3, 46, 2) := rfl
theorem k74_27 : ab_fetch ab_c74 27 = some (.aload_n 0, 1, 0, 0) := rfl
theorem k74_28 : ab_fetch ab_c74 28 = some (.getfield 9, 3, 1, 4) := rfl
theorem k74_31 : ab_fetch ab_c74 31 = some (.bipush 46, 2, 0, 0) := rfl
theorem k74_33 : ab_fetch ab_c74 33 = some (.invokevirtual 36, 3, 45, 1) := rfl
theorem k74_36 : ab_fetch ab_c74 36 = some (.aload_n 0, 1, 0, 0) := rfl
theorem k74_37 : ab_fetch ab_c74 37 = some (.getfield 112, 3, 1, 1) := rfl
theorem k74_40 : ab_fetch ab_c74 40 = some (.ireturn, 1, 0, 0) := rfl
/- CodeSmith$Calculator addressHere()I -/
def f74 (s : cS) : Option ((Int32 × cS) ⊕ cS) := (if (s.1 17 0) = 0 then some (.inr (f46 (cg s 17 3 (0 : Int32)) (s.1 11 4) (4 : Int32))) else (tb (f45 (cg s 17 3 (0 : Int32)) (46 : Int32)) fun r1 => some (.inl ((r1.1 17 1), r1))))
theorem t74 {d : Nat} {Z : Nat → ab_C} (s : cS) (r : (Int32 × cS) ⊕ cS) (e : f74 s = some r) : ab_Rn (d + 2) 74 0 (lv_args 0 [.ref 17]) [] (ch s Z) (oI r) (ch (zI r) Z) := by
  unfold f74 at e
  obtain ⟨l, hl⟩ : ∃ l, l = (lv_args 0 [.ref 17]) := ⟨_, rfl⟩
  rw [← hl]
  have h0 : ab_get l 0 = some (.ref 17) := by rw [hl]; rfl
  refine r_aload_n (pc := 0) p74 k74_0 h0 ?_
  refine r_iconst (pc := 1) p74 k74_1 (v := (0 : Int32)) rfl ?_
  refine c_put (i := 17) rfl (pc := 2) p74 k74_2 rfl rfl rfl (cc_g17 _ Z 3 _) (cs17_3 _ _) rfl rfl ?_
  refine r_aload_n (pc := 5) p74 k74_5 h0 ?_
  refine c_get (i := 17) rfl (pc := 6) p74 k74_6 rfl rfl (v := .int (s.1 17 0)) rfl ?_
  refine r_if_ne (pc := 9) p74 k74_9 (fun c => ?_) (fun c => ?_)
  · have e := (if_neg c).symm.trans e
    refine r_aload_n (pc := 27) p74 k74_27 h0 ?_
    refine c_get (i := 17) rfl (pc := 28) p74 k74_28 rfl rfl (v := .ref 11) rfl ?_
    refine r_bipush (pc := 31) p74 k74_31 (v := (46 : Int32)) rfl ?_
    rcases of_tb e with ⟨r1, er1, e⟩ | ⟨t, et, rfl⟩
    rotate_left
    · exact c_cvx (i := 11) rfl (pc := 33) p74 k74_33 rfl p45 (r := []) rfl rfl rfl rfl rfl rfl (t45 (cg s 17 3 (0 : Int32)) (46 : Int32) _ et)
    refine c_cv (i := 11) rfl (pc := 33) p74 k74_33 rfl p45 (r := []) rfl rfl rfl rfl rfl rfl (t45 (cg s 17 3 (0 : Int32)) (46 : Int32) _ er1) (w := []) rfl ?_
    refine r_aload_n (pc := 36) p74 k74_36 h0 ?_
    refine c_get (i := 17) rfl (pc := 37) p74 k74_37 rfl rfl (v := .int (r1.1 17 1)) rfl ?_
    obtain rfl := Option.some.inj e
    exact r_retI (pc := 40) p74 k74_40 rfl
  · have e := (if_pos c).symm.trans e
    refine r_aload_n (pc := 12) p74 k74_12 h0 ?_
    refine c_get (i := 17) rfl (pc := 13) p74 k74_13 rfl rfl (v := .ref 11) rfl ?_
    refine r_aload_n (pc := 16) p74 k74_16 h0 ?_
    refine c_get (i := 17) rfl (pc := 17) p74 k74_17 rfl rfl (v := .ref 11) rfl ?_
    refine c_get (i := 11) rfl (pc := 20) p74 k74_20 rfl rfl (v := .int (s.1 11 4)) rfl ?_
    refine r_iconst (pc := 23) p74 k74_23 (v := (4 : Int32)) rfl ?_
    cases e
    exact c_cvx (i := 11) rfl (pc := 24) p74 k74_24 rfl p46 (r := []) rfl rfl rfl rfl rfl rfl (t46 (cg s 17 3 (0 : Int32)) (s.1 11 4) (4 : Int32) _ rfl)

theorem p76 : ab_prog[76]? = some (ab_m76, ab_c76) := rfl
theorem k76_0 : ab_fetch ab_c76 0 = some (.aload_n 0, 1, 0, 0) := rfl
theorem k76_1 : ab_fetch ab_c76 1 = some (.getfield 9, 3, 1, 4) := rfl
theorem k76_4 : ab_fetch ab_c76 4 = some (.bipush 37, 2, 0, 0) := rfl
theorem k76_6 : ab_fetch ab_c76 6 = some (.invokevirtual 36, 3, 45, 1) := rfl
theorem k76_9 : ab_fetch ab_c76 9 = some (.aload_n 0, 1, 0, 0) := rfl
theorem k76_10 : ab_fetch ab_c76 10 = some (.getfield 9, 3, 1, 4) := rfl
theorem k76_13 : ab_fetch ab_c76 13 = some (.getfield 33, 3, 4, 4) := rfl
theorem k76_16 : ab_fetch ab_c76 16 = some (.istore_n 1, 1, 0, 0) := rfl
theorem k76_17 : ab_fetch ab_c76 17 = some (.aload_n 0, 1, 0, 0) := rfl
theorem k76_18 : ab_fetch ab_c76 18 = some (.getfield 9, 3, 1, 4) := rfl
theorem k76_21 : ab_fetch ab_c76 21 = some (.iload_n 1, 1, 0, 0) := rfl
theorem k76_22 : ab_fetch ab_c76 22 = some (.aload_n 0, 1, 0, 0) := rfl
theorem k76_23 : ab_fetch ab_c76 23 = some (.getfield 9, 3, 1, 4) := rfl
theorem k76_26 : ab_fetch ab_c76 26 = some (.getfield 72, 3, 4, 5) := rfl
theorem k76_29 : ab_fetch ab_c76 29 = some (.ldc 79, 2, 4, 1) := rfl
theorem k76_31 : ab_fetch ab_c76 31 = some (.invokevirtual 81, 3, 51, 3) := rfl
theorem k76_34 : ab_fetch ab_c76 34 = some (.ifCond .ne 7, 3, 41, 0) := rfl
theorem k76_37 : ab_fetch ab_c76 37 = some (.iconst 1, 1, 0, 0) := rfl
theorem k76_38 : ab_fetch ab_c76 38 = some (.goto 4, 3, 42, 0) := rfl
theorem k76_41 : ab_fetch ab_c76 41 = some (.iconst 0, 1, 0, 0) := rfl
theorem k76_42 : ab_fetch ab_c76 42 = some (.istore_n 2, 1, 0, 0) := rfl
theorem k76_43 : ab_fetch ab_c76 43 = some (.aload_n 0, 1, 0, 0) := rfl
theorem k76_44 : ab_fetch ab_c76 44 = some (.getfield 9, 3, 1, 4) := rfl
theorem k76_47 : ab_fetch ab_c76 47 = some (.iload_n 1, 1, 0, 0) := rfl
theorem k76_48 : ab_fetch ab_c76 48 = some (.aload_n 0, 1, 0, 0) := rfl
theorem k76_49 : ab_fetch ab_c76 49 = some (.getfield 9, 3, 1, 4) := rfl
theorem k76_52 : ab_fetch ab_c76 52 = some (.getfield 72, 3, 4, 5) := rfl
theorem k76_55 : ab_fetch ab_c76 55 = some (.ldc 85, 2, 5, 1) := rfl
theorem k76_57 : ab_fetch ab_c76 57 = some (.invokevirtual 81, 3, 51, 3) := rfl
theorem k76_60 : ab_fetch ab_c76 60 = some (.ifCond .ne 7, 3, 67, 0) := rfl
theorem k76_63 : ab_fetch ab_c76 63 = some (.iconst 1, 1, 0, 0) := rfl
theorem k76_64 : ab_fetch ab_c76 64 = some (.goto 4, 3, 68, 0) := rfl
theorem k76_67 : ab_fetch ab_c76 67 = some (.iconst 0, 1, 0, 0) := rfl
theorem k76_68 : ab_fetch ab_c76 68 = some (.istore_n 3, 1, 0, 0) := rfl
theorem k76_69 : ab_fetch ab_c76 69 = some (.aload_n 0, 1, 0, 0) := rfl
theorem k76_70 : ab_fetch ab_c76 70 = some (.getfield 9, 3, 1, 4) := rfl
theorem k76_73 : ab_fetch ab_c76 73 = some (.iconst 1, 1, 0, 0) := rfl
theorem k76_74 : ab_fetch ab_c76 74 = some (.invokevirtual 36, 3, 45, 1) := rfl
theorem k76_77 : ab_fetch ab_c76 77 = some (.iload_n 2, 1, 0, 0) := rfl
theorem k76_78 : ab_fetch ab_c76 78 = some (.ifCond .ne 16, 3, 94, 0) := rfl
theorem k76_81 : ab_fetch ab_c76 81 = some (.iload_n 3, 1, 0, 0) := rfl
theorem k76_82 : ab_fetch ab_c76 82 = some (.ifCond .ne 12, 3, 94, 0) := rfl
theorem k76_85 : ab_fetch ab_c76 85 = some (.aload_n 0, 1, 0, 0) := rfl
theorem k76_86 : ab_fetch ab_c76 86 = some (.getfield 9, 3, 1, 4) := rfl
theorem k76_89 : ab_fetch ab_c76 89 = some (.iload_n 1, 1, 0, 0) := rfl
theorem k76_90 : ab_fetch ab_c76 90 = some (.iconst 1, 1, 0, 0) := rfl
theorem k76_91 : ab_fetch ab_c76 91 = some (.invokevirtual 75, 3, 46, 2) := rfl
theorem k76_94 : ab_fetch ab_c76 94 = some (.iload_n 2, 1, 0, 0) := rfl
theorem k76_95 : ab_fetch ab_c76 95 = some (.ireturn, 1, 0, 0) := rfl
/- CodeSmith$Calculator readHighOrLow()Z -/
def f76_68 (s : cS) (x1 : Int32) (x2 : Int32) (y0 : Int32) : Option ((Int32 × cS) ⊕ cS) := (tb (f45 s (1 : Int32)) fun r1 => (if x2 = 0 then (if y0 = 0 then some (.inr (f46 r1 x1 (1 : Int32))) else if bz x2 then some (.inl (x2, r1)) else none) else if bz x2 then some (.inl (x2, r1)) else none))
theorem t76_68 {d : Nat} {Z : Nat → ab_C} : ∀ (s : cS) (l : ab_L) (x1 : Int32) (x2 : Int32) (y0 : Int32) (h0 : ab_get l 0 = some (.ref 17)) (h1 : ab_get l 1 = some (.int x1)) (h2 : ab_get l 2 = some (.int x2)) (r : (Int32 × cS) ⊕ cS) (e : f76_68 s x1 x2 y0 = some r), ab_Rn (d + 5) 76 68 l [.int y0] (ch s Z) (oI r) (ch (zI r) Z) := by
  intro s l x1 x2 y0 h0 h1 h2 r e
  unfold f76_68 at e
  refine r_istore_n (pc := 68) p76 k76_68 (by decide) (fun l g h3 => ?_)
  have h0 := g 0 _ (by decide) h0 (Or.inl rfl)
  have h1 := g 1 _ (by decide) h1 (Or.inl rfl)
  have h2 := g 2 _ (by decide) h2 (Or.inl rfl)
  refine r_aload_n (pc := 69) p76 k76_69 h0 ?_
  refine c_get (i := 17) rfl (pc := 70) p76 k76_70 rfl rfl (v := .ref 11) rfl ?_
  refine r_iconst (pc := 73) p76 k76_73 (v := (1 : Int32)) rfl ?_
  rcases of_tb e with ⟨r1, er1, e⟩ | ⟨t, et, rfl⟩
  rotate_left
  · exact c_cvx (i := 11) rfl (pc := 74) p76 k76_74 rfl p45 (r := []) rfl rfl rfl rfl rfl rfl (t45 s (1 : Int32) _ et)
  refine c_cv (i := 11) rfl (pc := 74) p76 k76_74 rfl p45 (r := []) rfl rfl rfl rfl rfl rfl (t45 s (1 : Int32) _ er1) (w := []) rfl ?_
  refine r_iload_n (pc := 77) p76 k76_77 h2 ?_
  refine r_if_ne (pc := 78) p76 k76_78 (fun c => ?_) (fun c => ?_)
  · have e := (if_neg c).symm.trans e
    refine r_iload_n (pc := 94) p76 k76_94 h2 ?_
    obtain ⟨c, e⟩ := of_if e
    cases e
    exact r_retZ (pc := 95) p76 k76_95 rfl c
  · have e := (if_pos c).symm.trans e
    refine r_iload_n (pc := 81) p76 k76_81 h3 ?_
    refine r_if_ne (pc := 82) p76 k76_82 (fun c => ?_) (fun c => ?_)
    · have e := (if_neg c).symm.trans e
      refine r_iload_n (pc := 94) p76 k76_94 h2 ?_
      obtain ⟨c, e⟩ := of_if e
      cases e
      exact r_retZ (pc := 95) p76 k76_95 rfl c
    · have e := (if_pos c).symm.trans e
      refine r_aload_n (pc := 85) p76 k76_85 h0 ?_
      refine c_get (i := 17) rfl (pc := 86) p76 k76_86 rfl rfl (v := .ref 11) rfl ?_
      refine r_iload_n (pc := 89) p76 k76_89 h1 ?_
      refine r_iconst (pc := 90) p76 k76_90 (v := (1 : Int32)) rfl ?_
      cases e
      exact c_cvx (i := 11) rfl (pc := 91) p76 k76_91 rfl p46 (r := []) rfl rfl rfl rfl rfl rfl (t46 r1 x1 (1 : Int32) _ rfl)
def f76_42 (s : cS) (x1 : Int32) (y0 : Int32) : Option ((Int32 × cS) ⊕ cS) := ((f51 s x1 (s.1 11 5) 5).bind fun r1 => (if r1 = 0 then f76_68 s x1 y0 (1 : Int32) else f76_68 s x1 y0 (0 : Int32)))
theorem t76_42 {d : Nat} {Z : Nat → ab_C} : ∀ (s : cS) (l : ab_L) (x1 : Int32) (y0 : Int32) (h0 : ab_get l 0 = some (.ref 17)) (h1 : ab_get l 1 = some (.int x1)) (r : (Int32 × cS) ⊕ cS) (e : f76_42 s x1 y0 = some r), ab_Rn (d + 5) 76 42 l [.int y0] (ch s Z) (oI r) (ch (zI r) Z) := by
  intro s l x1 y0 h0 h1 r e
  unfold f76_42 at e
  refine r_istore_n (pc := 42) p76 k76_42 (by decide) (fun l g h2 => ?_)
  have h0 := g 0 _ (by decide) h0 (Or.inl rfl)
  have h1 := g 1 _ (by decide) h1 (Or.inl rfl)
  refine r_aload_n (pc := 43) p76 k76_43 h0 ?_
  refine c_get (i := 17) rfl (pc := 44) p76 k76_44 rfl rfl (v := .ref 11) rfl ?_
  refine r_iload_n (pc := 47) p76 k76_47 h1 ?_
  refine r_aload_n (pc := 48) p76 k76_48 h0 ?_
  refine c_get (i := 17) rfl (pc := 49) p76 k76_49 rfl rfl (v := .ref 11) rfl ?_
  refine c_get (i := 11) rfl (pc := 52) p76 k76_52 rfl rfl (v := .int (s.1 11 5)) rfl ?_
  refine r_ldS (pc := 55) p76 k76_55 ?_
  obtain ⟨r1, er1, e⟩ := of_bind e
  refine c_cv (i := 11) rfl (pc := 57) p76 k76_57 rfl p51 (r := []) rfl rfl rfl rfl rfl rfl (t51 s x1 (s.1 11 5) 5 r1 er1) (w := [.int r1]) rfl ?_
  refine r_if_ne (pc := 60) p76 k76_60 (fun c => ?_) (fun c => ?_)
  · have e := (if_neg c).symm.trans e
    refine r_iconst (pc := 67) p76 k76_67 (v := (0 : Int32)) rfl ?_
    exact t76_68 s l x1 y0 (0 : Int32) h0 h1 h2 r e
  · have e := (if_pos c).symm.trans e
    refine r_iconst (pc := 63) p76 k76_63 (v := (1 : Int32)) rfl ?_
    refine r_goto (pc := 64) p76 k76_64 ?_
    exact t76_68 s l x1 y0 (1 : Int32) h0 h1 h2 r e
def f76 (s : cS) : Option ((Int32 × cS) ⊕ cS) := (tb (f45 s (37 : Int32)) fun r1 => ((f51 r1 (r1.1 11 4) (r1.1 11 5) 4).bind fun r2 => (if r2 = 0 then f76_42 r1 (r1.1 11 4) (1 : Int32) else f76_42 r1 (r1.1 11 4) (0 : Int32))))
theorem t76 {d : Nat} {Z : Nat → ab_C} (s : cS) (r : (Int32 × cS) ⊕ cS) (e : f76 s = some r) : ab_Rn (d + 5) 76 0 (lv_args 0 [.ref 17]) [] (ch s Z) (oI r) (ch (zI r) Z) := by
  unfold f76 at e
  obtain ⟨l, hl⟩ : ∃ l, l = (lv_args 0 [.ref 17]) := ⟨_, rfl⟩
  rw [← hl]
  have h0 : ab_get l 0 = some (.ref 17) := by rw [hl]; rfl
  refine r_aload_n (pc := 0) p76 k76_0 h0 ?_
  refine c_get (i := 17) rfl (pc := 1) p76 k76_1 rfl rfl (v := .ref 11) rfl ?_
  refine r_bipush (pc := 4) p76 k76_4 (v := (37 : Int32)) rfl ?_
  rcases of_tb e with ⟨r1, er1, e⟩ | ⟨t, et, rfl⟩
  rotate_left
  · exact c_cvx (i := 11) rfl (pc := 6) p76 k76_6 rfl p45 (r := []) rfl rfl rfl rfl rfl rfl (t45 s (37 : Int32) _ et)
  refine c_cv (i := 11) rfl (pc := 6) p76 k76_6 rfl p45 (r := []) rfl rfl rfl rfl rfl rfl (t45 s (37 : Int32) _ er1) (w := []) rfl ?_
  refine r_aload_n (pc := 9) p76 k76_9 h0 ?_
  refine c_get (i := 17) rfl (pc := 10) p76 k76_10 rfl rfl (v := .ref 11) rfl ?_
  refine c_get (i := 11) rfl (pc := 13) p76 k76_13 rfl rfl (v := .int (r1.1 11 4)) rfl ?_
  refine r_istore_n (pc := 16) p76 k76_16 (by decide) (fun l g h1 => ?_)
  have h0 := g 0 _ (by decide) h0 (Or.inl rfl)
  refine r_aload_n (pc := 17) p76 k76_17 h0 ?_
  refine c_get (i := 17) rfl (pc := 18) p76 k76_18 rfl rfl (v := .ref 11) rfl ?_
  refine r_iload_n (pc := 21) p76 k76_21 h1 ?_
  refine r_aload_n (pc := 22) p76 k76_22 h0 ?_
  refine c_get (i := 17) rfl (pc := 23) p76 k76_23 rfl rfl (v := .ref 11) rfl ?_
  refine c_get (i := 11) rfl (pc := 26) p76 k76_26 rfl rfl (v := .int (r1.1 11 5)) rfl ?_
  refine r_ldS (pc := 29) p76 k76_29 ?_
  obtain ⟨r2, er2, e⟩ := of_bind e
  refine c_cv (i := 11) rfl (pc := 31) p76 k76_31 rfl p51 (r := []) rfl rfl rfl rfl rfl rfl (t51 r1 (r1.1 11 4) (r1.1 11 5) 4 r2 er2) (w := [.int r2]) rfl ?_
  refine r_if_ne (pc := 34) p76 k76_34 (fun c => ?_) (fun c => ?_)
  · have e := (if_neg c).symm.trans e
    refine r_iconst (pc := 41) p76 k76_41 (v := (0 : Int32)) rfl ?_
    exact t76_42 r1 l (r1.1 11 4) (0 : Int32) h0 h1 r e
  · have e := (if_pos c).symm.trans e
    refine r_iconst (pc := 37) p76 k76_37 (v := (1 : Int32)) rfl ?_
    refine r_goto (pc := 38) p76 k76_38 ?_
    exact t76_42 r1 l (r1.1 11 4) (1 : Int32) h0 h1 r e

theorem p78 : ab_prog[78]? = some (ab_m78, ab_c78) := rfl
theorem k78_0 : ab_fetch ab_c78 0 = some (.iload_n 0, 1, 0, 0) := rfl
theorem k78_1 : ab_fetch ab_c78 1 = some (.bipush 20, 2, 0, 0) := rfl
theorem k78_3 : ab_fetch ab_c78 3 = some (.ishl, 1, 0, 0) := rfl
theorem k78_4 : ab_fetch ab_c78 4 = some (.bipush 20, 2, 0, 0) := rfl
theorem k78_6 : ab_fetch ab_c78 6 = some (.ishr, 1, 0, 0) := rfl
theorem k78_7 : ab_fetch ab_c78 7 = some (.ireturn, 1, 0, 0) := rfl
/- CodeSmith$Calculator lowPart(I)I -/
def f78 (x0 : Int32) : Int32 := ((x0 <<< ((20 : Int32) &&& 31)) >>> ((20 : Int32) &&& 31))
theorem t78 {d : Nat} {h : ab_H} (x0 : Int32) (r : Int32) (e : f78 x0 = r) : ab_Rn d 78 0 (lv_args 0 [.int x0]) [] h (.inl (some (.int r))) h := by
  unfold f78 at e
  obtain ⟨l, hl⟩ : ∃ l, l = (lv_args 0 [.int x0]) := ⟨_, rfl⟩
  rw [← hl]
  have h0 : ab_get l 0 = some (.int x0) := by rw [hl]; rfl
  refine r_iload_n (pc := 0) p78 k78_0 h0 ?_
  refine r_bipush (pc := 1) p78 k78_1 (v := (20 : Int32)) rfl ?_
  refine r_ishl (pc := 3) p78 k78_3 ?_
  refine r_bipush (pc := 4) p78 k78_4 (v := (20 : Int32)) rfl ?_
  refine r_ishr (pc := 6) p78 k78_6 ?_
  subst e
  exact r_retI (pc := 7) p78 k78_7 rfl

theorem p77 : ab_prog[77]? = some (ab_m77, ab_c77) := rfl
theorem k77_0 : ab_fetch ab_c77 0 = some (.iload_n 0, 1, 0, 0) := rfl
theorem k77_1 : ab_fetch ab_c77 1 = some (.iload_n 0, 1, 0, 0) := rfl
theorem k77_2 : ab_fetch ab_c77 2 = some (.invokestatic 69, 3, 78, 1) := rfl
theorem k77_5 : ab_fetch ab_c77 5 = some (.isub, 1, 0, 0) := rfl
theorem k77_6 : ab_fetch ab_c77 6 = some (.bipush 12, 2, 0, 0) := rfl
theorem k77_8 : ab_fetch ab_c77 8 = some (.iushr, 1, 0, 0) := rfl
theorem k77_9 : ab_fetch ab_c77 9 = some (.ireturn, 1, 0, 0) := rfl
/- CodeSmith$Calculator highPart(I)I -/
def f77 (x0 : Int32) : Int32 := (((x0 - (f78 x0)).toUInt32 >>> ((12 : Int32).toUInt32 &&& Int32.toUInt32 31)).toInt32)
theorem t77 {d : Nat} {h : ab_H} (x0 : Int32) (r : Int32) (e : f77 x0 = r) : ab_Rn (d + 1) 77 0 (lv_args 0 [.int x0]) [] h (.inl (some (.int r))) h := by
  unfold f77 at e
  obtain ⟨l, hl⟩ : ∃ l, l = (lv_args 0 [.int x0]) := ⟨_, rfl⟩
  rw [← hl]
  have h0 : ab_get l 0 = some (.int x0) := by rw [hl]; rfl
  refine r_iload_n (pc := 0) p77 k77_0 h0 ?_
  refine r_iload_n (pc := 1) p77 k77_1 h0 ?_
  refine r_csv (pc := 2) p77 k77_2 rfl rfl p78 (r := [.int x0]) rfl rfl rfl rfl (t78 x0 _ rfl) (w := [.int (f78 x0), .int x0]) rfl ?_
  refine r_isub (pc := 5) p77 k77_5 ?_
  refine r_bipush (pc := 6) p77 k77_6 (v := (12 : Int32)) rfl ?_
  refine r_iushr (pc := 8) p77 k77_8 ?_
  subst e
  exact r_retI (pc := 9) p77 k77_9 rfl
