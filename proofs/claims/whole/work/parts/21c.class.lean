theorem p39 : ab_prog[39]? = some (ab_m39, ab_c39) := rfl
theorem k39_0 : ab_fetch ab_c39 0 = some (.iconst 0, 1, 0, 0) := rfl
theorem k39_1 : ab_fetch ab_c39 1 = some (.istore_n 2, 1, 0, 0) := rfl
theorem k39_2 : ab_fetch ab_c39 2 = some (.iload_n 1, 1, 0, 0) := rfl
theorem k39_3 : ab_fetch ab_c39 3 = some (.iconst 1, 1, 0, 0) := rfl
theorem k39_4 : ab_fetch ab_c39 4 = some (.iadd, 1, 0, 0) := rfl
theorem k39_5 : ab_fetch ab_c39 5 = some (.istore_n 3, 1, 0, 0) := rfl
theorem k39_6 : ab_fetch ab_c39 6 = some (.iload_n 3, 1, 0, 0) := rfl
theorem k39_7 : ab_fetch ab_c39 7 = some (.aload_n 0, 1, 0, 0) := rfl
theorem k39_8 : ab_fetch ab_c39 8 = some (.getfield 50, 3, 4, 10) := rfl
theorem k39_11 : ab_fetch ab_c39 11 = some (.if_icmp .ge 28, 3, 39, 0) := rfl
theorem k39_14 : ab_fetch ab_c39 14 = some (.aload_n 0, 1, 0, 0) := rfl
theorem k39_15 : ab_fetch ab_c39 15 = some (.iload_n 3, 1, 0, 0) := rfl
theorem k39_16 : ab_fetch ab_c39 16 = some (.bipush 34, 2, 0, 0) := rfl
theorem k39_18 : ab_fetch ab_c39 18 = some (.invokevirtual 170, 3, 36, 2) := rfl
theorem k39_21 : ab_fetch ab_c39 21 = some (.iconst (-1), 1, 0, 0) := rfl
theorem k39_22 : ab_fetch ab_c39 22 = some (.if_icmp .eq 17, 3, 39, 0) := rfl
theorem k39_25 : ab_fetch ab_c39 25 = some (.iload_n 3, 1, 0, 0) := rfl
theorem k39_26 : ab_fetch ab_c39 26 = some (.aload_n 0, 1, 0, 0) := rfl
theorem k39_27 : ab_fetch ab_c39 27 = some (.iload_n 3, 1, 0, 0) := rfl
theorem k39_28 : ab_fetch ab_c39 28 = some (.invokevirtual 173, 3, 38, 1) := rfl
theorem k39_31 : ab_fetch ab_c39 31 = some (.iadd, 1, 0, 0) := rfl
theorem k39_32 : ab_fetch ab_c39 32 = some (.istore_n 3, 1, 0, 0) := rfl
theorem k39_33 : ab_fetch ab_c39 33 = some (.iinc 2 1, 3, 0, 0) := rfl
theorem k39_36 : ab_fetch ab_c39 36 = some (.goto (-30), 3, 6, 0) := rfl
theorem k39_39 : ab_fetch ab_c39 39 = some (.aload_n 0, 1, 0, 0) := rfl
theorem k39_40 : ab_fetch ab_c39 40 = some (.iconst 3, 1, 0, 0) := rfl
theorem k39_41 : ab_fetch ab_c39 41 = some (.iload_n 1, 1, 0, 0) := rfl
theorem k39_42 : ab_fetch ab_c39 42 = some (.iload_n 2, 1, 0, 0) := rfl
theorem k39_43 : ab_fetch ab_c39 43 = some (.invokevirtual 132, 3, 30, 3) := rfl
theorem k39_46 : ab_fetch ab_c39 46 = some (.aload_n 0, 1, 0, 0) := rfl
theorem k39_47 : ab_fetch ab_c39 47 = some (.iload_n 3, 1, 0, 0) := rfl
theorem k39_48 : ab_fetch ab_c39 48 = some (.invokevirtual 100, 3, 25, 1) := rfl
theorem k39_51 : ab_fetch ab_c39 51 = some (.bipush 34, 2, 0, 0) := rfl
theorem k39_53 : ab_fetch ab_c39 53 = some (.if_icmp .eq 16, 3, 69, 0) := rfl
theorem k39_56 : ab_fetch ab_c39 56 = some (.aload_n 0, 1, 0, 0) := rfl
theorem k39_57 : ab_fetch ab_c39 57 = some (.iload_n 3, 1, 0, 0) := rfl
theorem k39_58 : ab_fetch ab_c39 58 = some (.aload_n 0, 1, 0, 0) := rfl
theorem k39_59 : ab_fetch ab_c39 59 = some (.iload_n 3, 1, 0, 0) := rfl
theorem k39_60 : ab_fetch ab_c39 60 = some (.invokevirtual 173, 3, 38, 1) := rfl
theorem k39_63 : ab_fetch ab_c39 63 = some (.iadd, 1, 0, 0) := rfl
theorem k39_64 : ab_fetch ab_c39 64 = some (.iconst 1, 1, 0, 0) := rfl
theorem k39_65 : ab_fetch ab_c39 65 = some (.isub, 1, 0, 0) := rfl
theorem k39_66 : ab_fetch ab_c39 66 = some (.invokevirtual 161, 3, 31, 1) := rfl
theorem k39_69 : ab_fetch ab_c39 69 = some (.iload_n 3, 1, 0, 0) := rfl
theorem k39_70 : ab_fetch ab_c39 70 = some (.iconst 1, 1, 0, 0) := rfl
theorem k39_71 : ab_fetch ab_c39 71 = some (.iadd, 1, 0, 0) := rfl
theorem k39_72 : ab_fetch ab_c39 72 = some (.ireturn, 1, 0, 0) := rfl
/- CodeSmith$Tokens splitString(I)I -/
def f39_69 (s : cS) (x3 : Int32) : Option (Int32 × cS) := some ((x3 + (1 : Int32)), s)
theorem t39_69 {d : Nat} {Z : Nat → ab_C} : ∀ (s : cS) (l : ab_L) (x3 : Int32) (h3 : ab_get l 3 = some (.int x3)) (r : Int32 × cS) (e : f39_69 s x3 = some r), ab_Rn (d + 2) 39 69 l [] (ch s Z) (.inl (some (.int r.1))) (ch r.2 Z) := by
  intro s l x3 h3 r e
  unfold f39_69 at e
  refine r_iload_n (pc := 69) p39 k39_69 h3 ?_
  refine r_iconst (pc := 70) p39 k39_70 (v := (1 : Int32)) rfl ?_
  refine r_iadd (pc := 71) p39 k39_71 ?_
  obtain rfl := Option.some.inj e
  exact r_retI (pc := 72) p39 k39_72 rfl
def f39_39 (s : cS) (x1 : Int32) (x2 : Int32) (x3 : Int32) : Option (Int32 × cS) := ((f30 s (3 : Int32) x1 x2).bind fun r1 => ((f25 r1 x3).bind fun r2 => (if r2 = (34 : Int32) then f39_69 r1 x3 else ((f38 r1 x3).bind fun r3 => f39_69 (f31 r1 ((x3 + r3) - (1 : Int32))) x3))))
theorem t39_39 {d : Nat} {Z : Nat → ab_C} : ∀ (s : cS) (l : ab_L) (x1 : Int32) (x2 : Int32) (x3 : Int32) (h0 : ab_get l 0 = some (.ref 11)) (h1 : ab_get l 1 = some (.int x1)) (h2 : ab_get l 2 = some (.int x2)) (h3 : ab_get l 3 = some (.int x3)) (r : Int32 × cS) (e : f39_39 s x1 x2 x3 = some r), ab_Rn (d + 2) 39 39 l [] (ch s Z) (.inl (some (.int r.1))) (ch r.2 Z) := by
  intro s l x1 x2 x3 h0 h1 h2 h3 r e
  unfold f39_39 at e
  refine r_aload_n (pc := 39) p39 k39_39 h0 ?_
  refine r_iconst (pc := 40) p39 k39_40 (v := (3 : Int32)) rfl ?_
  refine r_iload_n (pc := 41) p39 k39_41 h1 ?_
  refine r_iload_n (pc := 42) p39 k39_42 h2 ?_
  obtain ⟨r1, er1, e⟩ := of_bind e
  refine c_cv (i := 11) rfl (pc := 43) p39 k39_43 rfl p30 (r := []) rfl rfl rfl rfl rfl rfl (t30 s (3 : Int32) x1 x2 r1 er1) (w := []) rfl ?_
  refine r_aload_n (pc := 46) p39 k39_46 h0 ?_
  refine r_iload_n (pc := 47) p39 k39_47 h3 ?_
  obtain ⟨r2, er2, e⟩ := of_bind e
  refine c_cv (i := 11) rfl (pc := 48) p39 k39_48 rfl p25 (r := []) rfl rfl rfl rfl rfl rfl (t25 r1 x3 r2 er2) (w := [.int r2]) rfl ?_
  refine r_bipush (pc := 51) p39 k39_51 (v := (34 : Int32)) rfl ?_
  refine r_ic_eq (pc := 53) p39 k39_53 (fun c => ?_) (fun c => ?_)
  · have e := (if_pos c).symm.trans e
    exact t39_69 r1 l x3 h3 r e
  · have e := (if_neg c).symm.trans e
    refine r_aload_n (pc := 56) p39 k39_56 h0 ?_
    refine r_iload_n (pc := 57) p39 k39_57 h3 ?_
    refine r_aload_n (pc := 58) p39 k39_58 h0 ?_
    refine r_iload_n (pc := 59) p39 k39_59 h3 ?_
    obtain ⟨r3, er3, e⟩ := of_bind e
    refine c_cv (i := 11) rfl (pc := 60) p39 k39_60 rfl p38 (r := [.int x3, .ref 11]) rfl rfl rfl rfl rfl rfl (t38 r1 x3 r3 er3) (w := [.int r3, .int x3, .ref 11]) rfl ?_
    refine r_iadd (pc := 63) p39 k39_63 ?_
    refine r_iconst (pc := 64) p39 k39_64 (v := (1 : Int32)) rfl ?_
    refine r_isub (pc := 65) p39 k39_65 ?_
    refine c_cv (i := 11) rfl (pc := 66) p39 k39_66 rfl p31 (r := []) rfl rfl rfl rfl rfl rfl (t31 r1 ((x3 + r3) - (1 : Int32)) _ rfl) (w := []) rfl ?_
    exact t39_69 (f31 r1 ((x3 + r3) - (1 : Int32))) l x3 h3 r e
def f39_6 : Nat → cS → Int32 → Int32 → Int32 → Option (Int32 × cS)
  | 0, _, _, _, _ => none
  | u + 1, s, x1, x2, x3 => (if (s.1 11 10) ≤ x3 then f39_39 s x1 x2 x3 else ((f36 s x3 (34 : Int32)).bind fun r1 => (if r1 = (-1 : Int32) then f39_39 s x1 x2 x3 else ((f38 s x3).bind fun r2 => f39_6 u s x1 (x2 + (1 : Int32)) (x3 + r2)))))
theorem t39_6 {d : Nat} {Z : Nat → ab_C} : ∀ u : Nat, ∀ (s : cS) (l : ab_L) (x1 : Int32) (x2 : Int32) (x3 : Int32) (h0 : ab_get l 0 = some (.ref 11)) (h1 : ab_get l 1 = some (.int x1)) (h2 : ab_get l 2 = some (.int x2)) (h3 : ab_get l 3 = some (.int x3)) (r : Int32 × cS) (e : f39_6 u s x1 x2 x3 = some r), ab_Rn (d + 2) 39 6 l [] (ch s Z) (.inl (some (.int r.1))) (ch r.2 Z) := by
  intro u
  induction u with
  | zero => intro s l x1 x2 x3 h0 h1 h2 h3 r e; rw [f39_6] at e; cases e
  | succ u ih =>
    intro s l x1 x2 x3 h0 h1 h2 h3 r e
    rw [f39_6] at e
    refine r_iload_n (pc := 6) p39 k39_6 h3 ?_
    refine r_aload_n (pc := 7) p39 k39_7 h0 ?_
    refine c_get (i := 11) rfl (pc := 8) p39 k39_8 rfl rfl (v := .int (s.1 11 10)) rfl ?_
    refine r_ic_ge (pc := 11) p39 k39_11 (fun c => ?_) (fun c => ?_)
    · have e := (if_pos c).symm.trans e
      exact t39_39 s l x1 x2 x3 h0 h1 h2 h3 r e
    · have e := (if_neg c).symm.trans e
      refine r_aload_n (pc := 14) p39 k39_14 h0 ?_
      refine r_iload_n (pc := 15) p39 k39_15 h3 ?_
      refine r_bipush (pc := 16) p39 k39_16 (v := (34 : Int32)) rfl ?_
      obtain ⟨r1, er1, e⟩ := of_bind e
      refine c_cv (i := 11) rfl (pc := 18) p39 k39_18 rfl p36 (r := []) rfl rfl rfl rfl rfl rfl (t36 s x3 (34 : Int32) r1 er1) (w := [.int r1]) rfl ?_
      refine r_iconst (pc := 21) p39 k39_21 (v := (-1 : Int32)) rfl ?_
      refine r_ic_eq (pc := 22) p39 k39_22 (fun c => ?_) (fun c => ?_)
      · have e := (if_pos c).symm.trans e
        exact t39_39 s l x1 x2 x3 h0 h1 h2 h3 r e
      · have e := (if_neg c).symm.trans e
        refine r_iload_n (pc := 25) p39 k39_25 h3 ?_
        refine r_aload_n (pc := 26) p39 k39_26 h0 ?_
        refine r_iload_n (pc := 27) p39 k39_27 h3 ?_
        obtain ⟨r2, er2, e⟩ := of_bind e
        refine c_cv (i := 11) rfl (pc := 28) p39 k39_28 rfl p38 (r := [.int x3]) rfl rfl rfl rfl rfl rfl (t38 s x3 r2 er2) (w := [.int r2, .int x3]) rfl ?_
        refine r_iadd (pc := 31) p39 k39_31 ?_
        refine r_istore_n (pc := 32) p39 k39_32 (by decide) (fun l g h3 => ?_)
        have h0 := g 0 _ (by decide) h0 (Or.inl rfl)
        have h1 := g 1 _ (by decide) h1 (Or.inl rfl)
        have h2 := g 2 _ (by decide) h2 (Or.inl rfl)
        refine r_iinc (pc := 33) p39 k39_33 h2 (by decide) (v := (x2 + (1 : Int32))) rfl (fun l g h2 => ?_)
        have h0 := g 0 _ (by decide) h0 (Or.inl rfl)
        have h1 := g 1 _ (by decide) h1 (Or.inl rfl)
        have h3 := g 3 _ (by decide) h3 (Or.inl rfl)
        refine r_goto (pc := 36) p39 k39_36 ?_
        exact ih s l x1 (x2 + (1 : Int32)) (x3 + r2) h0 h1 h2 h3 r e
def f39 (s : cS) (x1 : Int32) : Option (Int32 × cS) := f39_6 mm_U s x1 (0 : Int32) (x1 + (1 : Int32))
theorem t39 {d : Nat} {Z : Nat → ab_C} (s : cS) (x1 : Int32) (r : Int32 × cS) (e : f39 s x1 = some r) : ab_Rn (d + 2) 39 0 (lv_args 0 [.ref 11, .int x1]) [] (ch s Z) (.inl (some (.int r.1))) (ch r.2 Z) := by
  unfold f39 at e
  obtain ⟨l, hl⟩ : ∃ l, l = (lv_args 0 [.ref 11, .int x1]) := ⟨_, rfl⟩
  rw [← hl]
  have h0 : ab_get l 0 = some (.ref 11) := by rw [hl]; rfl
  have h1 : ab_get l 1 = some (.int x1) := by rw [hl]; rfl
  refine r_iconst (pc := 0) p39 k39_0 (v := (0 : Int32)) rfl ?_
  refine r_istore_n (pc := 1) p39 k39_1 (by decide) (fun l g h2 => ?_)
  have h0 := g 0 _ (by decide) h0 (Or.inl rfl)
  have h1 := g 1 _ (by decide) h1 (Or.inl rfl)
  refine r_iload_n (pc := 2) p39 k39_2 h1 ?_
  refine r_iconst (pc := 3) p39 k39_3 (v := (1 : Int32)) rfl ?_
  refine r_iadd (pc := 4) p39 k39_4 ?_
  refine r_istore_n (pc := 5) p39 k39_5 (by decide) (fun l g h3 => ?_)
  have h0 := g 0 _ (by decide) h0 (Or.inl rfl)
  have h1 := g 1 _ (by decide) h1 (Or.inl rfl)
  have h2 := g 2 _ (by decide) h2 (Or.inl rfl)
  exact t39_6 mm_U s l x1 (0 : Int32) (x1 + (1 : Int32)) h0 h1 h2 h3 r e

theorem p40 : ab_prog[40]? = some (ab_m40, ab_c40) := rfl
theorem k40_0 : ab_fetch ab_c40 0 = some (.iload_n 0, 1, 0, 0) := rfl
theorem k40_1 : ab_fetch ab_c40 1 = some (.lookupswitch 125 #[(37, 123), (38, 123), (40, 123), (41, 123), (42, 123), (43, 123), (44, 123), (45, 123), (46, 123), (47, 123), (58, 123), (94, 123), (124, 123), (126, 123)], 123, 0, 0) := rfl
theorem k40_124 : ab_fetch ab_c40 124 = some (.iconst 1, 1, 0, 0) := rfl
theorem k40_125 : ab_fetch ab_c40 125 = some (.ireturn, 1, 0, 0) := rfl
theorem k40_126 : ab_fetch ab_c40 126 = some (.iconst 0, 1, 0, 0) := rfl
theorem k40_127 : ab_fetch ab_c40 127 = some (.ireturn, 1, 0, 0) := rfl
/- CodeSmith$Tokens isSign(I)Z -/
def f40 (x0 : Int32) : Int32 := (if x0 = 37 then (1 : Int32) else if x0 = 38 then (1 : Int32) else if x0 = 40 then (1 : Int32) else if x0 = 41 then (1 : Int32) else if x0 = 42 then (1 : Int32) else if x0 = 43 then (1 : Int32) else if x0 = 44 then (1 : Int32) else if x0 = 45 then (1 : Int32) else if x0 = 46 then (1 : Int32) else if x0 = 47 then (1 : Int32) else if x0 = 58 then (1 : Int32) else if x0 = 94 then (1 : Int32) else if x0 = 124 then (1 : Int32) else if x0 = 126 then (1 : Int32) else (0 : Int32))
theorem t40 {d : Nat} {h : ab_H} (x0 : Int32) (r : Int32) (e : f40 x0 = r) : ab_Rn d 40 0 (lv_args 0 [.int x0]) [] h (.inl (some (.int r))) h := by
  unfold f40 at e
  obtain ⟨l, hl⟩ : ∃ l, l = (lv_args 0 [.int x0]) := ⟨_, rfl⟩
  rw [← hl]
  have h0 : ab_get l 0 = some (.int x0) := by rw [hl]; rfl
  refine r_iload_n (pc := 0) p40 k40_0 h0 ?_
  by_cases c0 : x0 = 37
  · have e := (if_pos c0).symm.trans e
    refine r_sw (t := 124) (st' := []) (pc := 1) p40 k40_1 rfl rfl rfl (by rw [c0]; rfl) ?_
    refine r_iconst (pc := 124) p40 k40_124 (v := (1 : Int32)) rfl ?_
    subst e
    exact r_retZ (pc := 125) p40 k40_125 rfl (Or.inr rfl)
  have e := (if_neg c0).symm.trans e
  by_cases c1 : x0 = 38
  · have e := (if_pos c1).symm.trans e
    refine r_sw (t := 124) (st' := []) (pc := 1) p40 k40_1 rfl rfl rfl (by rw [c1]; rfl) ?_
    refine r_iconst (pc := 124) p40 k40_124 (v := (1 : Int32)) rfl ?_
    subst e
    exact r_retZ (pc := 125) p40 k40_125 rfl (Or.inr rfl)
  have e := (if_neg c1).symm.trans e
  by_cases c2 : x0 = 40
  · have e := (if_pos c2).symm.trans e
    refine r_sw (t := 124) (st' := []) (pc := 1) p40 k40_1 rfl rfl rfl (by rw [c2]; rfl) ?_
    refine r_iconst (pc := 124) p40 k40_124 (v := (1 : Int32)) rfl ?_
    subst e
    exact r_retZ (pc := 125) p40 k40_125 rfl (Or.inr rfl)
  have e := (if_neg c2).symm.trans e
  by_cases c3 : x0 = 41
  · have e := (if_pos c3).symm.trans e
    refine r_sw (t := 124) (st' := []) (pc := 1) p40 k40_1 rfl rfl rfl (by rw [c3]; rfl) ?_
    refine r_iconst (pc := 124) p40 k40_124 (v := (1 : Int32)) rfl ?_
    subst e
    exact r_retZ (pc := 125) p40 k40_125 rfl (Or.inr rfl)
  have e := (if_neg c3).symm.trans e
  by_cases c4 : x0 = 42
  · have e := (if_pos c4).symm.trans e
    refine r_sw (t := 124) (st' := []) (pc := 1) p40 k40_1 rfl rfl rfl (by rw [c4]; rfl) ?_
    refine r_iconst (pc := 124) p40 k40_124 (v := (1 : Int32)) rfl ?_
    subst e
    exact r_retZ (pc := 125) p40 k40_125 rfl (Or.inr rfl)
  have e := (if_neg c4).symm.trans e
  by_cases c5 : x0 = 43
  · have e := (if_pos c5).symm.trans e
    refine r_sw (t := 124) (st' := []) (pc := 1) p40 k40_1 rfl rfl rfl (by rw [c5]; rfl) ?_
    refine r_iconst (pc := 124) p40 k40_124 (v := (1 : Int32)) rfl ?_
    subst e
    exact r_retZ (pc := 125) p40 k40_125 rfl (Or.inr rfl)
  have e := (if_neg c5).symm.trans e
  by_cases c6 : x0 = 44
  · have e := (if_pos c6).symm.trans e
    refine r_sw (t := 124) (st' := []) (pc := 1) p40 k40_1 rfl rfl rfl (by rw [c6]; rfl) ?_
    refine r_iconst (pc := 124) p40 k40_124 (v := (1 : Int32)) rfl ?_
    subst e
    exact r_retZ (pc := 125) p40 k40_125 rfl (Or.inr rfl)
  have e := (if_neg c6).symm.trans e
  by_cases c7 : x0 = 45
  · have e := (if_pos c7).symm.trans e
    refine r_sw (t := 124) (st' := []) (pc := 1) p40 k40_1 rfl rfl rfl (by rw [c7]; rfl) ?_
    refine r_iconst (pc := 124) p40 k40_124 (v := (1 : Int32)) rfl ?_
    subst e
    exact r_retZ (pc := 125) p40 k40_125 rfl (Or.inr rfl)
  have e := (if_neg c7).symm.trans e
  by_cases c8 : x0 = 46
  · have e := (if_pos c8).symm.trans e
    refine r_sw (t := 124) (st' := []) (pc := 1) p40 k40_1 rfl rfl rfl (by rw [c8]; rfl) ?_
    refine r_iconst (pc := 124) p40 k40_124 (v := (1 : Int32)) rfl ?_
    subst e
    exact r_retZ (pc := 125) p40 k40_125 rfl (Or.inr rfl)
  have e := (if_neg c8).symm.trans e
  by_cases c9 : x0 = 47
  · have e := (if_pos c9).symm.trans e
    refine r_sw (t := 124) (st' := []) (pc := 1) p40 k40_1 rfl rfl rfl (by rw [c9]; rfl) ?_
    refine r_iconst (pc := 124) p40 k40_124 (v := (1 : Int32)) rfl ?_
    subst e
    exact r_retZ (pc := 125) p40 k40_125 rfl (Or.inr rfl)
  have e := (if_neg c9).symm.trans e
  by_cases c10 : x0 = 58
  · have e := (if_pos c10).symm.trans e
    refine r_sw (t := 124) (st' := []) (pc := 1) p40 k40_1 rfl rfl rfl (by rw [c10]; rfl) ?_
    refine r_iconst (pc := 124) p40 k40_124 (v := (1 : Int32)) rfl ?_
    subst e
    exact r_retZ (pc := 125) p40 k40_125 rfl (Or.inr rfl)
  have e := (if_neg c10).symm.trans e
  by_cases c11 : x0 = 94
  · have e := (if_pos c11).symm.trans e
    refine r_sw (t := 124) (st' := []) (pc := 1) p40 k40_1 rfl rfl rfl (by rw [c11]; rfl) ?_
    refine r_iconst (pc := 124) p40 k40_124 (v := (1 : Int32)) rfl ?_
    subst e
    exact r_retZ (pc := 125) p40 k40_125 rfl (Or.inr rfl)
  have e := (if_neg c11).symm.trans e
  by_cases c12 : x0 = 124
  · have e := (if_pos c12).symm.trans e
    refine r_sw (t := 124) (st' := []) (pc := 1) p40 k40_1 rfl rfl rfl (by rw [c12]; rfl) ?_
    refine r_iconst (pc := 124) p40 k40_124 (v := (1 : Int32)) rfl ?_
    subst e
    exact r_retZ (pc := 125) p40 k40_125 rfl (Or.inr rfl)
  have e := (if_neg c12).symm.trans e
  by_cases c13 : x0 = 126
  · have e := (if_pos c13).symm.trans e
    refine r_sw (t := 124) (st' := []) (pc := 1) p40 k40_1 rfl rfl rfl (by rw [c13]; rfl) ?_
    refine r_iconst (pc := 124) p40 k40_124 (v := (1 : Int32)) rfl ?_
    subst e
    exact r_retZ (pc := 125) p40 k40_125 rfl (Or.inr rfl)
  have e := (if_neg c13).symm.trans e
  refine r_lswd (T := 126) (pc := 1) p40 k40_1 (by decide) (by decide) (by decide) (by
      intro q hq
      simp only [List.mem_cons, List.not_mem_nil, or_false] at hq
      rcases hq with rfl | rfl | rfl | rfl | rfl | rfl | rfl | rfl | rfl | rfl | rfl | rfl | rfl | rfl
      · exact fun hh => c0 (Int32.toInt_inj.mp hh.symm)
      · exact fun hh => c1 (Int32.toInt_inj.mp hh.symm)
      · exact fun hh => c2 (Int32.toInt_inj.mp hh.symm)
      · exact fun hh => c3 (Int32.toInt_inj.mp hh.symm)
      · exact fun hh => c4 (Int32.toInt_inj.mp hh.symm)
      · exact fun hh => c5 (Int32.toInt_inj.mp hh.symm)
      · exact fun hh => c6 (Int32.toInt_inj.mp hh.symm)
      · exact fun hh => c7 (Int32.toInt_inj.mp hh.symm)
      · exact fun hh => c8 (Int32.toInt_inj.mp hh.symm)
      · exact fun hh => c9 (Int32.toInt_inj.mp hh.symm)
      · exact fun hh => c10 (Int32.toInt_inj.mp hh.symm)
      · exact fun hh => c11 (Int32.toInt_inj.mp hh.symm)
      · exact fun hh => c12 (Int32.toInt_inj.mp hh.symm)
      · exact fun hh => c13 (Int32.toInt_inj.mp hh.symm)) ?_
  refine r_iconst (pc := 126) p40 k40_126 (v := (0 : Int32)) rfl ?_
  subst e
  exact r_retZ (pc := 127) p40 k40_127 rfl (Or.inl rfl)

theorem p26 : ab_prog[26]? = some (ab_m26, ab_c26) := rfl
theorem k26_0 : ab_fetch ab_c26 0 = some (.iload_n 2, 1, 0, 0) := rfl
theorem k26_1 : ab_fetch ab_c26 1 = some (.invokestatic 139, 3, 27, 1) := rfl
theorem k26_4 : ab_fetch ab_c26 4 = some (.ifCond .eq 35, 3, 39, 0) := rfl
theorem k26_7 : ab_fetch ab_c26 7 = some (.iload_n 2, 1, 0, 0) := rfl
theorem k26_8 : ab_fetch ab_c26 8 = some (.invokestatic 143, 3, 28, 1) := rfl
theorem k26_11 : ab_fetch ab_c26 11 = some (.ifCond .ne 28, 3, 39, 0) := rfl
theorem k26_14 : ab_fetch ab_c26 14 = some (.iload_n 2, 1, 0, 0) := rfl
theorem k26_15 : ab_fetch ab_c26 15 = some (.bipush 46, 2, 0, 0) := rfl
theorem k26_17 : ab_fetch ab_c26 17 = some (.if_icmp .ne 16, 3, 33, 0) := rfl
theorem k26_20 : ab_fetch ab_c26 20 = some (.aload_n 0, 1, 0, 0) := rfl
theorem k26_21 : ab_fetch ab_c26 21 = some (.iload_n 1, 1, 0, 0) := rfl
theorem k26_22 : ab_fetch ab_c26 22 = some (.iconst 1, 1, 0, 0) := rfl
theorem k26_23 : ab_fetch ab_c26 23 = some (.iadd, 1, 0, 0) := rfl
theorem k26_24 : ab_fetch ab_c26 24 = some (.invokevirtual 100, 3, 25, 1) := rfl
theorem k26_27 : ab_fetch ab_c26 27 = some (.invokestatic 139, 3, 27, 1) := rfl
theorem k26_30 : ab_fetch ab_c26 30 = some (.ifCond .eq 9, 3, 39, 0) := rfl
theorem k26_33 : ab_fetch ab_c26 33 = some (.aload_n 0, 1, 0, 0) := rfl
theorem k26_34 : ab_fetch ab_c26 34 = some (.iload_n 1, 1, 0, 0) := rfl
theorem k26_35 : ab_fetch ab_c26 35 = some (.invokevirtual 146, 3, 29, 1) := rfl
theorem k26_38 : ab_fetch ab_c26 38 = some (.ireturn, 1, 0, 0) := rfl
theorem k26_39 : ab_fetch ab_c26 39 = some (.iload_n 2, 1, 0, 0) := rfl
theorem k26_40 : ab_fetch ab_c26 40 = some (.invokestatic 143, 3, 28, 1) := rfl
theorem k26_43 : ab_fetch ab_c26 43 = some (.ifCond .eq 35, 3, 78, 0) := rfl
theorem k26_46 : ab_fetch ab_c26 46 = some (.iload_n 2, 1, 0, 0) := rfl
theorem k26_47 : ab_fetch ab_c26 47 = some (.bipush 48, 2, 0, 0) := rfl
theorem k26_49 : ab_fetch ab_c26 49 = some (.if_icmp .ne 23, 3, 72, 0) := rfl
theorem k26_52 : ab_fetch ab_c26 52 = some (.aload_n 0, 1, 0, 0) := rfl
theorem k26_53 : ab_fetch ab_c26 53 = some (.iload_n 1, 1, 0, 0) := rfl
theorem k26_54 : ab_fetch ab_c26 54 = some (.iconst 1, 1, 0, 0) := rfl
theorem k26_55 : ab_fetch ab_c26 55 = some (.iadd, 1, 0, 0) := rfl
theorem k26_56 : ab_fetch ab_c26 56 = some (.invokevirtual 100, 3, 25, 1) := rfl
theorem k26_59 : ab_fetch ab_c26 59 = some (.bipush 120, 2, 0, 0) := rfl
theorem k26_61 : ab_fetch ab_c26 61 = some (.if_icmp .ne 11, 3, 72, 0) := rfl
theorem k26_64 : ab_fetch ab_c26 64 = some (.aload_n 0, 1, 0, 0) := rfl
theorem k26_65 : ab_fetch ab_c26 65 = some (.iload_n 1, 1, 0, 0) := rfl
theorem k26_66 : ab_fetch ab_c26 66 = some (.invokevirtual 149, 3, 32, 1) := rfl
theorem k26_69 : ab_fetch ab_c26 69 = some (.goto 8, 3, 77, 0) := rfl
theorem k26_72 : ab_fetch ab_c26 72 = some (.aload_n 0, 1, 0, 0) := rfl
theorem k26_73 : ab_fetch ab_c26 73 = some (.iload_n 1, 1, 0, 0) := rfl
theorem k26_74 : ab_fetch ab_c26 74 = some (.invokevirtual 152, 3, 34, 1) := rfl
theorem k26_77 : ab_fetch ab_c26 77 = some (.ireturn, 1, 0, 0) := rfl
theorem k26_78 : ab_fetch ab_c26 78 = some (.iload_n 2, 1, 0, 0) := rfl
theorem k26_79 : ab_fetch ab_c26 79 = some (.bipush 39, 2, 0, 0) := rfl
theorem k26_81 : ab_fetch ab_c26 81 = some (.if_icmp .ne 9, 3, 90, 0) := rfl
theorem k26_84 : ab_fetch ab_c26 84 = some (.aload_n 0, 1, 0, 0) := rfl
theorem k26_85 : ab_fetch ab_c26 85 = some (.iload_n 1, 1, 0, 0) := rfl
theorem k26_86 : ab_fetch ab_c26 86 = some (.invokevirtual 155, 3, 35, 1) := rfl
theorem k26_89 : ab_fetch ab_c26 89 = some (.ireturn, 1, 0, 0) := rfl
theorem k26_90 : ab_fetch ab_c26 90 = some (.iload_n 2, 1, 0, 0) := rfl
theorem k26_91 : ab_fetch ab_c26 91 = some (.bipush 34, 2, 0, 0) := rfl
theorem k26_93 : ab_fetch ab_c26 93 = some (.if_icmp .ne 9, 3, 102, 0) := rfl
theorem k26_96 : ab_fetch ab_c26 96 = some (.aload_n 0, 1, 0, 0) := rfl
theorem k26_97 : ab_fetch ab_c26 97 = some (.iload_n 1, 1, 0, 0) := rfl
theorem k26_98 : ab_fetch ab_c26 98 = some (.invokevirtual 158, 3, 39, 1) := rfl
theorem k26_101 : ab_fetch ab_c26 101 = some (.ireturn, 1, 0, 0) := rfl
theorem k26_102 : ab_fetch ab_c26 102 = some (.iload_n 2, 1, 0, 0) := rfl
theorem k26_103 : ab_fetch ab_c26 103 = some (.bipush 60, 2, 0, 0) := rfl
theorem k26_105 : ab_fetch ab_c26 105 = some (.if_icmp .eq 9, 3, 114, 0) := rfl
theorem k26_108 : ab_fetch ab_c26 108 = some (.iload_n 2, 1, 0, 0) := rfl
theorem k26_109 : ab_fetch ab_c26 109 = some (.bipush 62, 2, 0, 0) := rfl
theorem k26_111 : ab_fetch ab_c26 111 = some (.if_icmp .ne 32, 3, 143, 0) := rfl
theorem k26_114 : ab_fetch ab_c26 114 = some (.aload_n 0, 1, 0, 0) := rfl
theorem k26_115 : ab_fetch ab_c26 115 = some (.iload_n 2, 1, 0, 0) := rfl
theorem k26_116 : ab_fetch ab_c26 116 = some (.iload_n 1, 1, 0, 0) := rfl
theorem k26_117 : ab_fetch ab_c26 117 = some (.iconst 0, 1, 0, 0) := rfl
theorem k26_118 : ab_fetch ab_c26 118 = some (.invokevirtual 132, 3, 30, 3) := rfl
theorem k26_121 : ab_fetch ab_c26 121 = some (.aload_n 0, 1, 0, 0) := rfl
theorem k26_122 : ab_fetch ab_c26 122 = some (.iload_n 1, 1, 0, 0) := rfl
theorem k26_123 : ab_fetch ab_c26 123 = some (.iconst 1, 1, 0, 0) := rfl
theorem k26_124 : ab_fetch ab_c26 124 = some (.iadd, 1, 0, 0) := rfl
theorem k26_125 : ab_fetch ab_c26 125 = some (.invokevirtual 100, 3, 25, 1) := rfl
theorem k26_128 : ab_fetch ab_c26 128 = some (.iload_n 2, 1, 0, 0) := rfl
theorem k26_129 : ab_fetch ab_c26 129 = some (.if_icmp .eq 10, 3, 139, 0) := rfl
theorem k26_132 : ab_fetch ab_c26 132 = some (.aload_n 0, 1, 0, 0) := rfl
theorem k26_133 : ab_fetch ab_c26 133 = some (.iload_n 1, 1, 0, 0) := rfl
theorem k26_134 : ab_fetch ab_c26 134 = some (.iconst 1, 1, 0, 0) := rfl
theorem k26_135 : ab_fetch ab_c26 135 = some (.iadd, 1, 0, 0) := rfl
theorem k26_136 : ab_fetch ab_c26 136 = some (.invokevirtual 161, 3, 31, 1) := rfl
theorem k26_139 : ab_fetch ab_c26 139 = some (.iload_n 1, 1, 0, 0) := rfl
theorem k26_140 : ab_fetch ab_c26 140 = some (.iconst 2, 1, 0, 0) := rfl
theorem k26_141 : ab_fetch ab_c26 141 = some (.iadd, 1, 0, 0) := rfl
theorem k26_142 : ab_fetch ab_c26 142 = some (.ireturn, 1, 0, 0) := rfl
theorem k26_143 : ab_fetch ab_c26 143 = some (.aload_n 0, 1, 0, 0) := rfl
theorem k26_144 : ab_fetch ab_c26 144 = some (.iload_n 2, 1, 0, 0) := rfl
theorem k26_145 : ab_fetch ab_c26 145 = some (.invokestatic 164, 3, 40, 1) := rfl
theorem k26_148 : ab_fetch ab_c26 148 = some (.ifCond .eq 7, 3, 155, 0) := rfl
theorem k26_151 : ab_fetch ab_c26 151 = some (.iload_n 2, 1, 0, 0) := rfl
theorem k26_152 : ab_fetch ab_c26 152 = some (.goto 4, 3, 156, 0) := rfl
theorem k26_155 : ab_fetch ab_c26 155 = some (.iconst 4, 1, 0, 0) := rfl
theorem k26_156 : ab_fetch ab_c26 156 = some (.iload_n 1, 1, 0, 0) := rfl
theorem k26_157 : ab_fetch ab_c26 157 = some (.iconst 0, 1, 0, 0) := rfl
theorem k26_158 : ab_fetch ab_c26 158 = some (.invokevirtual 132, 3, 30, 3) := rfl
theorem k26_161 : ab_fetch ab_c26 161 = some (.iload_n 1, 1, 0, 0) := rfl
theorem k26_162 : ab_fetch ab_c26 162 = some (.iconst 1, 1, 0, 0) := rfl
theorem k26_163 : ab_fetch ab_c26 163 = some (.iadd, 1, 0, 0) := rfl
theorem k26_164 : ab_fetch ab_c26 164 = some (.ireturn, 1, 0, 0) := rfl
/- CodeSmith$Tokens splitToken(II)I -/
def f26_139 (s : cS) (x1 : Int32) : Option (Int32 × cS) := some ((x1 + (2 : Int32)), s)
theorem t26_139 {d : Nat} {Z : Nat → ab_C} : ∀ (s : cS) (l : ab_L) (x1 : Int32) (h1 : ab_get l 1 = some (.int x1)) (r : Int32 × cS) (e : f26_139 s x1 = some r), ab_Rn (d + 3) 26 139 l [] (ch s Z) (.inl (some (.int r.1))) (ch r.2 Z) := by
  intro s l x1 h1 r e
  unfold f26_139 at e
  refine r_iload_n (pc := 139) p26 k26_139 h1 ?_
  refine r_iconst (pc := 140) p26 k26_140 (v := (2 : Int32)) rfl ?_
  refine r_iadd (pc := 141) p26 k26_141 ?_
  obtain rfl := Option.some.inj e
  exact r_retI (pc := 142) p26 k26_142 rfl
def f26_114 (s : cS) (x1 : Int32) (x2 : Int32) : Option (Int32 × cS) := ((f30 s x2 x1 (0 : Int32)).bind fun r1 => ((f25 r1 (x1 + (1 : Int32))).bind fun r2 => (if r2 = x2 then f26_139 r1 x1 else f26_139 (f31 r1 (x1 + (1 : Int32))) x1)))
theorem t26_114 {d : Nat} {Z : Nat → ab_C} : ∀ (s : cS) (l : ab_L) (x1 : Int32) (x2 : Int32) (h0 : ab_get l 0 = some (.ref 11)) (h1 : ab_get l 1 = some (.int x1)) (h2 : ab_get l 2 = some (.int x2)) (r : Int32 × cS) (e : f26_114 s x1 x2 = some r), ab_Rn (d + 3) 26 114 l [] (ch s Z) (.inl (some (.int r.1))) (ch r.2 Z) := by
  intro s l x1 x2 h0 h1 h2 r e
  unfold f26_114 at e
  refine r_aload_n (pc := 114) p26 k26_114 h0 ?_
  refine r_iload_n (pc := 115) p26 k26_115 h2 ?_
  refine r_iload_n (pc := 116) p26 k26_116 h1 ?_
  refine r_iconst (pc := 117) p26 k26_117 (v := (0 : Int32)) rfl ?_
  obtain ⟨r1, er1, e⟩ := of_bind e
  refine c_cv (i := 11) rfl (pc := 118) p26 k26_118 rfl p30 (r := []) rfl rfl rfl rfl rfl rfl (t30 s x2 x1 (0 : Int32) r1 er1) (w := []) rfl ?_
  refine r_aload_n (pc := 121) p26 k26_121 h0 ?_
  refine r_iload_n (pc := 122) p26 k26_122 h1 ?_
  refine r_iconst (pc := 123) p26 k26_123 (v := (1 : Int32)) rfl ?_
  refine r_iadd (pc := 124) p26 k26_124 ?_
  obtain ⟨r2, er2, e⟩ := of_bind e
  refine c_cv (i := 11) rfl (pc := 125) p26 k26_125 rfl p25 (r := []) rfl rfl rfl rfl rfl rfl (t25 r1 (x1 + (1 : Int32)) r2 er2) (w := [.int r2]) rfl ?_
  refine r_iload_n (pc := 128) p26 k26_128 h2 ?_
  refine r_ic_eq (pc := 129) p26 k26_129 (fun c => ?_) (fun c => ?_)
  · have e := (if_pos c).symm.trans e
    exact t26_139 r1 l x1 h1 r e
  · have e := (if_neg c).symm.trans e
    refine r_aload_n (pc := 132) p26 k26_132 h0 ?_
    refine r_iload_n (pc := 133) p26 k26_133 h1 ?_
    refine r_iconst (pc := 134) p26 k26_134 (v := (1 : Int32)) rfl ?_
    refine r_iadd (pc := 135) p26 k26_135 ?_
    refine c_cv (i := 11) rfl (pc := 136) p26 k26_136 rfl p31 (r := []) rfl rfl rfl rfl rfl rfl (t31 r1 (x1 + (1 : Int32)) _ rfl) (w := []) rfl ?_
    exact t26_139 (f31 r1 (x1 + (1 : Int32))) l x1 h1 r e
def f26_156 (s : cS) (x1 : Int32) (y0 : Int32) : Option (Int32 × cS) := ((f30 s y0 x1 (0 : Int32)).bind fun r1 => some ((x1 + (1 : Int32)), r1))
theorem t26_156 {d : Nat} {Z : Nat → ab_C} : ∀ (s : cS) (l : ab_L) (x1 : Int32) (y0 : Int32) (h1 : ab_get l 1 = some (.int x1)) (r : Int32 × cS) (e : f26_156 s x1 y0 = some r), ab_Rn (d + 3) 26 156 l [.int y0, .ref 11] (ch s Z) (.inl (some (.int r.1))) (ch r.2 Z) := by
  intro s l x1 y0 h1 r e
  unfold f26_156 at e
  refine r_iload_n (pc := 156) p26 k26_156 h1 ?_
  refine r_iconst (pc := 157) p26 k26_157 (v := (0 : Int32)) rfl ?_
  obtain ⟨r1, er1, e⟩ := of_bind e
  refine c_cv (i := 11) rfl (pc := 158) p26 k26_158 rfl p30 (r := []) rfl rfl rfl rfl rfl rfl (t30 s y0 x1 (0 : Int32) r1 er1) (w := []) rfl ?_
  refine r_iload_n (pc := 161) p26 k26_161 h1 ?_
  refine r_iconst (pc := 162) p26 k26_162 (v := (1 : Int32)) rfl ?_
  refine r_iadd (pc := 163) p26 k26_163 ?_
  obtain rfl := Option.some.inj e
  exact r_retI (pc := 164) p26 k26_164 rfl
def f26_72 (s : cS) (x1 : Int32) : Option (Int32 × cS) := ((f34 s x1).bind fun r1 => some (r1.1, r1.2))
theorem t26_72 {d : Nat} {Z : Nat → ab_C} : ∀ (s : cS) (l : ab_L) (x1 : Int32) (h0 : ab_get l 0 = some (.ref 11)) (h1 : ab_get l 1 = some (.int x1)) (r : Int32 × cS) (e : f26_72 s x1 = some r), ab_Rn (d + 3) 26 72 l [] (ch s Z) (.inl (some (.int r.1))) (ch r.2 Z) := by
  intro s l x1 h0 h1 r e
  unfold f26_72 at e
  refine r_aload_n (pc := 72) p26 k26_72 h0 ?_
  refine r_iload_n (pc := 73) p26 k26_73 h1 ?_
  obtain ⟨r1, er1, e⟩ := of_bind e
  refine c_cv (i := 11) rfl (pc := 74) p26 k26_74 rfl p34 (r := []) rfl rfl rfl rfl rfl rfl (t34 s x1 r1 er1) (w := [.int r1.1]) rfl ?_
  obtain rfl := Option.some.inj e
  exact r_retI (pc := 77) p26 k26_77 rfl
def f26_39 (s : cS) (x1 : Int32) (x2 : Int32) : Option (Int32 × cS) := (if (f28 x2) = 0 then (if x2 = (39 : Int32) then ((f35 s x1).bind fun r1 => some (r1.1, r1.2)) else (if x2 = (34 : Int32) then ((f39 s x1).bind fun r1 => some (r1.1, r1.2)) else (if x2 = (60 : Int32) then f26_114 s x1 x2 else (if x2 = (62 : Int32) then f26_114 s x1 x2 else (if (f40 x2) = 0 then f26_156 s x1 (4 : Int32) else f26_156 s x1 x2))))) else (if x2 = (48 : Int32) then ((f25 s (x1 + (1 : Int32))).bind fun r1 => (if r1 = (120 : Int32) then ((f32 s x1).bind fun r2 => some (r2.1, r2.2)) else f26_72 s x1)) else f26_72 s x1))
theorem t26_39 {d : Nat} {Z : Nat → ab_C} : ∀ (s : cS) (l : ab_L) (x1 : Int32) (x2 : Int32) (h0 : ab_get l 0 = some (.ref 11)) (h1 : ab_get l 1 = some (.int x1)) (h2 : ab_get l 2 = some (.int x2)) (r : Int32 × cS) (e : f26_39 s x1 x2 = some r), ab_Rn (d + 3) 26 39 l [] (ch s Z) (.inl (some (.int r.1))) (ch r.2 Z) := by
  intro s l x1 x2 h0 h1 h2 r e
  unfold f26_39 at e
  refine r_iload_n (pc := 39) p26 k26_39 h2 ?_
  refine r_csv (pc := 40) p26 k26_40 rfl rfl p28 (r := []) rfl rfl rfl rfl (t28 x2 _ rfl) (w := [.int (f28 x2)]) rfl ?_
  refine r_if_eq (pc := 43) p26 k26_43 (fun c => ?_) (fun c => ?_)
  · have e := (if_pos c).symm.trans e
    refine r_iload_n (pc := 78) p26 k26_78 h2 ?_
    refine r_bipush (pc := 79) p26 k26_79 (v := (39 : Int32)) rfl ?_
    refine r_ic_ne (pc := 81) p26 k26_81 (fun c => ?_) (fun c => ?_)
    · have e := (if_neg c).symm.trans e
      refine r_iload_n (pc := 90) p26 k26_90 h2 ?_
      refine r_bipush (pc := 91) p26 k26_91 (v := (34 : Int32)) rfl ?_
      refine r_ic_ne (pc := 93) p26 k26_93 (fun c => ?_) (fun c => ?_)
      · have e := (if_neg c).symm.trans e
        refine r_iload_n (pc := 102) p26 k26_102 h2 ?_
        refine r_bipush (pc := 103) p26 k26_103 (v := (60 : Int32)) rfl ?_
        refine r_ic_eq (pc := 105) p26 k26_105 (fun c => ?_) (fun c => ?_)
        · have e := (if_pos c).symm.trans e
          exact t26_114 s l x1 x2 h0 h1 h2 r e
        · have e := (if_neg c).symm.trans e
          refine r_iload_n (pc := 108) p26 k26_108 h2 ?_
          refine r_bipush (pc := 109) p26 k26_109 (v := (62 : Int32)) rfl ?_
          refine r_ic_ne (pc := 111) p26 k26_111 (fun c => ?_) (fun c => ?_)
          · have e := (if_neg c).symm.trans e
            refine r_aload_n (pc := 143) p26 k26_143 h0 ?_
            refine r_iload_n (pc := 144) p26 k26_144 h2 ?_
            refine r_csv (pc := 145) p26 k26_145 rfl rfl p40 (r := [.ref 11]) rfl rfl rfl rfl (t40 x2 _ rfl) (w := [.int (f40 x2), .ref 11]) rfl ?_
            refine r_if_eq (pc := 148) p26 k26_148 (fun c => ?_) (fun c => ?_)
            · have e := (if_pos c).symm.trans e
              refine r_iconst (pc := 155) p26 k26_155 (v := (4 : Int32)) rfl ?_
              exact t26_156 s l x1 (4 : Int32) h1 r e
            · have e := (if_neg c).symm.trans e
              refine r_iload_n (pc := 151) p26 k26_151 h2 ?_
              refine r_goto (pc := 152) p26 k26_152 ?_
              exact t26_156 s l x1 x2 h1 r e
          · have e := (if_pos c).symm.trans e
            exact t26_114 s l x1 x2 h0 h1 h2 r e
      · have e := (if_pos c).symm.trans e
        refine r_aload_n (pc := 96) p26 k26_96 h0 ?_
        refine r_iload_n (pc := 97) p26 k26_97 h1 ?_
        obtain ⟨r1, er1, e⟩ := of_bind e
        refine c_cv (i := 11) rfl (pc := 98) p26 k26_98 rfl p39 (r := []) rfl rfl rfl rfl rfl rfl (t39 s x1 r1 er1) (w := [.int r1.1]) rfl ?_
        obtain rfl := Option.some.inj e
        exact r_retI (pc := 101) p26 k26_101 rfl
    · have e := (if_pos c).symm.trans e
      refine r_aload_n (pc := 84) p26 k26_84 h0 ?_
      refine r_iload_n (pc := 85) p26 k26_85 h1 ?_
      obtain ⟨r1, er1, e⟩ := of_bind e
      refine c_cv (i := 11) rfl (pc := 86) p26 k26_86 rfl p35 (r := []) rfl rfl rfl rfl rfl rfl (t35 s x1 r1 er1) (w := [.int r1.1]) rfl ?_
      obtain rfl := Option.some.inj e
      exact r_retI (pc := 89) p26 k26_89 rfl
  · have e := (if_neg c).symm.trans e
    refine r_iload_n (pc := 46) p26 k26_46 h2 ?_
    refine r_bipush (pc := 47) p26 k26_47 (v := (48 : Int32)) rfl ?_
    refine r_ic_ne (pc := 49) p26 k26_49 (fun c => ?_) (fun c => ?_)
    · have e := (if_neg c).symm.trans e
      exact t26_72 s l x1 h0 h1 r e
    · have e := (if_pos c).symm.trans e
      refine r_aload_n (pc := 52) p26 k26_52 h0 ?_
      refine r_iload_n (pc := 53) p26 k26_53 h1 ?_
      refine r_iconst (pc := 54) p26 k26_54 (v := (1 : Int32)) rfl ?_
      refine r_iadd (pc := 55) p26 k26_55 ?_
      obtain ⟨r1, er1, e⟩ := of_bind e
      refine c_cv (i := 11) rfl (pc := 56) p26 k26_56 rfl p25 (r := []) rfl rfl rfl rfl rfl rfl (t25 s (x1 + (1 : Int32)) r1 er1) (w := [.int r1]) rfl ?_
      refine r_bipush (pc := 59) p26 k26_59 (v := (120 : Int32)) rfl ?_
      refine r_ic_ne (pc := 61) p26 k26_61 (fun c => ?_) (fun c => ?_)
      · have e := (if_neg c).symm.trans e
        exact t26_72 s l x1 h0 h1 r e
      · have e := (if_pos c).symm.trans e
        refine r_aload_n (pc := 64) p26 k26_64 h0 ?_
        refine r_iload_n (pc := 65) p26 k26_65 h1 ?_
        obtain ⟨r2, er2, e⟩ := of_bind e
        refine c_cv (i := 11) rfl (pc := 66) p26 k26_66 rfl p32 (r := []) rfl rfl rfl rfl rfl rfl (t32 s x1 r2 er2) (w := [.int r2.1]) rfl ?_
        refine r_goto (pc := 69) p26 k26_69 ?_
        obtain rfl := Option.some.inj e
        exact r_retI (pc := 77) p26 k26_77 rfl
def f26_33 (s : cS) (x1 : Int32) : Option (Int32 × cS) := ((f29 s x1).bind fun r1 => some (r1.1, r1.2))
theorem t26_33 {d : Nat} {Z : Nat → ab_C} : ∀ (s : cS) (l : ab_L) (x1 : Int32) (h0 : ab_get l 0 = some (.ref 11)) (h1 : ab_get l 1 = some (.int x1)) (r : Int32 × cS) (e : f26_33 s x1 = some r), ab_Rn (d + 3) 26 33 l [] (ch s Z) (.inl (some (.int r.1))) (ch r.2 Z) := by
  intro s l x1 h0 h1 r e
  unfold f26_33 at e
  refine r_aload_n (pc := 33) p26 k26_33 h0 ?_
  refine r_iload_n (pc := 34) p26 k26_34 h1 ?_
  obtain ⟨r1, er1, e⟩ := of_bind e
  refine c_cv (i := 11) rfl (pc := 35) p26 k26_35 rfl p29 (r := []) rfl rfl rfl rfl rfl rfl (t29 s x1 r1 er1) (w := [.int r1.1]) rfl ?_
  obtain rfl := Option.some.inj e
  exact r_retI (pc := 38) p26 k26_38 rfl
def f26 (s : cS) (x1 : Int32) (x2 : Int32) : Option (Int32 × cS) := (if (f27 x2) = 0 then f26_39 s x1 x2 else (if (f28 x2) = 0 then (if x2 = (46 : Int32) then ((f25 s (x1 + (1 : Int32))).bind fun r1 => (if (f27 r1) = 0 then f26_39 s x1 x2 else f26_33 s x1)) else f26_33 s x1) else f26_39 s x1 x2))
theorem t26 {d : Nat} {Z : Nat → ab_C} (s : cS) (x1 : Int32) (x2 : Int32) (r : Int32 × cS) (e : f26 s x1 x2 = some r) : ab_Rn (d + 3) 26 0 (lv_args 0 [.ref 11, .int x1, .int x2]) [] (ch s Z) (.inl (some (.int r.1))) (ch r.2 Z) := by
  unfold f26 at e
  obtain ⟨l, hl⟩ : ∃ l, l = (lv_args 0 [.ref 11, .int x1, .int x2]) := ⟨_, rfl⟩
  rw [← hl]
  have h0 : ab_get l 0 = some (.ref 11) := by rw [hl]; rfl
  have h1 : ab_get l 1 = some (.int x1) := by rw [hl]; rfl
  have h2 : ab_get l 2 = some (.int x2) := by rw [hl]; rfl
  refine r_iload_n (pc := 0) p26 k26_0 h2 ?_
  refine r_csv (pc := 1) p26 k26_1 rfl rfl p27 (r := []) rfl rfl rfl rfl (t27 x2 _ rfl) (w := [.int (f27 x2)]) rfl ?_
  refine r_if_eq (pc := 4) p26 k26_4 (fun c => ?_) (fun c => ?_)
  · have e := (if_pos c).symm.trans e
    exact t26_39 s l x1 x2 h0 h1 h2 r e
  · have e := (if_neg c).symm.trans e
    refine r_iload_n (pc := 7) p26 k26_7 h2 ?_
    refine r_csv (pc := 8) p26 k26_8 rfl rfl p28 (r := []) rfl rfl rfl rfl (t28 x2 _ rfl) (w := [.int (f28 x2)]) rfl ?_
    refine r_if_ne (pc := 11) p26 k26_11 (fun c => ?_) (fun c => ?_)
    · have e := (if_neg c).symm.trans e
      exact t26_39 s l x1 x2 h0 h1 h2 r e
    · have e := (if_pos c).symm.trans e
      refine r_iload_n (pc := 14) p26 k26_14 h2 ?_
      refine r_bipush (pc := 15) p26 k26_15 (v := (46 : Int32)) rfl ?_
      refine r_ic_ne (pc := 17) p26 k26_17 (fun c => ?_) (fun c => ?_)
      · have e := (if_neg c).symm.trans e
        exact t26_33 s l x1 h0 h1 r e
      · have e := (if_pos c).symm.trans e
        refine r_aload_n (pc := 20) p26 k26_20 h0 ?_
        refine r_iload_n (pc := 21) p26 k26_21 h1 ?_
        refine r_iconst (pc := 22) p26 k26_22 (v := (1 : Int32)) rfl ?_
        refine r_iadd (pc := 23) p26 k26_23 ?_
        obtain ⟨r1, er1, e⟩ := of_bind e
        refine c_cv (i := 11) rfl (pc := 24) p26 k26_24 rfl p25 (r := []) rfl rfl rfl rfl rfl rfl (t25 s (x1 + (1 : Int32)) r1 er1) (w := [.int r1]) rfl ?_
        refine r_csv (pc := 27) p26 k26_27 rfl rfl p27 (r := []) rfl rfl rfl rfl (t27 r1 _ rfl) (w := [.int (f27 r1)]) rfl ?_
        refine r_if_eq (pc := 30) p26 k26_30 (fun c => ?_) (fun c => ?_)
        · have e := (if_pos c).symm.trans e
          exact t26_39 s l x1 x2 h0 h1 h2 r e
        · have e := (if_neg c).symm.trans e
          exact t26_33 s l x1 h0 h1 r e

theorem p23 : ab_prog[23]? = some (ab_m23, ab_c23) := rfl
theorem k23_0 : ab_fetch ab_c23 0 = some (.aload_n 0, 1, 0, 0) := rfl
theorem k23_1 : ab_fetch ab_c23 1 = some (.aload_n 0, 1, 0, 0) := rfl
theorem k23_2 : ab_fetch ab_c23 2 = some (.getfield 50, 3, 4, 10) := rfl
theorem k23_5 : ab_fetch ab_c23 5 = some (.aload_n 0, 1, 0, 0) := rfl
theorem k23_6 : ab_fetch ab_c23 6 = some (.getfield 53, 3, 4, 9) := rfl
theorem k23_9 : ab_fetch ab_c23 9 = some (.isub, 1, 0, 0) := rfl
theorem k23_10 : ab_fetch ab_c23 10 = some (.iconst 1, 1, 0, 0) := rfl
theorem k23_11 : ab_fetch ab_c23 11 = some (.iadd, 1, 0, 0) := rfl
theorem k23_12 : ab_fetch ab_c23 12 = some (.invokevirtual 125, 3, 24, 1) := rfl
theorem k23_15 : ab_fetch ab_c23 15 = some (.aload_n 0, 1, 0, 0) := rfl
theorem k23_16 : ab_fetch ab_c23 16 = some (.iconst 0, 1, 0, 0) := rfl
theorem k23_17 : ab_fetch ab_c23 17 = some (.putfield 88, 3, 4, 14) := rfl
theorem k23_20 : ab_fetch ab_c23 20 = some (.aload_n 0, 1, 0, 0) := rfl
theorem k23_21 : ab_fetch ab_c23 21 = some (.iconst (-1), 1, 0, 0) := rfl
theorem k23_22 : ab_fetch ab_c23 22 = some (.putfield 82, 3, 4, 16) := rfl
theorem k23_25 : ab_fetch ab_c23 25 = some (.aload_n 0, 1, 0, 0) := rfl
theorem k23_26 : ab_fetch ab_c23 26 = some (.getfield 53, 3, 4, 9) := rfl
theorem k23_29 : ab_fetch ab_c23 29 = some (.istore_n 1, 1, 0, 0) := rfl
theorem k23_30 : ab_fetch ab_c23 30 = some (.aload_n 0, 1, 0, 0) := rfl
theorem k23_31 : ab_fetch ab_c23 31 = some (.getfield 53, 3, 4, 9) := rfl
theorem k23_34 : ab_fetch ab_c23 34 = some (.istore_n 2, 1, 0, 0) := rfl
theorem k23_35 : ab_fetch ab_c23 35 = some (.iload_n 2, 1, 0, 0) := rfl
theorem k23_36 : ab_fetch ab_c23 36 = some (.aload_n 0, 1, 0, 0) := rfl
theorem k23_37 : ab_fetch ab_c23 37 = some (.getfield 50, 3, 4, 10) := rfl
theorem k23_40 : ab_fetch ab_c23 40 = some (.if_icmp .ge 71, 3, 111, 0) := rfl
theorem k23_43 : ab_fetch ab_c23 43 = some (.iload_n 1, 1, 0, 0) := rfl
theorem k23_44 : ab_fetch ab_c23 44 = some (.aload_n 0, 1, 0, 0) := rfl
theorem k23_45 : ab_fetch ab_c23 45 = some (.getfield 50, 3, 4, 10) := rfl
theorem k23_48 : ab_fetch ab_c23 48 = some (.if_icmp .ge 63, 3, 111, 0) := rfl
theorem k23_51 : ab_fetch ab_c23 51 = some (.aload_n 0, 1, 0, 0) := rfl
theorem k23_52 : ab_fetch ab_c23 52 = some (.getfield 82, 3, 4, 16) := rfl
theorem k23_55 : ab_fetch ab_c23 55 = some (.iconst (-1), 1, 0, 0) := rfl
theorem k23_56 : ab_fetch ab_c23 56 = some (.if_icmp .ne 55, 3, 111, 0) := rfl
theorem k23_59 : ab_fetch ab_c23 59 = some (.aload_n 0, 1, 0, 0) := rfl
theorem k23_60 : ab_fetch ab_c23 60 = some (.iload_n 1, 1, 0, 0) := rfl
theorem k23_61 : ab_fetch ab_c23 61 = some (.invokevirtual 100, 3, 25, 1) := rfl
theorem k23_64 : ab_fetch ab_c23 64 = some (.istore_n 3, 1, 0, 0) := rfl
theorem k23_65 : ab_fetch ab_c23 65 = some (.iload_n 3, 1, 0, 0) := rfl
theorem k23_66 : ab_fetch ab_c23 66 = some (.bipush 35, 2, 0, 0) := rfl
theorem k23_68 : ab_fetch ab_c23 68 = some (.if_icmp .ne 6, 3, 74, 0) := rfl
theorem k23_71 : ab_fetch ab_c23 71 = some (.goto 40, 3, 111, 0) := rfl
theorem k23_74 : ab_fetch ab_c23 74 = some (.iload_n 3, 1, 0, 0) := rfl
theorem k23_75 : ab_fetch ab_c23 75 = some (.bipush 32, 2, 0, 0) := rfl
theorem k23_77 : ab_fetch ab_c23 77 = some (.if_icmp .eq 15, 3, 92, 0) := rfl
theorem k23_80 : ab_fetch ab_c23 80 = some (.iload_n 3, 1, 0, 0) := rfl
theorem k23_81 : ab_fetch ab_c23 81 = some (.bipush 9, 2, 0, 0) := rfl
theorem k23_83 : ab_fetch ab_c23 83 = some (.if_icmp .eq 9, 3, 92, 0) := rfl
theorem k23_86 : ab_fetch ab_c23 86 = some (.iload_n 3, 1, 0, 0) := rfl
theorem k23_87 : ab_fetch ab_c23 87 = some (.bipush 13, 2, 0, 0) := rfl
theorem k23_89 : ab_fetch ab_c23 89 = some (.if_icmp .ne 9, 3, 98, 0) := rfl
theorem k23_92 : ab_fetch ab_c23 92 = some (.iinc 1 1, 3, 0, 0) := rfl
theorem k23_95 : ab_fetch ab_c23 95 = some (.goto 10, 3, 105, 0) := rfl
theorem k23_98 : ab_fetch ab_c23 98 = some (.aload_n 0, 1, 0, 0) := rfl
theorem k23_99 : ab_fetch ab_c23 99 = some (.iload_n 1, 1, 0, 0) := rfl
theorem k23_100 : ab_fetch ab_c23 100 = some (.iload_n 3, 1, 0, 0) := rfl
theorem k23_101 : ab_fetch ab_c23 101 = some (.invokevirtual 129, 3, 26, 2) := rfl
theorem k23_104 : ab_fetch ab_c23 104 = some (.istore_n 1, 1, 0, 0) := rfl
theorem k23_105 : ab_fetch ab_c23 105 = some (.iinc 2 1, 3, 0, 0) := rfl
theorem k23_108 : ab_fetch ab_c23 108 = some (.goto (-73), 3, 35, 0) := rfl
theorem k23_111 : ab_fetch ab_c23 111 = some (.aload_n 0, 1, 0, 0) := rfl
theorem k23_112 : ab_fetch ab_c23 112 = some (.iconst 0, 1, 0, 0) := rfl
theorem k23_113 : ab_fetch ab_c23 113 = some (.iload_n 1, 1, 0, 0) := rfl
theorem k23_114 : ab_fetch ab_c23 114 = some (.iconst 0, 1, 0, 0) := rfl
theorem k23_115 : ab_fetch ab_c23 115 = some (.invokevirtual 132, 3, 30, 3) := rfl
theorem k23_118 : ab_fetch ab_c23 118 = some (.return_, 1, 0, 0) := rfl
/- CodeSmith$Tokens splitLine()V -/
def f23_111 (s : cS) (x1 : Int32) : Option cS := ((f30 s (0 : Int32) x1 (0 : Int32)).bind fun r1 => some r1)
theorem t23_111 {d : Nat} {Z : Nat → ab_C} : ∀ (s : cS) (l : ab_L) (x1 : Int32) (h0 : ab_get l 0 = some (.ref 11)) (h1 : ab_get l 1 = some (.int x1)) (r : cS) (e : f23_111 s x1 = some r), ab_Rn (d + 4) 23 111 l [] (ch s Z) (.inl none) (ch r Z) := by
  intro s l x1 h0 h1 r e
  unfold f23_111 at e
  refine r_aload_n (pc := 111) p23 k23_111 h0 ?_
  refine r_iconst (pc := 112) p23 k23_112 (v := (0 : Int32)) rfl ?_
  refine r_iload_n (pc := 113) p23 k23_113 h1 ?_
  refine r_iconst (pc := 114) p23 k23_114 (v := (0 : Int32)) rfl ?_
  obtain ⟨r1, er1, e⟩ := of_bind e
  refine c_cv (i := 11) rfl (pc := 115) p23 k23_115 rfl p30 (r := []) rfl rfl rfl rfl rfl rfl (t30 s (0 : Int32) x1 (0 : Int32) r1 er1) (w := []) rfl ?_
  obtain rfl := Option.some.inj e
  exact r_retV (pc := 118) p23 k23_118 rfl
def f23_105 (q35 : cS → Int32 → Int32 → Option cS) (s : cS) (x1 : Int32) (x2 : Int32) : Option cS := q35 s x1 (x2 + (1 : Int32))
theorem t23_105 {d : Nat} {Z : Nat → ab_C} (q35 : cS → Int32 → Int32 → Option cS) (hq35 : ∀ (s : cS) (l : ab_L) (x1 : Int32) (x2 : Int32) (h0 : ab_get l 0 = some (.ref 11)) (h1 : ab_get l 1 = some (.int x1)) (h2 : ab_get l 2 = some (.int x2)) (r : cS) (e : q35 s x1 x2 = some r), ab_Rn (d + 4) 23 35 l [] (ch s Z) (.inl none) (ch r Z)) : ∀ (s : cS) (l : ab_L) (x1 : Int32) (x2 : Int32) (h0 : ab_get l 0 = some (.ref 11)) (h1 : ab_get l 1 = some (.int x1)) (h2 : ab_get l 2 = some (.int x2)) (r : cS) (e : f23_105 q35 s x1 x2 = some r), ab_Rn (d + 4) 23 105 l [] (ch s Z) (.inl none) (ch r Z) := by
  intro s l x1 x2 h0 h1 h2 r e
  unfold f23_105 at e
  refine r_iinc (pc := 105) p23 k23_105 h2 (by decide) (v := (x2 + (1 : Int32))) rfl (fun l g h2 => ?_)
  have h0 := g 0 _ (by decide) h0 (Or.inl rfl)
  have h1 := g 1 _ (by decide) h1 (Or.inl rfl)
  refine r_goto (pc := 108) p23 k23_108 ?_
  exact hq35 s l x1 (x2 + (1 : Int32)) h0 h1 h2 r e
def f23_92 (q35 : cS → Int32 → Int32 → Option cS) (s : cS) (x1 : Int32) (x2 : Int32) : Option cS := f23_105 q35 s (x1 + (1 : Int32)) x2
theorem t23_92 {d : Nat} {Z : Nat → ab_C} (q35 : cS → Int32 → Int32 → Option cS) (hq35 : ∀ (s : cS) (l : ab_L) (x1 : Int32) (x2 : Int32) (h0 : ab_get l 0 = some (.ref 11)) (h1 : ab_get l 1 = some (.int x1)) (h2 : ab_get l 2 = some (.int x2)) (r : cS) (e : q35 s x1 x2 = some r), ab_Rn (d + 4) 23 35 l [] (ch s Z) (.inl none) (ch r Z)) : ∀ (s : cS) (l : ab_L) (x1 : Int32) (x2 : Int32) (h0 : ab_get l 0 = some (.ref 11)) (h1 : ab_get l 1 = some (.int x1)) (h2 : ab_get l 2 = some (.int x2)) (r : cS) (e : f23_92 q35 s x1 x2 = some r), ab_Rn (d + 4) 23 92 l [] (ch s Z) (.inl none) (ch r Z) := by
  intro s l x1 x2 h0 h1 h2 r e
  unfold f23_92 at e
  refine r_iinc (pc := 92) p23 k23_92 h1 (by decide) (v := (x1 + (1 : Int32))) rfl (fun l g h1 => ?_)
  have h0 := g 0 _ (by decide) h0 (Or.inl rfl)
  have h2 := g 2 _ (by decide) h2 (Or.inl rfl)
  refine r_goto (pc := 95) p23 k23_95 ?_
  exact t23_105 q35 hq35 s l (x1 + (1 : Int32)) x2 h0 h1 h2 r e
def f23_71 (s : cS) (x1 : Int32) : Option cS := f23_111 s x1
theorem t23_71 {d : Nat} {Z : Nat → ab_C} : ∀ (s : cS) (l : ab_L) (x1 : Int32) (h0 : ab_get l 0 = some (.ref 11)) (h1 : ab_get l 1 = some (.int x1)) (r : cS) (e : f23_71 s x1 = some r), ab_Rn (d + 4) 23 71 l [] (ch s Z) (.inl none) (ch r Z) := by
  intro s l x1 h0 h1 r e
  unfold f23_71 at e
  refine r_goto (pc := 71) p23 k23_71 ?_
  exact t23_111 s l x1 h0 h1 r e
def f23_35 : Nat → cS → Int32 → Int32 → Option cS
  | 0, _, _, _ => none
  | u + 1, s, x1, x2 => (if (s.1 11 10) ≤ x2 then f23_111 s x1 else (if (s.1 11 10) ≤ x1 then f23_111 s x1 else (if (s.1 11 16) = (-1 : Int32) then ((f25 s x1).bind fun r1 => (if r1 = (35 : Int32) then f23_71 s x1 else (if r1 = (32 : Int32) then f23_92 (f23_35 u) s x1 x2 else (if r1 = (9 : Int32) then f23_92 (f23_35 u) s x1 x2 else (if r1 = (13 : Int32) then f23_92 (f23_35 u) s x1 x2 else ((f26 s x1 r1).bind fun r2 => f23_105 (f23_35 u) r2.2 r2.1 x2)))))) else f23_111 s x1)))
theorem t23_35 {d : Nat} {Z : Nat → ab_C} : ∀ u : Nat, ∀ (s : cS) (l : ab_L) (x1 : Int32) (x2 : Int32) (h0 : ab_get l 0 = some (.ref 11)) (h1 : ab_get l 1 = some (.int x1)) (h2 : ab_get l 2 = some (.int x2)) (r : cS) (e : f23_35 u s x1 x2 = some r), ab_Rn (d + 4) 23 35 l [] (ch s Z) (.inl none) (ch r Z) := by
  intro u
  induction u with
  | zero => intro s l x1 x2 h0 h1 h2 r e; rw [f23_35] at e; cases e
  | succ u ih =>
    intro s l x1 x2 h0 h1 h2 r e
    rw [f23_35] at e
    refine r_iload_n (pc := 35) p23 k23_35 h2 ?_
    refine r_aload_n (pc := 36) p23 k23_36 h0 ?_
    refine c_get (i := 11) rfl (pc := 37) p23 k23_37 rfl rfl (v := .int (s.1 11 10)) rfl ?_
    refine r_ic_ge (pc := 40) p23 k23_40 (fun c => ?_) (fun c => ?_)
    · have e := (if_pos c).symm.trans e
      exact t23_111 s l x1 h0 h1 r e
    · have e := (if_neg c).symm.trans e
      refine r_iload_n (pc := 43) p23 k23_43 h1 ?_
      refine r_aload_n (pc := 44) p23 k23_44 h0 ?_
      refine c_get (i := 11) rfl (pc := 45) p23 k23_45 rfl rfl (v := .int (s.1 11 10)) rfl ?_
      refine r_ic_ge (pc := 48) p23 k23_48 (fun c => ?_) (fun c => ?_)
      · have e := (if_pos c).symm.trans e
        exact t23_111 s l x1 h0 h1 r e
      · have e := (if_neg c).symm.trans e
        refine r_aload_n (pc := 51) p23 k23_51 h0 ?_
        refine c_get (i := 11) rfl (pc := 52) p23 k23_52 rfl rfl (v := .int (s.1 11 16)) rfl ?_
        refine r_iconst (pc := 55) p23 k23_55 (v := (-1 : Int32)) rfl ?_
        refine r_ic_ne (pc := 56) p23 k23_56 (fun c => ?_) (fun c => ?_)
        · have e := (if_neg c).symm.trans e
          exact t23_111 s l x1 h0 h1 r e
        · have e := (if_pos c).symm.trans e
          refine r_aload_n (pc := 59) p23 k23_59 h0 ?_
          refine r_iload_n (pc := 60) p23 k23_60 h1 ?_
          obtain ⟨r1, er1, e⟩ := of_bind e
          refine c_cv (i := 11) rfl (pc := 61) p23 k23_61 rfl p25 (r := []) rfl rfl rfl rfl rfl rfl (t25 s x1 r1 er1) (w := [.int r1]) rfl ?_
          refine r_istore_n (pc := 64) p23 k23_64 (by decide) (fun l g h3 => ?_)
          have h0 := g 0 _ (by decide) h0 (Or.inl rfl)
          have h1 := g 1 _ (by decide) h1 (Or.inl rfl)
          have h2 := g 2 _ (by decide) h2 (Or.inl rfl)
          refine r_iload_n (pc := 65) p23 k23_65 h3 ?_
          refine r_bipush (pc := 66) p23 k23_66 (v := (35 : Int32)) rfl ?_
          refine r_ic_ne (pc := 68) p23 k23_68 (fun c => ?_) (fun c => ?_)
          · have e := (if_neg c).symm.trans e
            refine r_iload_n (pc := 74) p23 k23_74 h3 ?_
            refine r_bipush (pc := 75) p23 k23_75 (v := (32 : Int32)) rfl ?_
            refine r_ic_eq (pc := 77) p23 k23_77 (fun c => ?_) (fun c => ?_)
            · have e := (if_pos c).symm.trans e
              exact t23_92 (f23_35 u) ih s l x1 x2 h0 h1 h2 r e
            · have e := (if_neg c).symm.trans e
              refine r_iload_n (pc := 80) p23 k23_80 h3 ?_
              refine r_bipush (pc := 81) p23 k23_81 (v := (9 : Int32)) rfl ?_
              refine r_ic_eq (pc := 83) p23 k23_83 (fun c => ?_) (fun c => ?_)
              · have e := (if_pos c).symm.trans e
                exact t23_92 (f23_35 u) ih s l x1 x2 h0 h1 h2 r e
              · have e := (if_neg c).symm.trans e
                refine r_iload_n (pc := 86) p23 k23_86 h3 ?_
                refine r_bipush (pc := 87) p23 k23_87 (v := (13 : Int32)) rfl ?_
                refine r_ic_ne (pc := 89) p23 k23_89 (fun c => ?_) (fun c => ?_)
                · have e := (if_neg c).symm.trans e
                  refine r_aload_n (pc := 98) p23 k23_98 h0 ?_
                  refine r_iload_n (pc := 99) p23 k23_99 h1 ?_
                  refine r_iload_n (pc := 100) p23 k23_100 h3 ?_
                  obtain ⟨r2, er2, e⟩ := of_bind e
                  refine c_cv (i := 11) rfl (pc := 101) p23 k23_101 rfl p26 (r := []) rfl rfl rfl rfl rfl rfl (t26 s x1 r1 r2 er2) (w := [.int r2.1]) rfl ?_
                  refine r_istore_n (pc := 104) p23 k23_104 (by decide) (fun l g h1 => ?_)
                  have h0 := g 0 _ (by decide) h0 (Or.inl rfl)
                  have h2 := g 2 _ (by decide) h2 (Or.inl rfl)
                  exact t23_105 (f23_35 u) ih r2.2 l r2.1 x2 h0 h1 h2 r e
                · have e := (if_pos c).symm.trans e
                  exact t23_92 (f23_35 u) ih s l x1 x2 h0 h1 h2 r e
          · have e := (if_pos c).symm.trans e
            exact t23_71 s l x1 h0 h1 r e
def f23 (s : cS) : Option cS := ((f24 s (((s.1 11 10) - (s.1 11 9)) + (1 : Int32))).bind fun r1 => f23_35 mm_U (cg (cg r1 11 14 (0 : Int32)) 11 16 (-1 : Int32)) (r1.1 11 9) (r1.1 11 9))
theorem t23 {d : Nat} {Z : Nat → ab_C} (s : cS) (r : cS) (e : f23 s = some r) : ab_Rn (d + 4) 23 0 (lv_args 0 [.ref 11]) [] (ch s Z) (.inl none) (ch r Z) := by
  unfold f23 at e
  obtain ⟨l, hl⟩ : ∃ l, l = (lv_args 0 [.ref 11]) := ⟨_, rfl⟩
  rw [← hl]
  have h0 : ab_get l 0 = some (.ref 11) := by rw [hl]; rfl
  refine r_aload_n (pc := 0) p23 k23_0 h0 ?_
  refine r_aload_n (pc := 1) p23 k23_1 h0 ?_
  refine c_get (i := 11) rfl (pc := 2) p23 k23_2 rfl rfl (v := .int (s.1 11 10)) rfl ?_
  refine r_aload_n (pc := 5) p23 k23_5 h0 ?_
  refine c_get (i := 11) rfl (pc := 6) p23 k23_6 rfl rfl (v := .int (s.1 11 9)) rfl ?_
  refine r_isub (pc := 9) p23 k23_9 ?_
  refine r_iconst (pc := 10) p23 k23_10 (v := (1 : Int32)) rfl ?_
  refine r_iadd (pc := 11) p23 k23_11 ?_
  obtain ⟨r1, er1, e⟩ := of_bind e
  refine c_cv (i := 11) rfl (pc := 12) p23 k23_12 rfl p24 (r := []) rfl rfl rfl rfl rfl rfl (t24 s (((s.1 11 10) - (s.1 11 9)) + (1 : Int32)) r1 er1) (w := []) rfl ?_
  refine r_aload_n (pc := 15) p23 k23_15 h0 ?_
  refine r_iconst (pc := 16) p23 k23_16 (v := (0 : Int32)) rfl ?_
  refine c_put (i := 11) rfl (pc := 17) p23 k23_17 rfl rfl rfl (cc_g11 _ Z 14 _) (cs11_14 _ _) rfl rfl ?_
  refine r_aload_n (pc := 20) p23 k23_20 h0 ?_
  refine r_iconst (pc := 21) p23 k23_21 (v := (-1 : Int32)) rfl ?_
  refine c_put (i := 11) rfl (pc := 22) p23 k23_22 rfl rfl rfl (cc_g11 _ Z 16 _) (cs11_16 _ _) rfl rfl ?_
  refine r_aload_n (pc := 25) p23 k23_25 h0 ?_
  refine c_get (i := 11) rfl (pc := 26) p23 k23_26 rfl rfl (v := .int (r1.1 11 9)) rfl ?_
  refine r_istore_n (pc := 29) p23 k23_29 (by decide) (fun l g h1 => ?_)
  have h0 := g 0 _ (by decide) h0 (Or.inl rfl)
  refine r_aload_n (pc := 30) p23 k23_30 h0 ?_
  refine c_get (i := 11) rfl (pc := 31) p23 k23_31 rfl rfl (v := .int (r1.1 11 9)) rfl ?_
  refine r_istore_n (pc := 34) p23 k23_34 (by decide) (fun l g h2 => ?_)
  have h0 := g 0 _ (by decide) h0 (Or.inl rfl)
  have h1 := g 1 _ (by decide) h1 (Or.inl rfl)
  exact t23_35 mm_U (cg (cg r1 11 14 (0 : Int32)) 11 16 (-1 : Int32)) l (r1.1 11 9) (r1.1 11 9) h0 h1 h2 r e

theorem p41 : ab_prog[41]? = some (ab_m41, ab_c41) := rfl
theorem k41_0 : ab_fetch ab_c41 0 = some (.aload_n 0, 1, 0, 0) := rfl
theorem k41_1 : ab_fetch ab_c41 1 = some (.dup, 1, 0, 0) := rfl
theorem k41_2 : ab_fetch ab_c41 2 = some (.getfield 59, 3, 4, 15) := rfl
theorem k41_5 : ab_fetch ab_c41 5 = some (.iconst 1, 1, 0, 0) := rfl
theorem k41_6 : ab_fetch ab_c41 6 = some (.iadd, 1, 0, 0) := rfl
theorem k41_7 : ab_fetch ab_c41 7 = some (.putfield 59, 3, 4, 15) := rfl
theorem k41_10 : ab_fetch ab_c41 10 = some (.aload_n 0, 1, 0, 0) := rfl
theorem k41_11 : ab_fetch ab_c41 11 = some (.getfield 59, 3, 4, 15) := rfl
theorem k41_14 : ab_fetch ab_c41 14 = some (.ifCond .lt 53, 3, 67, 0) := rfl
theorem k41_17 : ab_fetch ab_c41 17 = some (.aload_n 0, 1, 0, 0) := rfl
theorem k41_18 : ab_fetch ab_c41 18 = some (.getfield 59, 3, 4, 15) := rfl
theorem k41_21 : ab_fetch ab_c41 21 = some (.aload_n 0, 1, 0, 0) := rfl
theorem k41_22 : ab_fetch ab_c41 22 = some (.getfield 88, 3, 4, 14) := rfl
theorem k41_25 : ab_fetch ab_c41 25 = some (.if_icmp .ge 42, 3, 67, 0) := rfl
theorem k41_28 : ab_fetch ab_c41 28 = some (.aload_n 0, 1, 0, 0) := rfl
theorem k41_29 : ab_fetch ab_c41 29 = some (.aload_n 0, 1, 0, 0) := rfl
theorem k41_30 : ab_fetch ab_c41 30 = some (.getfield 15, 3, 4, 11) := rfl
theorem k41_33 : ab_fetch ab_c41 33 = some (.aload_n 0, 1, 0, 0) := rfl
theorem k41_34 : ab_fetch ab_c41 34 = some (.getfield 59, 3, 4, 15) := rfl
theorem k41_37 : ab_fetch ab_c41 37 = some (.iaload, 1, 0, 0) := rfl
theorem k41_38 : ab_fetch ab_c41 38 = some (.putfield 72, 3, 4, 3) := rfl
theorem k41_41 : ab_fetch ab_c41 41 = some (.aload_n 0, 1, 0, 0) := rfl
theorem k41_42 : ab_fetch ab_c41 42 = some (.aload_n 0, 1, 0, 0) := rfl
theorem k41_43 : ab_fetch ab_c41 43 = some (.getfield 19, 3, 4, 12) := rfl
theorem k41_46 : ab_fetch ab_c41 46 = some (.aload_n 0, 1, 0, 0) := rfl
theorem k41_47 : ab_fetch ab_c41 47 = some (.getfield 59, 3, 4, 15) := rfl
theorem k41_50 : ab_fetch ab_c41 50 = some (.iaload, 1, 0, 0) := rfl
theorem k41_51 : ab_fetch ab_c41 51 = some (.putfield 75, 3, 4, 4) := rfl
theorem k41_54 : ab_fetch ab_c41 54 = some (.aload_n 0, 1, 0, 0) := rfl
theorem k41_55 : ab_fetch ab_c41 55 = some (.aload_n 0, 1, 0, 0) := rfl
theorem k41_56 : ab_fetch ab_c41 56 = some (.getfield 22, 3, 4, 13) := rfl
theorem k41_59 : ab_fetch ab_c41 59 = some (.aload_n 0, 1, 0, 0) := rfl
theorem k41_60 : ab_fetch ab_c41 60 = some (.getfield 59, 3, 4, 15) := rfl
theorem k41_63 : ab_fetch ab_c41 63 = some (.iaload, 1, 0, 0) := rfl
theorem k41_64 : ab_fetch ab_c41 64 = some (.putfield 122, 3, 4, 5) := rfl
theorem k41_67 : ab_fetch ab_c41 67 = some (.return_, 1, 0, 0) := rfl
/- CodeSmith$Tokens advance()V -/
def f41 (s : cS) : Option cS := (if ((s.1 11 15) + (1 : Int32)) < 0 then some (cg s 11 15 ((s.1 11 15) + (1 : Int32))) else (if (s.1 11 14) ≤ ((s.1 11 15) + (1 : Int32)) then some (cg s 11 15 ((s.1 11 15) + (1 : Int32))) else if cB (cg s 11 15 ((s.1 11 15) + (1 : Int32))) 1 (s.2.1 11 11) ((s.1 11 15) + (1 : Int32)) then if cB (cg (cg s 11 15 ((s.1 11 15) + (1 : Int32))) 11 3 (ce (cg s 11 15 ((s.1 11 15) + (1 : Int32))) (s.2.1 11 11) ((s.1 11 15) + (1 : Int32)))) 1 (s.2.1 11 12) ((s.1 11 15) + (1 : Int32)) then if cB (cg (cg (cg s 11 15 ((s.1 11 15) + (1 : Int32))) 11 3 (ce (cg s 11 15 ((s.1 11 15) + (1 : Int32))) (s.2.1 11 11) ((s.1 11 15) + (1 : Int32)))) 11 4 (ce (cg (cg s 11 15 ((s.1 11 15) + (1 : Int32))) 11 3 (ce (cg s 11 15 ((s.1 11 15) + (1 : Int32))) (s.2.1 11 11) ((s.1 11 15) + (1 : Int32)))) (s.2.1 11 12) ((s.1 11 15) + (1 : Int32)))) 1 (s.2.1 11 13) ((s.1 11 15) + (1 : Int32)) then some (cg (cg (cg (cg s 11 15 ((s.1 11 15) + (1 : Int32))) 11 3 (ce (cg s 11 15 ((s.1 11 15) + (1 : Int32))) (s.2.1 11 11) ((s.1 11 15) + (1 : Int32)))) 11 4 (ce (cg (cg s 11 15 ((s.1 11 15) + (1 : Int32))) 11 3 (ce (cg s 11 15 ((s.1 11 15) + (1 : Int32))) (s.2.1 11 11) ((s.1 11 15) + (1 : Int32)))) (s.2.1 11 12) ((s.1 11 15) + (1 : Int32)))) 11 5 (ce (cg (cg (cg s 11 15 ((s.1 11 15) + (1 : Int32))) 11 3 (ce (cg s 11 15 ((s.1 11 15) + (1 : Int32))) (s.2.1 11 11) ((s.1 11 15) + (1 : Int32)))) 11 4 (ce (cg (cg s 11 15 ((s.1 11 15) + (1 : Int32))) 11 3 (ce (cg s 11 15 ((s.1 11 15) + (1 : Int32))) (s.2.1 11 11) ((s.1 11 15) + (1 : Int32)))) (s.2.1 11 12) ((s.1 11 15) + (1 : Int32)))) (s.2.1 11 13) ((s.1 11 15) + (1 : Int32)))) else none else none else none))
theorem t41 {d : Nat} {Z : Nat → ab_C} (s : cS) (r : cS) (e : f41 s = some r) : ab_Rn d 41 0 (lv_args 0 [.ref 11]) [] (ch s Z) (.inl none) (ch r Z) := by
  unfold f41 at e
  obtain ⟨l, hl⟩ : ∃ l, l = (lv_args 0 [.ref 11]) := ⟨_, rfl⟩
  rw [← hl]
  have h0 : ab_get l 0 = some (.ref 11) := by rw [hl]; rfl
  refine r_aload_n (pc := 0) p41 k41_0 h0 ?_
  refine r_dup (pc := 1) p41 k41_1 rfl ?_
  refine c_get (i := 11) rfl (pc := 2) p41 k41_2 rfl rfl (v := .int (s.1 11 15)) rfl ?_
  refine r_iconst (pc := 5) p41 k41_5 (v := (1 : Int32)) rfl ?_
  refine r_iadd (pc := 6) p41 k41_6 ?_
  refine c_put (i := 11) rfl (pc := 7) p41 k41_7 rfl rfl rfl (cc_g11 _ Z 15 _) (cs11_15 _ _) rfl rfl ?_
  refine r_aload_n (pc := 10) p41 k41_10 h0 ?_
  refine c_get (i := 11) rfl (pc := 11) p41 k41_11 rfl rfl (v := .int ((s.1 11 15) + (1 : Int32))) rfl ?_
  refine r_if_lt (pc := 14) p41 k41_14 (fun c => ?_) (fun c => ?_)
  · have e := (if_pos c).symm.trans e
    obtain rfl := Option.some.inj e
    exact r_retV (pc := 67) p41 k41_67 rfl
  · have e := (if_neg c).symm.trans e
    refine r_aload_n (pc := 17) p41 k41_17 h0 ?_
    refine c_get (i := 11) rfl (pc := 18) p41 k41_18 rfl rfl (v := .int ((s.1 11 15) + (1 : Int32))) rfl ?_
    refine r_aload_n (pc := 21) p41 k41_21 h0 ?_
    refine c_get (i := 11) rfl (pc := 22) p41 k41_22 rfl rfl (v := .int (s.1 11 14)) rfl ?_
    refine r_ic_ge (pc := 25) p41 k41_25 (fun c => ?_) (fun c => ?_)
    · have e := (if_pos c).symm.trans e
      obtain rfl := Option.some.inj e
      exact r_retV (pc := 67) p41 k41_67 rfl
    · have e := (if_neg c).symm.trans e
      refine r_aload_n (pc := 28) p41 k41_28 h0 ?_
      refine r_aload_n (pc := 29) p41 k41_29 h0 ?_
      refine c_get (i := 11) rfl (pc := 30) p41 k41_30 rfl rfl (v := .ref (s.2.1 11 11)) rfl ?_
      refine r_aload_n (pc := 33) p41 k41_33 h0 ?_
      refine c_get (i := 11) rfl (pc := 34) p41 k41_34 rfl rfl (v := .int ((s.1 11 15) + (1 : Int32))) rfl ?_
      obtain ⟨c, e⟩ := of_if e
      refine c_ild (pc := 37) p41 k41_37 c ?_
      refine c_put (i := 11) rfl (pc := 38) p41 k41_38 rfl rfl rfl (cc_g11 _ Z 3 _) (cs11_3 _ _) rfl rfl ?_
      refine r_aload_n (pc := 41) p41 k41_41 h0 ?_
      refine r_aload_n (pc := 42) p41 k41_42 h0 ?_
      refine c_get (i := 11) rfl (pc := 43) p41 k41_43 rfl rfl (v := .ref (s.2.1 11 12)) rfl ?_
      refine r_aload_n (pc := 46) p41 k41_46 h0 ?_
      refine c_get (i := 11) rfl (pc := 47) p41 k41_47 rfl rfl (v := .int ((s.1 11 15) + (1 : Int32))) rfl ?_
      obtain ⟨c, e⟩ := of_if e
      refine c_ild (pc := 50) p41 k41_50 c ?_
      refine c_put (i := 11) rfl (pc := 51) p41 k41_51 rfl rfl rfl (cc_g11 _ Z 4 _) (cs11_4 _ _) rfl rfl ?_
      refine r_aload_n (pc := 54) p41 k41_54 h0 ?_
      refine r_aload_n (pc := 55) p41 k41_55 h0 ?_
      refine c_get (i := 11) rfl (pc := 56) p41 k41_56 rfl rfl (v := .ref (s.2.1 11 13)) rfl ?_
      refine r_aload_n (pc := 59) p41 k41_59 h0 ?_
      refine c_get (i := 11) rfl (pc := 60) p41 k41_60 rfl rfl (v := .int ((s.1 11 15) + (1 : Int32))) rfl ?_
      obtain ⟨c, e⟩ := of_if e
      refine c_ild (pc := 63) p41 k41_63 c ?_
      refine c_put (i := 11) rfl (pc := 64) p41 k41_64 rfl rfl rfl (cc_g11 _ Z 5 _) (cs11_5 _ _) rfl rfl ?_
      obtain rfl := Option.some.inj e
      exact r_retV (pc := 67) p41 k41_67 rfl

theorem p22 : ab_prog[22]? = some (ab_m22, ab_c22) := rfl
theorem k22_0 : ab_fetch ab_c22 0 = some (.aload_n 0, 1, 0, 0) := rfl
theorem k22_1 : ab_fetch ab_c22 1 = some (.aload_n 0, 1, 0, 0) := rfl
theorem k22_2 : ab_fetch ab_c22 2 = some (.getfield 50, 3, 4, 10) := rfl
theorem k22_5 : ab_fetch ab_c22 5 = some (.iconst 1, 1, 0, 0) := rfl
theorem k22_6 : ab_fetch ab_c22 6 = some (.iadd, 1, 0, 0) := rfl
theorem k22_7 : ab_fetch ab_c22 7 = some (.putfield 53, 3, 4, 9) := rfl
theorem k22_10 : ab_fetch ab_c22 10 = some (.aload_n 0, 1, 0, 0) := rfl
theorem k22_11 : ab_fetch ab_c22 11 = some (.getfield 53, 3, 4, 9) := rfl
theorem k22_14 : ab_fetch ab_c22 14 = some (.aload_n 0, 1, 0, 0) := rfl
theorem k22_15 : ab_fetch ab_c22 15 = some (.getfield 31, 3, 4, 8) := rfl
theorem k22_18 : ab_fetch ab_c22 18 = some (.if_icmp .lt 5, 3, 23, 0) := rfl
theorem k22_21 : ab_fetch ab_c22 21 = some (.iconst 0, 1, 0, 0) := rfl
theorem k22_22 : ab_fetch ab_c22 22 = some (.ireturn, 1, 0, 0) := rfl
theorem k22_23 : ab_fetch ab_c22 23 = some (.aload_n 0, 1, 0, 0) := rfl
theorem k22_24 : ab_fetch ab_c22 24 = some (.aload_n 0, 1, 0, 0) := rfl
theorem k22_25 : ab_fetch ab_c22 25 = some (.getfield 53, 3, 4, 9) := rfl
theorem k22_28 : ab_fetch ab_c22 28 = some (.putfield 50, 3, 4, 10) := rfl
theorem k22_31 : ab_fetch ab_c22 31 = some (.aload_n 0, 1, 0, 0) := rfl
theorem k22_32 : ab_fetch ab_c22 32 = some (.getfield 50, 3, 4, 10) := rfl
theorem k22_35 : ab_fetch ab_c22 35 = some (.aload_n 0, 1, 0, 0) := rfl
theorem k22_36 : ab_fetch ab_c22 36 = some (.getfield 31, 3, 4, 8) := rfl
theorem k22_39 : ab_fetch ab_c22 39 = some (.if_icmp .ge 30, 3, 69, 0) := rfl
theorem k22_42 : ab_fetch ab_c22 42 = some (.aload_n 0, 1, 0, 0) := rfl
theorem k22_43 : ab_fetch ab_c22 43 = some (.getfield 9, 3, 4, 7) := rfl
theorem k22_46 : ab_fetch ab_c22 46 = some (.aload_n 0, 1, 0, 0) := rfl
theorem k22_47 : ab_fetch ab_c22 47 = some (.getfield 50, 3, 4, 10) := rfl
theorem k22_50 : ab_fetch ab_c22 50 = some (.baload, 1, 0, 0) := rfl
theorem k22_51 : ab_fetch ab_c22 51 = some (.bipush 10, 2, 0, 0) := rfl
theorem k22_53 : ab_fetch ab_c22 53 = some (.if_icmp .eq 16, 3, 69, 0) := rfl
theorem k22_56 : ab_fetch ab_c22 56 = some (.aload_n 0, 1, 0, 0) := rfl
theorem k22_57 : ab_fetch ab_c22 57 = some (.dup, 1, 0, 0) := rfl
theorem k22_58 : ab_fetch ab_c22 58 = some (.getfield 50, 3, 4, 10) := rfl
theorem k22_61 : ab_fetch ab_c22 61 = some (.iconst 1, 1, 0, 0) := rfl
theorem k22_62 : ab_fetch ab_c22 62 = some (.iadd, 1, 0, 0) := rfl
theorem k22_63 : ab_fetch ab_c22 63 = some (.putfield 50, 3, 4, 10) := rfl
theorem k22_66 : ab_fetch ab_c22 66 = some (.goto (-35), 3, 31, 0) := rfl
theorem k22_69 : ab_fetch ab_c22 69 = some (.aload_n 0, 1, 0, 0) := rfl
theorem k22_70 : ab_fetch ab_c22 70 = some (.dup, 1, 0, 0) := rfl
theorem k22_71 : ab_fetch ab_c22 71 = some (.getfield 47, 3, 4, 6) := rfl
theorem k22_74 : ab_fetch ab_c22 74 = some (.iconst 1, 1, 0, 0) := rfl
theorem k22_75 : ab_fetch ab_c22 75 = some (.iadd, 1, 0, 0) := rfl
theorem k22_76 : ab_fetch ab_c22 76 = some (.putfield 47, 3, 4, 6) := rfl
theorem k22_79 : ab_fetch ab_c22 79 = some (.aload_n 0, 1, 0, 0) := rfl
theorem k22_80 : ab_fetch ab_c22 80 = some (.invokevirtual 56, 3, 23, 0) := rfl
theorem k22_83 : ab_fetch ab_c22 83 = some (.aload_n 0, 1, 0, 0) := rfl
theorem k22_84 : ab_fetch ab_c22 84 = some (.iconst (-1), 1, 0, 0) := rfl
theorem k22_85 : ab_fetch ab_c22 85 = some (.putfield 59, 3, 4, 15) := rfl
theorem k22_88 : ab_fetch ab_c22 88 = some (.aload_n 0, 1, 0, 0) := rfl
theorem k22_89 : ab_fetch ab_c22 89 = some (.invokevirtual 62, 3, 41, 0) := rfl
theorem k22_92 : ab_fetch ab_c22 92 = some (.iconst 1, 1, 0, 0) := rfl
theorem k22_93 : ab_fetch ab_c22 93 = some (.ireturn, 1, 0, 0) := rfl
/- CodeSmith$Tokens toNextLine()Z -/
def f22_69 (s : cS) : Option (Int32 × cS) := ((f23 (cg s 11 6 ((s.1 11 6) + (1 : Int32)))).bind fun r1 => ((f41 (cg r1 11 15 (-1 : Int32))).bind fun r2 => some ((1 : Int32), r2)))
theorem t22_69 {d : Nat} {Z : Nat → ab_C} : ∀ (s : cS) (l : ab_L)  (h0 : ab_get l 0 = some (.ref 11)) (r : Int32 × cS) (e : f22_69 s  = some r), ab_Rn (d + 5) 22 69 l [] (ch s Z) (.inl (some (.int r.1))) (ch r.2 Z) := by
  intro s l h0 r e
  unfold f22_69 at e
  refine r_aload_n (pc := 69) p22 k22_69 h0 ?_
  refine r_dup (pc := 70) p22 k22_70 rfl ?_
  refine c_get (i := 11) rfl (pc := 71) p22 k22_71 rfl rfl (v := .int (s.1 11 6)) rfl ?_
  refine r_iconst (pc := 74) p22 k22_74 (v := (1 : Int32)) rfl ?_
  refine r_iadd (pc := 75) p22 k22_75 ?_
  refine c_put (i := 11) rfl (pc := 76) p22 k22_76 rfl rfl rfl (cc_g11 _ Z 6 _) (cs11_6 _ _) rfl rfl ?_
  refine r_aload_n (pc := 79) p22 k22_79 h0 ?_
  obtain ⟨r1, er1, e⟩ := of_bind e
  refine c_cv (i := 11) rfl (pc := 80) p22 k22_80 rfl p23 (r := []) rfl rfl rfl rfl rfl rfl (t23 (cg s 11 6 ((s.1 11 6) + (1 : Int32))) r1 er1) (w := []) rfl ?_
  refine r_aload_n (pc := 83) p22 k22_83 h0 ?_
  refine r_iconst (pc := 84) p22 k22_84 (v := (-1 : Int32)) rfl ?_
  refine c_put (i := 11) rfl (pc := 85) p22 k22_85 rfl rfl rfl (cc_g11 _ Z 15 _) (cs11_15 _ _) rfl rfl ?_
  refine r_aload_n (pc := 88) p22 k22_88 h0 ?_
  obtain ⟨r2, er2, e⟩ := of_bind e
  refine c_cv (i := 11) rfl (pc := 89) p22 k22_89 rfl p41 (r := []) rfl rfl rfl rfl rfl rfl (t41 (cg r1 11 15 (-1 : Int32)) r2 er2) (w := []) rfl ?_
  refine r_iconst (pc := 92) p22 k22_92 (v := (1 : Int32)) rfl ?_
  obtain rfl := Option.some.inj e
  exact r_retZ (pc := 93) p22 k22_93 rfl (Or.inr rfl)
def f22_31 : Nat → cS → Option (Int32 × cS)
  | 0, _ => none
  | u + 1, s => (if (s.1 11 8) ≤ (s.1 11 10) then f22_69 s else if cB s 0 (s.2.1 11 7) (s.1 11 10) then (if (ce s (s.2.1 11 7) (s.1 11 10)) = (10 : Int32) then f22_69 s else f22_31 u (cg s 11 10 ((s.1 11 10) + (1 : Int32)))) else none)
theorem t22_31 {d : Nat} {Z : Nat → ab_C} : ∀ u : Nat, ∀ (s : cS) (l : ab_L)  (h0 : ab_get l 0 = some (.ref 11)) (r : Int32 × cS) (e : f22_31 u s  = some r), ab_Rn (d + 5) 22 31 l [] (ch s Z) (.inl (some (.int r.1))) (ch r.2 Z) := by
  intro u
  induction u with
  | zero => intro s l h0 r e; rw [f22_31] at e; cases e
  | succ u ih =>
    intro s l h0 r e
    rw [f22_31] at e
    refine r_aload_n (pc := 31) p22 k22_31 h0 ?_
    refine c_get (i := 11) rfl (pc := 32) p22 k22_32 rfl rfl (v := .int (s.1 11 10)) rfl ?_
    refine r_aload_n (pc := 35) p22 k22_35 h0 ?_
    refine c_get (i := 11) rfl (pc := 36) p22 k22_36 rfl rfl (v := .int (s.1 11 8)) rfl ?_
    refine r_ic_ge (pc := 39) p22 k22_39 (fun c => ?_) (fun c => ?_)
    · have e := (if_pos c).symm.trans e
      exact t22_69 s l h0 r e
    · have e := (if_neg c).symm.trans e
      refine r_aload_n (pc := 42) p22 k22_42 h0 ?_
      refine c_get (i := 11) rfl (pc := 43) p22 k22_43 rfl rfl (v := .ref (s.2.1 11 7)) rfl ?_
      refine r_aload_n (pc := 46) p22 k22_46 h0 ?_
      refine c_get (i := 11) rfl (pc := 47) p22 k22_47 rfl rfl (v := .int (s.1 11 10)) rfl ?_
      obtain ⟨c, e⟩ := of_if e
      refine c_bld (pc := 50) p22 k22_50 c ?_
      refine r_bipush (pc := 51) p22 k22_51 (v := (10 : Int32)) rfl ?_
      refine r_ic_eq (pc := 53) p22 k22_53 (fun c => ?_) (fun c => ?_)
      · have e := (if_pos c).symm.trans e
        exact t22_69 s l h0 r e
      · have e := (if_neg c).symm.trans e
        refine r_aload_n (pc := 56) p22 k22_56 h0 ?_
        refine r_dup (pc := 57) p22 k22_57 rfl ?_
        refine c_get (i := 11) rfl (pc := 58) p22 k22_58 rfl rfl (v := .int (s.1 11 10)) rfl ?_
        refine r_iconst (pc := 61) p22 k22_61 (v := (1 : Int32)) rfl ?_
        refine r_iadd (pc := 62) p22 k22_62 ?_
        refine c_put (i := 11) rfl (pc := 63) p22 k22_63 rfl rfl rfl (cc_g11 _ Z 10 _) (cs11_10 _ _) rfl rfl ?_
        refine r_goto (pc := 66) p22 k22_66 ?_
        exact ih (cg s 11 10 ((s.1 11 10) + (1 : Int32))) l h0 r e
def f22 (s : cS) : Option (Int32 × cS) := (if ((s.1 11 10) + (1 : Int32)) < (s.1 11 8) then f22_31 mm_U (cg (cg s 11 9 ((s.1 11 10) + (1 : Int32))) 11 10 ((s.1 11 10) + (1 : Int32))) else some ((0 : Int32), (cg s 11 9 ((s.1 11 10) + (1 : Int32)))))
theorem t22 {d : Nat} {Z : Nat → ab_C} (s : cS) (r : Int32 × cS) (e : f22 s = some r) : ab_Rn (d + 5) 22 0 (lv_args 0 [.ref 11]) [] (ch s Z) (.inl (some (.int r.1))) (ch r.2 Z) := by
  unfold f22 at e
  obtain ⟨l, hl⟩ : ∃ l, l = (lv_args 0 [.ref 11]) := ⟨_, rfl⟩
  rw [← hl]
  have h0 : ab_get l 0 = some (.ref 11) := by rw [hl]; rfl
  refine r_aload_n (pc := 0) p22 k22_0 h0 ?_
  refine r_aload_n (pc := 1) p22 k22_1 h0 ?_
  refine c_get (i := 11) rfl (pc := 2) p22 k22_2 rfl rfl (v := .int (s.1 11 10)) rfl ?_
  refine r_iconst (pc := 5) p22 k22_5 (v := (1 : Int32)) rfl ?_
  refine r_iadd (pc := 6) p22 k22_6 ?_
  refine c_put (i := 11) rfl (pc := 7) p22 k22_7 rfl rfl rfl (cc_g11 _ Z 9 _) (cs11_9 _ _) rfl rfl ?_
  refine r_aload_n (pc := 10) p22 k22_10 h0 ?_
  refine c_get (i := 11) rfl (pc := 11) p22 k22_11 rfl rfl (v := .int ((s.1 11 10) + (1 : Int32))) rfl ?_
  refine r_aload_n (pc := 14) p22 k22_14 h0 ?_
  refine c_get (i := 11) rfl (pc := 15) p22 k22_15 rfl rfl (v := .int (s.1 11 8)) rfl ?_
  refine r_ic_lt (pc := 18) p22 k22_18 (fun c => ?_) (fun c => ?_)
  · have e := (if_pos c).symm.trans e
    refine r_aload_n (pc := 23) p22 k22_23 h0 ?_
    refine r_aload_n (pc := 24) p22 k22_24 h0 ?_
    refine c_get (i := 11) rfl (pc := 25) p22 k22_25 rfl rfl (v := .int ((s.1 11 10) + (1 : Int32))) rfl ?_
    refine c_put (i := 11) rfl (pc := 28) p22 k22_28 rfl rfl rfl (cc_g11 _ Z 10 _) (cs11_10 _ _) rfl rfl ?_
    exact t22_31 mm_U (cg (cg s 11 9 ((s.1 11 10) + (1 : Int32))) 11 10 ((s.1 11 10) + (1 : Int32))) l h0 r e
  · have e := (if_neg c).symm.trans e
    refine r_iconst (pc := 21) p22 k22_21 (v := (0 : Int32)) rfl ?_
    obtain rfl := Option.some.inj e
    exact r_retZ (pc := 22) p22 k22_22 rfl (Or.inl rfl)
