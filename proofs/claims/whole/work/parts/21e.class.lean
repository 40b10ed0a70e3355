theorem p60 : ab_prog[60]? = some (ab_m60, ab_c60) := rfl
theorem k60_0 : ab_fetch ab_c60 0 = some (.iload_n 1, 1, 0, 0) := rfl
theorem k60_1 : ab_fetch ab_c60 1 = some (.ifCond .lt 29, 3, 30, 0) := rfl
theorem k60_4 : ab_fetch ab_c60 4 = some (.iload_n 2, 1, 0, 0) := rfl
theorem k60_5 : ab_fetch ab_c60 5 = some (.ifCond .lt 25, 3, 30, 0) := rfl
theorem k60_8 : ab_fetch ab_c60 8 = some (.iload_n 1, 1, 0, 0) := rfl
theorem k60_9 : ab_fetch ab_c60 9 = some (.iload_n 3, 1, 0, 0) := rfl
theorem k60_10 : ab_fetch ab_c60 10 = some (.iadd, 1, 0, 0) := rfl
theorem k60_11 : ab_fetch ab_c60 11 = some (.aload_n 0, 1, 0, 0) := rfl
theorem k60_12 : ab_fetch ab_c60 12 = some (.getfield 9, 3, 3, 1) := rfl
theorem k60_15 : ab_fetch ab_c60 15 = some (.arraylength, 1, 0, 0) := rfl
theorem k60_16 : ab_fetch ab_c60 16 = some (.if_icmp .gt 14, 3, 30, 0) := rfl
theorem k60_19 : ab_fetch ab_c60 19 = some (.iload_n 2, 1, 0, 0) := rfl
theorem k60_20 : ab_fetch ab_c60 20 = some (.iload_n 3, 1, 0, 0) := rfl
theorem k60_21 : ab_fetch ab_c60 21 = some (.iadd, 1, 0, 0) := rfl
theorem k60_22 : ab_fetch ab_c60 22 = some (.aload_n 0, 1, 0, 0) := rfl
theorem k60_23 : ab_fetch ab_c60 23 = some (.getfield 9, 3, 3, 1) := rfl
theorem k60_26 : ab_fetch ab_c60 26 = some (.arraylength, 1, 0, 0) := rfl
theorem k60_27 : ab_fetch ab_c60 27 = some (.if_icmp .le 5, 3, 32, 0) := rfl
theorem k60_30 : ab_fetch ab_c60 30 = some (.iconst 0, 1, 0, 0) := rfl
theorem k60_31 : ab_fetch ab_c60 31 = some (.ireturn, 1, 0, 0) := rfl
theorem k60_32 : ab_fetch ab_c60 32 = some (.iconst 0, 1, 0, 0) := rfl
theorem k60_33 : ab_fetch ab_c60 33 = some (.istore 4, 2, 0, 0) := rfl
theorem k60_35 : ab_fetch ab_c60 35 = some (.iload 4, 2, 0, 0) := rfl
theorem k60_37 : ab_fetch ab_c60 37 = some (.iload_n 3, 1, 0, 0) := rfl
theorem k60_38 : ab_fetch ab_c60 38 = some (.if_icmp .ge 32, 3, 70, 0) := rfl
theorem k60_41 : ab_fetch ab_c60 41 = some (.aload_n 0, 1, 0, 0) := rfl
theorem k60_42 : ab_fetch ab_c60 42 = some (.getfield 9, 3, 3, 1) := rfl
theorem k60_45 : ab_fetch ab_c60 45 = some (.iload_n 1, 1, 0, 0) := rfl
theorem k60_46 : ab_fetch ab_c60 46 = some (.iload 4, 2, 0, 0) := rfl
theorem k60_48 : ab_fetch ab_c60 48 = some (.iadd, 1, 0, 0) := rfl
theorem k60_49 : ab_fetch ab_c60 49 = some (.baload, 1, 0, 0) := rfl
theorem k60_50 : ab_fetch ab_c60 50 = some (.aload_n 0, 1, 0, 0) := rfl
theorem k60_51 : ab_fetch ab_c60 51 = some (.getfield 9, 3, 3, 1) := rfl
theorem k60_54 : ab_fetch ab_c60 54 = some (.iload_n 2, 1, 0, 0) := rfl
theorem k60_55 : ab_fetch ab_c60 55 = some (.iload 4, 2, 0, 0) := rfl
theorem k60_57 : ab_fetch ab_c60 57 = some (.iadd, 1, 0, 0) := rfl
theorem k60_58 : ab_fetch ab_c60 58 = some (.baload, 1, 0, 0) := rfl
theorem k60_59 : ab_fetch ab_c60 59 = some (.if_icmp .eq 5, 3, 64, 0) := rfl
theorem k60_62 : ab_fetch ab_c60 62 = some (.iconst 0, 1, 0, 0) := rfl
theorem k60_63 : ab_fetch ab_c60 63 = some (.ireturn, 1, 0, 0) := rfl
theorem k60_64 : ab_fetch ab_c60 64 = some (.iinc 4 1, 3, 0, 0) := rfl
theorem k60_67 : ab_fetch ab_c60 67 = some (.goto (-32), 3, 35, 0) := rfl
theorem k60_70 : ab_fetch ab_c60 70 = some (.iconst 1, 1, 0, 0) := rfl
theorem k60_71 : ab_fetch ab_c60 71 = some (.ireturn, 1, 0, 0) := rfl
/- CodeSmith$Symbols isSame(III)Z -/
def f60_35 : Nat → cS → Int32 → Int32 → Int32 → Int32 → Option Int32
  | 0, _, _, _, _, _ => none
  | u + 1, s, x1, x2, x3, x4 => (if x3 ≤ x4 then some (1 : Int32) else if cB s 0 (s.2.1 2 1) (x1 + x4) then if cB s 0 (s.2.1 2 1) (x2 + x4) then (if (ce s (s.2.1 2 1) (x1 + x4)) = (ce s (s.2.1 2 1) (x2 + x4)) then f60_35 u s x1 x2 x3 (x4 + (1 : Int32)) else some (0 : Int32)) else none else none)
theorem t60_35 {d : Nat} {Z : Nat → ab_C} : ∀ u : Nat, ∀ (s : cS) (l : ab_L) (x1 : Int32) (x2 : Int32) (x3 : Int32) (x4 : Int32) (h0 : ab_get l 0 = some (.ref 2)) (h1 : ab_get l 1 = some (.int x1)) (h2 : ab_get l 2 = some (.int x2)) (h3 : ab_get l 3 = some (.int x3)) (h4 : ab_get l 4 = some (.int x4)) (r : Int32) (e : f60_35 u s x1 x2 x3 x4 = some r), ab_Rn d 60 35 l [] (ch s Z) (.inl (some (.int r))) (ch s Z) := by
  intro u
  induction u with
  | zero => intro s l x1 x2 x3 x4 h0 h1 h2 h3 h4 r e; rw [f60_35] at e; cases e
  | succ u ih =>
    intro s l x1 x2 x3 x4 h0 h1 h2 h3 h4 r e
    rw [f60_35] at e
    refine r_iload (pc := 35) p60 k60_35 h4 ?_
    refine r_iload_n (pc := 37) p60 k60_37 h3 ?_
    refine r_ic_ge (pc := 38) p60 k60_38 (fun c => ?_) (fun c => ?_)
    · have e := (if_pos c).symm.trans e
      refine r_iconst (pc := 70) p60 k60_70 (v := (1 : Int32)) rfl ?_
      obtain rfl := Option.some.inj e
      exact r_retZ (pc := 71) p60 k60_71 rfl (Or.inr rfl)
    · have e := (if_neg c).symm.trans e
      refine r_aload_n (pc := 41) p60 k60_41 h0 ?_
      refine c_get (i := 2) rfl (pc := 42) p60 k60_42 rfl rfl (v := .ref (s.2.1 2 1)) rfl ?_
      refine r_iload_n (pc := 45) p60 k60_45 h1 ?_
      refine r_iload (pc := 46) p60 k60_46 h4 ?_
      refine r_iadd (pc := 48) p60 k60_48 ?_
      obtain ⟨c, e⟩ := of_if e
      refine c_bld (pc := 49) p60 k60_49 c ?_
      refine r_aload_n (pc := 50) p60 k60_50 h0 ?_
      refine c_get (i := 2) rfl (pc := 51) p60 k60_51 rfl rfl (v := .ref (s.2.1 2 1)) rfl ?_
      refine r_iload_n (pc := 54) p60 k60_54 h2 ?_
      refine r_iload (pc := 55) p60 k60_55 h4 ?_
      refine r_iadd (pc := 57) p60 k60_57 ?_
      obtain ⟨c, e⟩ := of_if e
      refine c_bld (pc := 58) p60 k60_58 c ?_
      refine r_ic_eq (pc := 59) p60 k60_59 (fun c => ?_) (fun c => ?_)
      · have e := (if_pos c).symm.trans e
        refine r_iinc (pc := 64) p60 k60_64 h4 (by decide) (v := (x4 + (1 : Int32))) rfl (fun l g h4 => ?_)
        have h0 := g 0 _ (by decide) h0 (Or.inl rfl)
        have h1 := g 1 _ (by decide) h1 (Or.inl rfl)
        have h2 := g 2 _ (by decide) h2 (Or.inl rfl)
        have h3 := g 3 _ (by decide) h3 (Or.inl rfl)
        refine r_goto (pc := 67) p60 k60_67 ?_
        exact ih s l x1 x2 x3 (x4 + (1 : Int32)) h0 h1 h2 h3 h4 r e
      · have e := (if_neg c).symm.trans e
        refine r_iconst (pc := 62) p60 k60_62 (v := (0 : Int32)) rfl ?_
        obtain rfl := Option.some.inj e
        exact r_retZ (pc := 63) p60 k60_63 rfl (Or.inl rfl)
def f60 (s : cS) (x1 : Int32) (x2 : Int32) (x3 : Int32) : Option Int32 := (if x1 < 0 then some (0 : Int32) else (if x2 < 0 then some (0 : Int32) else if cA s 0 (s.2.1 2 1) then (if (Int32.ofNat (cl s (s.2.1 2 1))) < (x1 + x3) then some (0 : Int32) else if cA s 0 (s.2.1 2 1) then (if (x2 + x3) ≤ (Int32.ofNat (cl s (s.2.1 2 1))) then f60_35 mm_U s x1 x2 x3 (0 : Int32) else some (0 : Int32)) else none) else none))
theorem t60 {d : Nat} {Z : Nat → ab_C} (s : cS) (x1 : Int32) (x2 : Int32) (x3 : Int32) (r : Int32) (e : f60 s x1 x2 x3 = some r) : ab_Rn d 60 0 (lv_args 0 [.ref 2, .int x1, .int x2, .int x3]) [] (ch s Z) (.inl (some (.int r))) (ch s Z) := by
  unfold f60 at e
  obtain ⟨l, hl⟩ : ∃ l, l = (lv_args 0 [.ref 2, .int x1, .int x2, .int x3]) := ⟨_, rfl⟩
  rw [← hl]
  have h0 : ab_get l 0 = some (.ref 2) := by rw [hl]; rfl
  have h1 : ab_get l 1 = some (.int x1) := by rw [hl]; rfl
  have h2 : ab_get l 2 = some (.int x2) := by rw [hl]; rfl
  have h3 : ab_get l 3 = some (.int x3) := by rw [hl]; rfl
  refine r_iload_n (pc := 0) p60 k60_0 h1 ?_
  refine r_if_lt (pc := 1) p60 k60_1 (fun c => ?_) (fun c => ?_)
  · have e := (if_pos c).symm.trans e
    refine r_iconst (pc := 30) p60 k60_30 (v := (0 : Int32)) rfl ?_
    obtain rfl := Option.some.inj e
    exact r_retZ (pc := 31) p60 k60_31 rfl (Or.inl rfl)
  · have e := (if_neg c).symm.trans e
    refine r_iload_n (pc := 4) p60 k60_4 h2 ?_
    refine r_if_lt (pc := 5) p60 k60_5 (fun c => ?_) (fun c => ?_)
    · have e := (if_pos c).symm.trans e
      refine r_iconst (pc := 30) p60 k60_30 (v := (0 : Int32)) rfl ?_
      obtain rfl := Option.some.inj e
      exact r_retZ (pc := 31) p60 k60_31 rfl (Or.inl rfl)
    · have e := (if_neg c).symm.trans e
      refine r_iload_n (pc := 8) p60 k60_8 h1 ?_
      refine r_iload_n (pc := 9) p60 k60_9 h3 ?_
      refine r_iadd (pc := 10) p60 k60_10 ?_
      refine r_aload_n (pc := 11) p60 k60_11 h0 ?_
      refine c_get (i := 2) rfl (pc := 12) p60 k60_12 rfl rfl (v := .ref (s.2.1 2 1)) rfl ?_
      obtain ⟨c, e⟩ := of_if e
      refine c_alen (pc := 15) p60 k60_15 (t := 0) rfl c ?_
      refine r_ic_gt (pc := 16) p60 k60_16 (fun c => ?_) (fun c => ?_)
      · have e := (if_pos c).symm.trans e
        refine r_iconst (pc := 30) p60 k60_30 (v := (0 : Int32)) rfl ?_
        obtain rfl := Option.some.inj e
        exact r_retZ (pc := 31) p60 k60_31 rfl (Or.inl rfl)
      · have e := (if_neg c).symm.trans e
        refine r_iload_n (pc := 19) p60 k60_19 h2 ?_
        refine r_iload_n (pc := 20) p60 k60_20 h3 ?_
        refine r_iadd (pc := 21) p60 k60_21 ?_
        refine r_aload_n (pc := 22) p60 k60_22 h0 ?_
        refine c_get (i := 2) rfl (pc := 23) p60 k60_23 rfl rfl (v := .ref (s.2.1 2 1)) rfl ?_
        obtain ⟨c, e⟩ := of_if e
        refine c_alen (pc := 26) p60 k60_26 (t := 0) rfl c ?_
        refine r_ic_le (pc := 27) p60 k60_27 (fun c => ?_) (fun c => ?_)
        · have e := (if_pos c).symm.trans e
          refine r_iconst (pc := 32) p60 k60_32 (v := (0 : Int32)) rfl ?_
          refine r_istore (pc := 33) p60 k60_33 (by decide) (fun l g h4 => ?_)
          have h0 := g 0 _ (by decide) h0 (Or.inl rfl)
          have h1 := g 1 _ (by decide) h1 (Or.inl rfl)
          have h2 := g 2 _ (by decide) h2 (Or.inl rfl)
          have h3 := g 3 _ (by decide) h3 (Or.inl rfl)
          exact t60_35 mm_U s l x1 x2 x3 (0 : Int32) h0 h1 h2 h3 h4 r e
        · have e := (if_neg c).symm.trans e
          refine r_iconst (pc := 30) p60 k60_30 (v := (0 : Int32)) rfl ?_
          obtain rfl := Option.some.inj e
          exact r_retZ (pc := 31) p60 k60_31 rfl (Or.inl rfl)

theorem p58 : ab_prog[58]? = some (ab_m58, ab_c58) := rfl
theorem k58_0 : ab_fetch ab_c58 0 = some (.aload_n 0, 1, 0, 0) := rfl
theorem k58_1 : ab_fetch ab_c58 1 = some (.getfield 15, 3, 3, 2) := rfl
theorem k58_4 : ab_fetch ab_c58 4 = some (.aload_n 0, 1, 0, 0) := rfl
theorem k58_5 : ab_fetch ab_c58 5 = some (.iload_n 1, 1, 0, 0) := rfl
theorem k58_6 : ab_fetch ab_c58 6 = some (.iload_n 2, 1, 0, 0) := rfl
theorem k58_7 : ab_fetch ab_c58 7 = some (.invokevirtual 47, 3, 59, 2) := rfl
theorem k58_10 : ab_fetch ab_c58 10 = some (.iaload, 1, 0, 0) := rfl
theorem k58_11 : ab_fetch ab_c58 11 = some (.istore_n 3, 1, 0, 0) := rfl
theorem k58_12 : ab_fetch ab_c58 12 = some (.iconst 0, 1, 0, 0) := rfl
theorem k58_13 : ab_fetch ab_c58 13 = some (.istore 4, 2, 0, 0) := rfl
theorem k58_15 : ab_fetch ab_c58 15 = some (.iload 4, 2, 0, 0) := rfl
theorem k58_17 : ab_fetch ab_c58 17 = some (.aload_n 0, 1, 0, 0) := rfl
theorem k58_18 : ab_fetch ab_c58 18 = some (.getfield 37, 3, 3, 0) := rfl
theorem k58_21 : ab_fetch ab_c58 21 = some (.if_icmp .ge 55, 3, 76, 0) := rfl
theorem k58_24 : ab_fetch ab_c58 24 = some (.iload_n 3, 1, 0, 0) := rfl
theorem k58_25 : ab_fetch ab_c58 25 = some (.ifCond .lt 51, 3, 76, 0) := rfl
theorem k58_28 : ab_fetch ab_c58 28 = some (.iload_n 3, 1, 0, 0) := rfl
theorem k58_29 : ab_fetch ab_c58 29 = some (.aload_n 0, 1, 0, 0) := rfl
theorem k58_30 : ab_fetch ab_c58 30 = some (.getfield 37, 3, 3, 0) := rfl
theorem k58_33 : ab_fetch ab_c58 33 = some (.if_icmp .ge 43, 3, 76, 0) := rfl
theorem k58_36 : ab_fetch ab_c58 36 = some (.aload_n 0, 1, 0, 0) := rfl
theorem k58_37 : ab_fetch ab_c58 37 = some (.getfield 25, 3, 3, 5) := rfl
theorem k58_40 : ab_fetch ab_c58 40 = some (.iload_n 3, 1, 0, 0) := rfl
theorem k58_41 : ab_fetch ab_c58 41 = some (.iaload, 1, 0, 0) := rfl
theorem k58_42 : ab_fetch ab_c58 42 = some (.iload_n 2, 1, 0, 0) := rfl
theorem k58_43 : ab_fetch ab_c58 43 = some (.if_icmp .ne 20, 3, 63, 0) := rfl
theorem k58_46 : ab_fetch ab_c58 46 = some (.aload_n 0, 1, 0, 0) := rfl
theorem k58_47 : ab_fetch ab_c58 47 = some (.aload_n 0, 1, 0, 0) := rfl
theorem k58_48 : ab_fetch ab_c58 48 = some (.getfield 22, 3, 3, 4) := rfl
theorem k58_51 : ab_fetch ab_c58 51 = some (.iload_n 3, 1, 0, 0) := rfl
theorem k58_52 : ab_fetch ab_c58 52 = some (.iaload, 1, 0, 0) := rfl
theorem k58_53 : ab_fetch ab_c58 53 = some (.iload_n 1, 1, 0, 0) := rfl
theorem k58_54 : ab_fetch ab_c58 54 = some (.iload_n 2, 1, 0, 0) := rfl
theorem k58_55 : ab_fetch ab_c58 55 = some (.invokevirtual 51, 3, 60, 3) := rfl
theorem k58_58 : ab_fetch ab_c58 58 = some (.ifCond .eq 5, 3, 63, 0) := rfl
theorem k58_61 : ab_fetch ab_c58 61 = some (.iload_n 3, 1, 0, 0) := rfl
theorem k58_62 : ab_fetch ab_c58 62 = some (.ireturn, 1, 0, 0) := rfl
theorem k58_63 : ab_fetch ab_c58 63 = some (.aload_n 0, 1, 0, 0) := rfl
theorem k58_64 : ab_fetch ab_c58 64 = some (.getfield 19, 3, 3, 3) := rfl
theorem k58_67 : ab_fetch ab_c58 67 = some (.iload_n 3, 1, 0, 0) := rfl
theorem k58_68 : ab_fetch ab_c58 68 = some (.iaload, 1, 0, 0) := rfl
theorem k58_69 : ab_fetch ab_c58 69 = some (.istore_n 3, 1, 0, 0) := rfl
theorem k58_70 : ab_fetch ab_c58 70 = some (.iinc 4 1, 3, 0, 0) := rfl
theorem k58_73 : ab_fetch ab_c58 73 = some (.goto (-58), 3, 15, 0) := rfl
theorem k58_76 : ab_fetch ab_c58 76 = some (.iconst (-1), 1, 0, 0) := rfl
theorem k58_77 : ab_fetch ab_c58 77 = some (.ireturn, 1, 0, 0) := rfl
/- CodeSmith$Symbols find(II)I -/
def f58_63 (q15 : cS → Int32 → Int32 → Int32 → Int32 → Option Int32) (s : cS) (x1 : Int32) (x2 : Int32) (x3 : Int32) (x4 : Int32) : Option Int32 := if cB s 1 (s.2.1 2 3) x3 then q15 s x1 x2 (ce s (s.2.1 2 3) x3) (x4 + (1 : Int32)) else none
theorem t58_63 {d : Nat} {Z : Nat → ab_C} (q15 : cS → Int32 → Int32 → Int32 → Int32 → Option Int32) (hq15 : ∀ (s : cS) (l : ab_L) (x1 : Int32) (x2 : Int32) (x3 : Int32) (x4 : Int32) (h0 : ab_get l 0 = some (.ref 2)) (h1 : ab_get l 1 = some (.int x1)) (h2 : ab_get l 2 = some (.int x2)) (h3 : ab_get l 3 = some (.int x3)) (h4 : ab_get l 4 = some (.int x4)) (r : Int32) (e : q15 s x1 x2 x3 x4 = some r), ab_Rn (d + 1) 58 15 l [] (ch s Z) (.inl (some (.int r))) (ch s Z)) : ∀ (s : cS) (l : ab_L) (x1 : Int32) (x2 : Int32) (x3 : Int32) (x4 : Int32) (h0 : ab_get l 0 = some (.ref 2)) (h1 : ab_get l 1 = some (.int x1)) (h2 : ab_get l 2 = some (.int x2)) (h3 : ab_get l 3 = some (.int x3)) (h4 : ab_get l 4 = some (.int x4)) (r : Int32) (e : f58_63 q15 s x1 x2 x3 x4 = some r), ab_Rn (d + 1) 58 63 l [] (ch s Z) (.inl (some (.int r))) (ch s Z) := by
  intro s l x1 x2 x3 x4 h0 h1 h2 h3 h4 r e
  unfold f58_63 at e
  refine r_aload_n (pc := 63) p58 k58_63 h0 ?_
  refine c_get (i := 2) rfl (pc := 64) p58 k58_64 rfl rfl (v := .ref (s.2.1 2 3)) rfl ?_
  refine r_iload_n (pc := 67) p58 k58_67 h3 ?_
  obtain ⟨c, e⟩ := of_if e
  refine c_ild (pc := 68) p58 k58_68 c ?_
  refine r_istore_n (pc := 69) p58 k58_69 (by decide) (fun l g h3 => ?_)
  have h0 := g 0 _ (by decide) h0 (Or.inl rfl)
  have h1 := g 1 _ (by decide) h1 (Or.inl rfl)
  have h2 := g 2 _ (by decide) h2 (Or.inl rfl)
  have h4 := g 4 _ (by decide) h4 (Or.inl rfl)
  refine r_iinc (pc := 70) p58 k58_70 h4 (by decide) (v := (x4 + (1 : Int32))) rfl (fun l g h4 => ?_)
  have h0 := g 0 _ (by decide) h0 (Or.inl rfl)
  have h1 := g 1 _ (by decide) h1 (Or.inl rfl)
  have h2 := g 2 _ (by decide) h2 (Or.inl rfl)
  have h3 := g 3 _ (by decide) h3 (Or.inl rfl)
  refine r_goto (pc := 73) p58 k58_73 ?_
  exact hq15 s l x1 x2 (ce s (s.2.1 2 3) x3) (x4 + (1 : Int32)) h0 h1 h2 h3 h4 r e
def f58_15 : Nat → cS → Int32 → Int32 → Int32 → Int32 → Option Int32
  | 0, _, _, _, _, _ => none
  | u + 1, s, x1, x2, x3, x4 => (if (s.1 2 0) ≤ x4 then some (-1 : Int32) else (if x3 < 0 then some (-1 : Int32) else (if (s.1 2 0) ≤ x3 then some (-1 : Int32) else if cB s 1 (s.2.1 2 5) x3 then (if (ce s (s.2.1 2 5) x3) = x2 then if cB s 1 (s.2.1 2 4) x3 then ((f60 s (ce s (s.2.1 2 4) x3) x1 x2).bind fun r1 => (if r1 = 0 then f58_63 (f58_15 u) s x1 x2 x3 x4 else some x3)) else none else f58_63 (f58_15 u) s x1 x2 x3 x4) else none)))
theorem t58_15 {d : Nat} {Z : Nat → ab_C} : ∀ u : Nat, ∀ (s : cS) (l : ab_L) (x1 : Int32) (x2 : Int32) (x3 : Int32) (x4 : Int32) (h0 : ab_get l 0 = some (.ref 2)) (h1 : ab_get l 1 = some (.int x1)) (h2 : ab_get l 2 = some (.int x2)) (h3 : ab_get l 3 = some (.int x3)) (h4 : ab_get l 4 = some (.int x4)) (r : Int32) (e : f58_15 u s x1 x2 x3 x4 = some r), ab_Rn (d + 1) 58 15 l [] (ch s Z) (.inl (some (.int r))) (ch s Z) := by
  intro u
  induction u with
  | zero => intro s l x1 x2 x3 x4 h0 h1 h2 h3 h4 r e; rw [f58_15] at e; cases e
  | succ u ih =>
    intro s l x1 x2 x3 x4 h0 h1 h2 h3 h4 r e
    rw [f58_15] at e
    refine r_iload (pc := 15) p58 k58_15 h4 ?_
    refine r_aload_n (pc := 17) p58 k58_17 h0 ?_
    refine c_get (i := 2) rfl (pc := 18) p58 k58_18 rfl rfl (v := .int (s.1 2 0)) rfl ?_
    refine r_ic_ge (pc := 21) p58 k58_21 (fun c => ?_) (fun c => ?_)
    · have e := (if_pos c).symm.trans e
      refine r_iconst (pc := 76) p58 k58_76 (v := (-1 : Int32)) rfl ?_
      obtain rfl := Option.some.inj e
      exact r_retI (pc := 77) p58 k58_77 rfl
    · have e := (if_neg c).symm.trans e
      refine r_iload_n (pc := 24) p58 k58_24 h3 ?_
      refine r_if_lt (pc := 25) p58 k58_25 (fun c => ?_) (fun c => ?_)
      · have e := (if_pos c).symm.trans e
        refine r_iconst (pc := 76) p58 k58_76 (v := (-1 : Int32)) rfl ?_
        obtain rfl := Option.some.inj e
        exact r_retI (pc := 77) p58 k58_77 rfl
      · have e := (if_neg c).symm.trans e
        refine r_iload_n (pc := 28) p58 k58_28 h3 ?_
        refine r_aload_n (pc := 29) p58 k58_29 h0 ?_
        refine c_get (i := 2) rfl (pc := 30) p58 k58_30 rfl rfl (v := .int (s.1 2 0)) rfl ?_
        refine r_ic_ge (pc := 33) p58 k58_33 (fun c => ?_) (fun c => ?_)
        · have e := (if_pos c).symm.trans e
          refine r_iconst (pc := 76) p58 k58_76 (v := (-1 : Int32)) rfl ?_
          obtain rfl := Option.some.inj e
          exact r_retI (pc := 77) p58 k58_77 rfl
        · have e := (if_neg c).symm.trans e
          refine r_aload_n (pc := 36) p58 k58_36 h0 ?_
          refine c_get (i := 2) rfl (pc := 37) p58 k58_37 rfl rfl (v := .ref (s.2.1 2 5)) rfl ?_
          refine r_iload_n (pc := 40) p58 k58_40 h3 ?_
          obtain ⟨c, e⟩ := of_if e
          refine c_ild (pc := 41) p58 k58_41 c ?_
          refine r_iload_n (pc := 42) p58 k58_42 h2 ?_
          refine r_ic_ne (pc := 43) p58 k58_43 (fun c => ?_) (fun c => ?_)
          · have e := (if_neg c).symm.trans e
            exact t58_63 (f58_15 u) ih s l x1 x2 x3 x4 h0 h1 h2 h3 h4 r e
          · have e := (if_pos c).symm.trans e
            refine r_aload_n (pc := 46) p58 k58_46 h0 ?_
            refine r_aload_n (pc := 47) p58 k58_47 h0 ?_
            refine c_get (i := 2) rfl (pc := 48) p58 k58_48 rfl rfl (v := .ref (s.2.1 2 4)) rfl ?_
            refine r_iload_n (pc := 51) p58 k58_51 h3 ?_
            obtain ⟨c, e⟩ := of_if e
            refine c_ild (pc := 52) p58 k58_52 c ?_
            refine r_iload_n (pc := 53) p58 k58_53 h1 ?_
            refine r_iload_n (pc := 54) p58 k58_54 h2 ?_
            obtain ⟨r1, er1, e⟩ := of_bind e
            refine c_cv (i := 2) rfl (pc := 55) p58 k58_55 rfl p60 (r := []) rfl rfl rfl rfl rfl rfl (t60 s (ce s (s.2.1 2 4) x3) x1 x2 r1 er1) (w := [.int r1]) rfl ?_
            refine r_if_eq (pc := 58) p58 k58_58 (fun c => ?_) (fun c => ?_)
            · have e := (if_pos c).symm.trans e
              exact t58_63 (f58_15 u) ih s l x1 x2 x3 x4 h0 h1 h2 h3 h4 r e
            · have e := (if_neg c).symm.trans e
              refine r_iload_n (pc := 61) p58 k58_61 h3 ?_
              obtain rfl := Option.some.inj e
              exact r_retI (pc := 62) p58 k58_62 rfl
def f58 (s : cS) (x1 : Int32) (x2 : Int32) : Option Int32 := ((f59 s x1 x2).bind fun r1 => if cB s 1 (s.2.1 2 2) r1 then f58_15 mm_U s x1 x2 (ce s (s.2.1 2 2) r1) (0 : Int32) else none)
theorem t58 {d : Nat} {Z : Nat → ab_C} (s : cS) (x1 : Int32) (x2 : Int32) (r : Int32) (e : f58 s x1 x2 = some r) : ab_Rn (d + 1) 58 0 (lv_args 0 [.ref 2, .int x1, .int x2]) [] (ch s Z) (.inl (some (.int r))) (ch s Z) := by
  unfold f58 at e
  obtain ⟨l, hl⟩ : ∃ l, l = (lv_args 0 [.ref 2, .int x1, .int x2]) := ⟨_, rfl⟩
  rw [← hl]
  have h0 : ab_get l 0 = some (.ref 2) := by rw [hl]; rfl
  have h1 : ab_get l 1 = some (.int x1) := by rw [hl]; rfl
  have h2 : ab_get l 2 = some (.int x2) := by rw [hl]; rfl
  refine r_aload_n (pc := 0) p58 k58_0 h0 ?_
  refine c_get (i := 2) rfl (pc := 1) p58 k58_1 rfl rfl (v := .ref (s.2.1 2 2)) rfl ?_
  refine r_aload_n (pc := 4) p58 k58_4 h0 ?_
  refine r_iload_n (pc := 5) p58 k58_5 h1 ?_
  refine r_iload_n (pc := 6) p58 k58_6 h2 ?_
  obtain ⟨r1, er1, e⟩ := of_bind e
  refine c_cv (i := 2) rfl (pc := 7) p58 k58_7 rfl p59 (r := [.ref (s.2.1 2 2)]) rfl rfl rfl rfl rfl rfl (t59 s x1 x2 r1 er1) (w := [.int r1, .ref (s.2.1 2 2)]) rfl ?_
  obtain ⟨c, e⟩ := of_if e
  refine c_ild (pc := 10) p58 k58_10 c ?_
  refine r_istore_n (pc := 11) p58 k58_11 (by decide) (fun l g h3 => ?_)
  have h0 := g 0 _ (by decide) h0 (Or.inl rfl)
  have h1 := g 1 _ (by decide) h1 (Or.inl rfl)
  have h2 := g 2 _ (by decide) h2 (Or.inl rfl)
  refine r_iconst (pc := 12) p58 k58_12 (v := (0 : Int32)) rfl ?_
  refine r_istore (pc := 13) p58 k58_13 (by decide) (fun l g h4 => ?_)
  have h0 := g 0 _ (by decide) h0 (Or.inl rfl)
  have h1 := g 1 _ (by decide) h1 (Or.inl rfl)
  have h2 := g 2 _ (by decide) h2 (Or.inl rfl)
  have h3 := g 3 _ (by decide) h3 (Or.inl rfl)
  exact t58_15 mm_U s l x1 x2 (ce s (s.2.1 2 2) r1) (0 : Int32) h0 h1 h2 h3 h4 r e

theorem p47 : ab_prog[47]? = some (ab_m47, ab_c47) := rfl
theorem k47_0 : ab_fetch ab_c47 0 = some (.aload_n 0, 1, 0, 0) := rfl
theorem k47_1 : ab_fetch ab_c47 1 = some (.getfield 21, 3, 0, 2) := rfl
theorem k47_4 : ab_fetch ab_c47 4 = some (.iload_n 1, 1, 0, 0) := rfl
theorem k47_5 : ab_fetch ab_c47 5 = some (.iload_n 2, 1, 0, 0) := rfl
theorem k47_6 : ab_fetch ab_c47 6 = some (.invokevirtual 173, 3, 48, 2) := rfl
theorem k47_9 : ab_fetch ab_c47 9 = some (.iconst (-1), 1, 0, 0) := rfl
theorem k47_10 : ab_fetch ab_c47 10 = some (.if_icmp .ne 16, 3, 26, 0) := rfl
theorem k47_13 : ab_fetch ab_c47 13 = some (.aload_n 0, 1, 0, 0) := rfl
theorem k47_14 : ab_fetch ab_c47 14 = some (.getfield 25, 3, 0, 3) := rfl
theorem k47_17 : ab_fetch ab_c47 17 = some (.iload_n 1, 1, 0, 0) := rfl
theorem k47_18 : ab_fetch ab_c47 18 = some (.iload_n 2, 1, 0, 0) := rfl
theorem k47_19 : ab_fetch ab_c47 19 = some (.invokevirtual 176, 3, 58, 2) := rfl
theorem k47_22 : ab_fetch ab_c47 22 = some (.iconst (-1), 1, 0, 0) := rfl
theorem k47_23 : ab_fetch ab_c47 23 = some (.if_icmp .eq 12, 3, 35, 0) := rfl
theorem k47_26 : ab_fetch ab_c47 26 = some (.aload_n 0, 1, 0, 0) := rfl
theorem k47_27 : ab_fetch ab_c47 27 = some (.getfield 21, 3, 0, 2) := rfl
theorem k47_30 : ab_fetch ab_c47 30 = some (.iload_n 1, 1, 0, 0) := rfl
theorem k47_31 : ab_fetch ab_c47 31 = some (.iconst 2, 1, 0, 0) := rfl
theorem k47_32 : ab_fetch ab_c47 32 = some (.invokevirtual 106, 3, 46, 2) := rfl
theorem k47_35 : ab_fetch ab_c47 35 = some (.return_, 1, 0, 0) := rfl
/- CodeSmith$Assembler checkNew(II)V -/
def f47_26 (s : cS) (x1 : Int32) : Option (cS ⊕ cS) := some (.inr (f46 s x1 (2 : Int32)))
theorem t47_26 {d : Nat} {Z : Nat → ab_C} : ∀ (s : cS) (l : ab_L) (x1 : Int32) (h0 : ab_get l 0 = some (.ref 16)) (h1 : ab_get l 1 = some (.int x1)) (r : cS ⊕ cS) (e : f47_26 s x1 = some r), ab_Rn (d + 7) 47 26 l [] (ch s Z) (oV r) (ch (zV r) Z) := by
  intro s l x1 h0 h1 r e
  unfold f47_26 at e
  refine r_aload_n (pc := 26) p47 k47_26 h0 ?_
  refine c_get (i := 16) rfl (pc := 27) p47 k47_27 rfl rfl (v := .ref 11) rfl ?_
  refine r_iload_n (pc := 30) p47 k47_30 h1 ?_
  refine r_iconst (pc := 31) p47 k47_31 (v := (2 : Int32)) rfl ?_
  cases e
  exact c_cvx (i := 11) rfl (pc := 32) p47 k47_32 rfl p46 (r := []) rfl rfl rfl rfl rfl rfl (t46 s x1 (2 : Int32) _ rfl)
def f47 (s : cS) (x1 : Int32) (x2 : Int32) : Option (cS ⊕ cS) := ((f48 s x1 x2).bind fun r1 => (if r1 = (-1 : Int32) then ((f58 s x1 x2).bind fun r2 => (if r2 = (-1 : Int32) then some (.inl s) else f47_26 s x1)) else f47_26 s x1))
theorem t47 {d : Nat} {Z : Nat → ab_C} (s : cS) (x1 : Int32) (x2 : Int32) (r : cS ⊕ cS) (e : f47 s x1 x2 = some r) : ab_Rn (d + 7) 47 0 (lv_args 0 [.ref 16, .int x1, .int x2]) [] (ch s Z) (oV r) (ch (zV r) Z) := by
  unfold f47 at e
  obtain ⟨l, hl⟩ : ∃ l, l = (lv_args 0 [.ref 16, .int x1, .int x2]) := ⟨_, rfl⟩
  rw [← hl]
  have h0 : ab_get l 0 = some (.ref 16) := by rw [hl]; rfl
  have h1 : ab_get l 1 = some (.int x1) := by rw [hl]; rfl
  have h2 : ab_get l 2 = some (.int x2) := by rw [hl]; rfl
  refine r_aload_n (pc := 0) p47 k47_0 h0 ?_
  refine c_get (i := 16) rfl (pc := 1) p47 k47_1 rfl rfl (v := .ref 11) rfl ?_
  refine r_iload_n (pc := 4) p47 k47_4 h1 ?_
  refine r_iload_n (pc := 5) p47 k47_5 h2 ?_
  obtain ⟨r1, er1, e⟩ := of_bind e
  refine c_cv (i := 11) rfl (pc := 6) p47 k47_6 rfl p48 (r := []) rfl rfl rfl rfl rfl rfl (t48 s x1 x2 r1 er1) (w := [.int r1]) rfl ?_
  refine r_iconst (pc := 9) p47 k47_9 (v := (-1 : Int32)) rfl ?_
  refine r_ic_ne (pc := 10) p47 k47_10 (fun c => ?_) (fun c => ?_)
  · have e := (if_neg c).symm.trans e
    exact t47_26 s l x1 h0 h1 r e
  · have e := (if_pos c).symm.trans e
    refine r_aload_n (pc := 13) p47 k47_13 h0 ?_
    refine c_get (i := 16) rfl (pc := 14) p47 k47_14 rfl rfl (v := .ref 2) rfl ?_
    refine r_iload_n (pc := 17) p47 k47_17 h1 ?_
    refine r_iload_n (pc := 18) p47 k47_18 h2 ?_
    obtain ⟨r2, er2, e⟩ := of_bind e
    refine c_cv (i := 2) rfl (pc := 19) p47 k47_19 rfl p58 (r := []) rfl rfl rfl rfl rfl rfl (t58 s x1 x2 r2 er2) (w := [.int r2]) rfl ?_
    refine r_iconst (pc := 22) p47 k47_22 (v := (-1 : Int32)) rfl ?_
    refine r_ic_eq (pc := 23) p47 k47_23 (fun c => ?_) (fun c => ?_)
    · have e := (if_pos c).symm.trans e
      obtain rfl := Option.some.inj e
      exact r_retV (pc := 35) p47 k47_35 rfl
    · have e := (if_neg c).symm.trans e
      exact t47_26 s l x1 h0 h1 r e

theorem p61 : ab_prog[61]? = some (ab_m61, ab_c61) := rfl
theorem k61_0 : ab_fetch ab_c61 0 = some (.aload_n 0, 1, 0, 0) := rfl
theorem k61_1 : ab_fetch ab_c61 1 = some (.getfield 147, 3, 0, 6) := rfl
theorem k61_4 : ab_fetch ab_c61 4 = some (.ifCond .ne 10, 3, 14, 0) := rfl
theorem k61_7 : ab_fetch ab_c61 7 = some (.aload_n 0, 1, 0, 0) := rfl
theorem k61_8 : ab_fetch ab_c61 8 = some (.getfield 55, 3, 0, 7) := rfl
theorem k61_11 : ab_fetch ab_c61 11 = some (.goto 7, 3, 18, 0) := rfl
theorem k61_14 : ab_fetch ab_c61 14 = some (.aload_n 0, 1, 0, 0) := rfl
theorem k61_15 : ab_fetch ab_c61 15 = some (.getfield 58, 3, 0, 8) := rfl
theorem k61_18 : ab_fetch ab_c61 18 = some (.ireturn, 1, 0, 0) := rfl
/- CodeSmith$Assembler sectionEnd()I -/
def f61 (s : cS) : Int32 := (if (s.1 16 6) = 0 then (s.1 16 7) else (s.1 16 8))
theorem t61 {d : Nat} {Z : Nat → ab_C} (s : cS) (r : Int32) (e : f61 s = r) : ab_Rn d 61 0 (lv_args 0 [.ref 16]) [] (ch s Z) (.inl (some (.int r))) (ch s Z) := by
  unfold f61 at e
  obtain ⟨l, hl⟩ : ∃ l, l = (lv_args 0 [.ref 16]) := ⟨_, rfl⟩
  rw [← hl]
  have h0 : ab_get l 0 = some (.ref 16) := by rw [hl]; rfl
  refine r_aload_n (pc := 0) p61 k61_0 h0 ?_
  refine c_get (i := 16) rfl (pc := 1) p61 k61_1 rfl rfl (v := .int (s.1 16 6)) rfl ?_
  refine r_if_ne (pc := 4) p61 k61_4 (fun c => ?_) (fun c => ?_)
  · have e := (if_neg c).symm.trans e
    refine r_aload_n (pc := 14) p61 k61_14 h0 ?_
    refine c_get (i := 16) rfl (pc := 15) p61 k61_15 rfl rfl (v := .int (s.1 16 8)) rfl ?_
    subst e
    exact r_retI (pc := 18) p61 k61_18 rfl
  · have e := (if_pos c).symm.trans e
    refine r_aload_n (pc := 7) p61 k61_7 h0 ?_
    refine c_get (i := 16) rfl (pc := 8) p61 k61_8 rfl rfl (v := .int (s.1 16 7)) rfl ?_
    refine r_goto (pc := 11) p61 k61_11 ?_
    subst e
    exact r_retI (pc := 18) p61 k61_18 rfl

theorem p64 : ab_prog[64]? = some (ab_m64, ab_c64) := rfl
theorem k64_0 : ab_fetch ab_c64 0 = some (.iload_n 1, 1, 0, 0) := rfl
theorem k64_1 : ab_fetch ab_c64 1 = some (.aload_n 0, 1, 0, 0) := rfl
theorem k64_2 : ab_fetch ab_c64 2 = some (.arraylength, 1, 0, 0) := rfl
theorem k64_3 : ab_fetch ab_c64 3 = some (.if_icmp .ne 11, 3, 14, 0) := rfl
theorem k64_6 : ab_fetch ab_c64 6 = some (.aload_n 0, 1, 0, 0) := rfl
theorem k64_13 : ab_fetch ab_c64 13 = some (.areturn, 1, 0, 0) := rfl
theorem k64_14 : ab_fetch ab_c64 14 = some (.iload_n 1, 1, 0, 0) := rfl
theorem k64_15 : ab_fetch ab_c64 15 = some (.newarray .int, 2, 0, 0) := rfl
theorem k64_17 : ab_fetch ab_c64 17 = some (.astore_n 2, 1, 0, 0) := rfl
theorem k64_18 : ab_fetch ab_c64 18 = some (.aload_n 0, 1, 0, 0) := rfl
theorem k64_19 : ab_fetch ab_c64 19 = some (.iconst 0, 1, 0, 0) := rfl
theorem k64_20 : ab_fetch ab_c64 20 = some (.aload_n 2, 1, 0, 0) := rfl
theorem k64_21 : ab_fetch ab_c64 21 = some (.iconst 0, 1, 0, 0) := rfl
theorem k64_22 : ab_fetch ab_c64 22 = some (.aload_n 0, 1, 0, 0) := rfl
theorem k64_23 : ab_fetch ab_c64 23 = some (.arraylength, 1, 0, 0) := rfl
theorem k64_24 : ab_fetch ab_c64 24 = some (.iload_n 1, 1, 0, 0) := rfl
theorem k64_25 : ab_fetch ab_c64 25 = some (.invokestatic 304, 3, 997, 2) := rfl
theorem k64_28 : ab_fetch ab_c64 28 = some (.invokestatic 150, 3, 999, 5) := rfl
theorem k64_31 : ab_fetch ab_c64 31 = some (.aload_n 2, 1, 0, 0) := rfl
theorem k64_32 : ab_fetch ab_c64 32 = some (.areturn, 1, 0, 0) := rfl
/- java/util/Arrays copyOf([II)[I -/
def f64 (s : cS) (x0 : Nat) (x1 : Int32) : Option (Nat × cS) := if cA s 1 x0 then (if x1 = (Int32.ofNat (cl s x0)) then none else if cN x1 then if cA (cn s 1 x1.toNatClampNeg) 1 x0 then if cY (cn s 1 x1.toNatClampNeg) 1 x0 (0 : Int32) (42 + s.2.2.2) (0 : Int32) (if x1 < (Int32.ofNat (cl (cn s 1 x1.toNatClampNeg) x0)) then x1 else (Int32.ofNat (cl (cn s 1 x1.toNatClampNeg) x0))) then some ((42 + s.2.2.2), (cy (cn s 1 x1.toNatClampNeg) x0 (0 : Int32) (42 + s.2.2.2) (0 : Int32) (if x1 < (Int32.ofNat (cl (cn s 1 x1.toNatClampNeg) x0)) then x1 else (Int32.ofNat (cl (cn s 1 x1.toNatClampNeg) x0))))) else none else none else none) else none
theorem t64 {d : Nat} {Z : Nat → ab_C} (s : cS) (x0 : Nat) (x1 : Int32) (r : Nat × cS) (e : f64 s x0 x1 = some r) : ab_Rn d 64 0 (lv_args 0 [.ref x0, .int x1]) [] (ch s Z) (.inl (some (.ref r.1))) (ch r.2 Z) := by
  unfold f64 at e
  obtain ⟨l, hl⟩ : ∃ l, l = (lv_args 0 [.ref x0, .int x1]) := ⟨_, rfl⟩
  rw [← hl]
  have h0 : ab_get l 0 = some (.ref x0) := by rw [hl]; rfl
  have h1 : ab_get l 1 = some (.int x1) := by rw [hl]; rfl
  refine r_iload_n (pc := 0) p64 k64_0 h1 ?_
  refine r_aload_n (pc := 1) p64 k64_1 h0 ?_
  obtain ⟨c, e⟩ := of_if e
  refine c_alen (pc := 2) p64 k64_2 (t := 1) rfl c ?_
  refine r_ic_ne (pc := 3) p64 k64_3 (fun c => ?_) (fun c => ?_)
  · have e := (if_neg c).symm.trans e
    refine r_iload_n (pc := 14) p64 k64_14 h1 ?_
    obtain ⟨c, e⟩ := of_if e
    refine c_newI (pc := 15) p64 k64_15 c ?_
    refine r_astore_n (pc := 17) p64 k64_17 (by decide) (fun l g h2 => ?_)
    have h0 := g 0 _ (by decide) h0 (Or.inl rfl)
    have h1 := g 1 _ (by decide) h1 (Or.inl rfl)
    refine r_aload_n (pc := 18) p64 k64_18 h0 ?_
    refine r_iconst (pc := 19) p64 k64_19 (v := (0 : Int32)) rfl ?_
    refine r_aload_n (pc := 20) p64 k64_20 h2 ?_
    refine r_iconst (pc := 21) p64 k64_21 (v := (0 : Int32)) rfl ?_
    refine r_aload_n (pc := 22) p64 k64_22 h0 ?_
    obtain ⟨c, e⟩ := of_if e
    refine c_alen (pc := 23) p64 k64_23 (t := 1) rfl c ?_
    refine r_iload_n (pc := 24) p64 k64_24 h1 ?_
    refine r_min (pc := 25) p64 k64_25 rfl ?_
    obtain ⟨c, e⟩ := of_if e
    refine c_cpy (t := 1) (pc := 28) p64 k64_28 rfl rfl c ?_
    refine r_aload_n (pc := 31) p64 k64_31 h2 ?_
    obtain rfl := Option.some.inj e
    exact r_retR (pc := 32) p64 k64_32 rfl
  · have e := (if_pos c).symm.trans e
    refine r_aload_n (pc := 6) p64 k64_6 h0 ?_
    cases e

theorem p63 : ab_prog[63]? = some (ab_m63, ab_c63) := rfl
theorem k63_0 : ab_fetch ab_c63 0 = some (.aload_n 0, 1, 0, 0) := rfl
theorem k63_1 : ab_fetch ab_c63 1 = some (.getfield 22, 3, 3, 4) := rfl
theorem k63_4 : ab_fetch ab_c63 4 = some (.arraylength, 1, 0, 0) := rfl
theorem k63_5 : ab_fetch ab_c63 5 = some (.iconst 2, 1, 0, 0) := rfl
theorem k63_6 : ab_fetch ab_c63 6 = some (.imul, 1, 0, 0) := rfl
theorem k63_7 : ab_fetch ab_c63 7 = some (.istore_n 1, 1, 0, 0) := rfl
theorem k63_8 : ab_fetch ab_c63 8 = some (.aload_n 0, 1, 0, 0) := rfl
theorem k63_9 : ab_fetch ab_c63 9 = some (.aload_n 0, 1, 0, 0) := rfl
theorem k63_10 : ab_fetch ab_c63 10 = some (.getfield 19, 3, 3, 3) := rfl
theorem k63_13 : ab_fetch ab_c63 13 = some (.iload_n 1, 1, 0, 0) := rfl
theorem k63_14 : ab_fetch ab_c63 14 = some (.invokestatic 58, 3, 64, 2) := rfl
theorem k63_17 : ab_fetch ab_c63 17 = some (.putfield 19, 3, 3, 3) := rfl
theorem k63_20 : ab_fetch ab_c63 20 = some (.aload_n 0, 1, 0, 0) := rfl
theorem k63_21 : ab_fetch ab_c63 21 = some (.aload_n 0, 1, 0, 0) := rfl
theorem k63_22 : ab_fetch ab_c63 22 = some (.getfield 22, 3, 3, 4) := rfl
theorem k63_25 : ab_fetch ab_c63 25 = some (.iload_n 1, 1, 0, 0) := rfl
theorem k63_26 : ab_fetch ab_c63 26 = some (.invokestatic 58, 3, 64, 2) := rfl
theorem k63_29 : ab_fetch ab_c63 29 = some (.putfield 22, 3, 3, 4) := rfl
theorem k63_32 : ab_fetch ab_c63 32 = some (.aload_n 0, 1, 0, 0) := rfl
theorem k63_33 : ab_fetch ab_c63 33 = some (.aload_n 0, 1, 0, 0) := rfl
theorem k63_34 : ab_fetch ab_c63 34 = some (.getfield 25, 3, 3, 5) := rfl
theorem k63_37 : ab_fetch ab_c63 37 = some (.iload_n 1, 1, 0, 0) := rfl
theorem k63_38 : ab_fetch ab_c63 38 = some (.invokestatic 58, 3, 64, 2) := rfl
theorem k63_41 : ab_fetch ab_c63 41 = some (.putfield 25, 3, 3, 5) := rfl
theorem k63_44 : ab_fetch ab_c63 44 = some (.aload_n 0, 1, 0, 0) := rfl
theorem k63_45 : ab_fetch ab_c63 45 = some (.aload_n 0, 1, 0, 0) := rfl
theorem k63_46 : ab_fetch ab_c63 46 = some (.getfield 28, 3, 3, 6) := rfl
theorem k63_49 : ab_fetch ab_c63 49 = some (.iload_n 1, 1, 0, 0) := rfl
theorem k63_50 : ab_fetch ab_c63 50 = some (.invokestatic 58, 3, 64, 2) := rfl
theorem k63_53 : ab_fetch ab_c63 53 = some (.putfield 28, 3, 3, 6) := rfl
theorem k63_56 : ab_fetch ab_c63 56 = some (.aload_n 0, 1, 0, 0) := rfl
theorem k63_57 : ab_fetch ab_c63 57 = some (.aload_n 0, 1, 0, 0) := rfl
theorem k63_58 : ab_fetch ab_c63 58 = some (.getfield 31, 3, 3, 7) := rfl
theorem k63_61 : ab_fetch ab_c63 61 = some (.iload_n 1, 1, 0, 0) := rfl
theorem k63_62 : ab_fetch ab_c63 62 = some (.invokestatic 58, 3, 64, 2) := rfl
theorem k63_65 : ab_fetch ab_c63 65 = some (.putfield 31, 3, 3, 7) := rfl
theorem k63_68 : ab_fetch ab_c63 68 = some (.aload_n 0, 1, 0, 0) := rfl
theorem k63_69 : ab_fetch ab_c63 69 = some (.aload_n 0, 1, 0, 0) := rfl
theorem k63_70 : ab_fetch ab_c63 70 = some (.getfield 34, 3, 3, 8) := rfl
theorem k63_73 : ab_fetch ab_c63 73 = some (.iload_n 1, 1, 0, 0) := rfl
theorem k63_74 : ab_fetch ab_c63 74 = some (.invokestatic 58, 3, 64, 2) := rfl
theorem k63_77 : ab_fetch ab_c63 77 = some (.putfield 34, 3, 3, 8) := rfl
theorem k63_80 : ab_fetch ab_c63 80 = some (.return_, 1, 0, 0) := rfl
/- CodeSmith$Symbols grow()V -/
def f63 (s : cS) : Option cS := if cA s 1 (s.2.1 2 4) then ((f64 s (s.2.1 2 3) ((Int32.ofNat (cl s (s.2.1 2 4))) * (2 : Int32))).bind fun r1 => ((f64 (cr r1.2 2 3 r1.1) (r1.2.2.1 2 4) ((Int32.ofNat (cl s (s.2.1 2 4))) * (2 : Int32))).bind fun r2 => ((f64 (cr r2.2 2 4 r2.1) (r2.2.2.1 2 5) ((Int32.ofNat (cl s (s.2.1 2 4))) * (2 : Int32))).bind fun r3 => ((f64 (cr r3.2 2 5 r3.1) (r3.2.2.1 2 6) ((Int32.ofNat (cl s (s.2.1 2 4))) * (2 : Int32))).bind fun r4 => ((f64 (cr r4.2 2 6 r4.1) (r4.2.2.1 2 7) ((Int32.ofNat (cl s (s.2.1 2 4))) * (2 : Int32))).bind fun r5 => ((f64 (cr r5.2 2 7 r5.1) (r5.2.2.1 2 8) ((Int32.ofNat (cl s (s.2.1 2 4))) * (2 : Int32))).bind fun r6 => some (cr r6.2 2 8 r6.1))))))) else none
theorem t63 {d : Nat} {Z : Nat → ab_C} (s : cS) (r : cS) (e : f63 s = some r) : ab_Rn (d + 1) 63 0 (lv_args 0 [.ref 2]) [] (ch s Z) (.inl none) (ch r Z) := by
  unfold f63 at e
  obtain ⟨l, hl⟩ : ∃ l, l = (lv_args 0 [.ref 2]) := ⟨_, rfl⟩
  rw [← hl]
  have h0 : ab_get l 0 = some (.ref 2) := by rw [hl]; rfl
  refine r_aload_n (pc := 0) p63 k63_0 h0 ?_
  refine c_get (i := 2) rfl (pc := 1) p63 k63_1 rfl rfl (v := .ref (s.2.1 2 4)) rfl ?_
  obtain ⟨c, e⟩ := of_if e
  refine c_alen (pc := 4) p63 k63_4 (t := 1) rfl c ?_
  refine r_iconst (pc := 5) p63 k63_5 (v := (2 : Int32)) rfl ?_
  refine r_imul (pc := 6) p63 k63_6 ?_
  refine r_istore_n (pc := 7) p63 k63_7 (by decide) (fun l g h1 => ?_)
  have h0 := g 0 _ (by decide) h0 (Or.inl rfl)
  refine r_aload_n (pc := 8) p63 k63_8 h0 ?_
  refine r_aload_n (pc := 9) p63 k63_9 h0 ?_
  refine c_get (i := 2) rfl (pc := 10) p63 k63_10 rfl rfl (v := .ref (s.2.1 2 3)) rfl ?_
  refine r_iload_n (pc := 13) p63 k63_13 h1 ?_
  obtain ⟨r1, er1, e⟩ := of_bind e
  refine r_csv (pc := 14) p63 k63_14 rfl rfl p64 (r := [.ref 2]) rfl rfl rfl rfl (t64 s (s.2.1 2 3) ((Int32.ofNat (cl s (s.2.1 2 4))) * (2 : Int32)) r1 er1) (w := [.ref r1.1, .ref 2]) rfl ?_
  refine c_putR (i := 2) rfl (pc := 17) p63 k63_17 rfl rfl rfl (cc_r2 _ Z 3 _) (cs2_3 _ _) rfl rfl ?_
  refine r_aload_n (pc := 20) p63 k63_20 h0 ?_
  refine r_aload_n (pc := 21) p63 k63_21 h0 ?_
  refine c_get (i := 2) rfl (pc := 22) p63 k63_22 rfl rfl (v := .ref (r1.2.2.1 2 4)) rfl ?_
  refine r_iload_n (pc := 25) p63 k63_25 h1 ?_
  obtain ⟨r2, er2, e⟩ := of_bind e
  refine r_csv (pc := 26) p63 k63_26 rfl rfl p64 (r := [.ref 2]) rfl rfl rfl rfl (t64 (cr r1.2 2 3 r1.1) (r1.2.2.1 2 4) ((Int32.ofNat (cl s (s.2.1 2 4))) * (2 : Int32)) r2 er2) (w := [.ref r2.1, .ref 2]) rfl ?_
  refine c_putR (i := 2) rfl (pc := 29) p63 k63_29 rfl rfl rfl (cc_r2 _ Z 4 _) (cs2_4 _ _) rfl rfl ?_
  refine r_aload_n (pc := 32) p63 k63_32 h0 ?_
  refine r_aload_n (pc := 33) p63 k63_33 h0 ?_
  refine c_get (i := 2) rfl (pc := 34) p63 k63_34 rfl rfl (v := .ref (r2.2.2.1 2 5)) rfl ?_
  refine r_iload_n (pc := 37) p63 k63_37 h1 ?_
  obtain ⟨r3, er3, e⟩ := of_bind e
  refine r_csv (pc := 38) p63 k63_38 rfl rfl p64 (r := [.ref 2]) rfl rfl rfl rfl (t64 (cr r2.2 2 4 r2.1) (r2.2.2.1 2 5) ((Int32.ofNat (cl s (s.2.1 2 4))) * (2 : Int32)) r3 er3) (w := [.ref r3.1, .ref 2]) rfl ?_
  refine c_putR (i := 2) rfl (pc := 41) p63 k63_41 rfl rfl rfl (cc_r2 _ Z 5 _) (cs2_5 _ _) rfl rfl ?_
  refine r_aload_n (pc := 44) p63 k63_44 h0 ?_
  refine r_aload_n (pc := 45) p63 k63_45 h0 ?_
  refine c_get (i := 2) rfl (pc := 46) p63 k63_46 rfl rfl (v := .ref (r3.2.2.1 2 6)) rfl ?_
  refine r_iload_n (pc := 49) p63 k63_49 h1 ?_
  obtain ⟨r4, er4, e⟩ := of_bind e
  refine r_csv (pc := 50) p63 k63_50 rfl rfl p64 (r := [.ref 2]) rfl rfl rfl rfl (t64 (cr r3.2 2 5 r3.1) (r3.2.2.1 2 6) ((Int32.ofNat (cl s (s.2.1 2 4))) * (2 : Int32)) r4 er4) (w := [.ref r4.1, .ref 2]) rfl ?_
  refine c_putR (i := 2) rfl (pc := 53) p63 k63_53 rfl rfl rfl (cc_r2 _ Z 6 _) (cs2_6 _ _) rfl rfl ?_
  refine r_aload_n (pc := 56) p63 k63_56 h0 ?_
  refine r_aload_n (pc := 57) p63 k63_57 h0 ?_
  refine c_get (i := 2) rfl (pc := 58) p63 k63_58 rfl rfl (v := .ref (r4.2.2.1 2 7)) rfl ?_
  refine r_iload_n (pc := 61) p63 k63_61 h1 ?_
  obtain ⟨r5, er5, e⟩ := of_bind e
  refine r_csv (pc := 62) p63 k63_62 rfl rfl p64 (r := [.ref 2]) rfl rfl rfl rfl (t64 (cr r4.2 2 6 r4.1) (r4.2.2.1 2 7) ((Int32.ofNat (cl s (s.2.1 2 4))) * (2 : Int32)) r5 er5) (w := [.ref r5.1, .ref 2]) rfl ?_
  refine c_putR (i := 2) rfl (pc := 65) p63 k63_65 rfl rfl rfl (cc_r2 _ Z 7 _) (cs2_7 _ _) rfl rfl ?_
  refine r_aload_n (pc := 68) p63 k63_68 h0 ?_
  refine r_aload_n (pc := 69) p63 k63_69 h0 ?_
  refine c_get (i := 2) rfl (pc := 70) p63 k63_70 rfl rfl (v := .ref (r5.2.2.1 2 8)) rfl ?_
  refine r_iload_n (pc := 73) p63 k63_73 h1 ?_
  obtain ⟨r6, er6, e⟩ := of_bind e
  refine r_csv (pc := 74) p63 k63_74 rfl rfl p64 (r := [.ref 2]) rfl rfl rfl rfl (t64 (cr r5.2 2 7 r5.1) (r5.2.2.1 2 8) ((Int32.ofNat (cl s (s.2.1 2 4))) * (2 : Int32)) r6 er6) (w := [.ref r6.1, .ref 2]) rfl ?_
  refine c_putR (i := 2) rfl (pc := 77) p63 k63_77 rfl rfl rfl (cc_r2 _ Z 8 _) (cs2_8 _ _) rfl rfl ?_
  obtain rfl := Option.some.inj e
  exact r_retV (pc := 80) p63 k63_80 rfl

theorem p62 : ab_prog[62]? = some (ab_m62, ab_c62) := rfl
theorem k62_0 : ab_fetch ab_c62 0 = some (.aload_n 0, 1, 0, 0) := rfl
theorem k62_1 : ab_fetch ab_c62 1 = some (.getfield 37, 3, 3, 0) := rfl
theorem k62_4 : ab_fetch ab_c62 4 = some (.aload_n 0, 1, 0, 0) := rfl
theorem k62_5 : ab_fetch ab_c62 5 = some (.getfield 22, 3, 3, 4) := rfl
theorem k62_8 : ab_fetch ab_c62 8 = some (.arraylength, 1, 0, 0) := rfl
theorem k62_9 : ab_fetch ab_c62 9 = some (.if_icmp .lt 7, 3, 16, 0) := rfl
theorem k62_12 : ab_fetch ab_c62 12 = some (.aload_n 0, 1, 0, 0) := rfl
theorem k62_13 : ab_fetch ab_c62 13 = some (.invokevirtual 55, 3, 63, 0) := rfl
theorem k62_16 : ab_fetch ab_c62 16 = some (.aload_n 0, 1, 0, 0) := rfl
theorem k62_17 : ab_fetch ab_c62 17 = some (.iload_n 1, 1, 0, 0) := rfl
theorem k62_18 : ab_fetch ab_c62 18 = some (.iload_n 2, 1, 0, 0) := rfl
theorem k62_19 : ab_fetch ab_c62 19 = some (.invokevirtual 47, 3, 59, 2) := rfl
theorem k62_22 : ab_fetch ab_c62 22 = some (.istore 6, 2, 0, 0) := rfl
theorem k62_24 : ab_fetch ab_c62 24 = some (.aload_n 0, 1, 0, 0) := rfl
theorem k62_25 : ab_fetch ab_c62 25 = some (.getfield 19, 3, 3, 3) := rfl
theorem k62_28 : ab_fetch ab_c62 28 = some (.aload_n 0, 1, 0, 0) := rfl
theorem k62_29 : ab_fetch ab_c62 29 = some (.getfield 37, 3, 3, 0) := rfl
theorem k62_32 : ab_fetch ab_c62 32 = some (.aload_n 0, 1, 0, 0) := rfl
theorem k62_33 : ab_fetch ab_c62 33 = some (.getfield 15, 3, 3, 2) := rfl
theorem k62_36 : ab_fetch ab_c62 36 = some (.iload 6, 2, 0, 0) := rfl
theorem k62_38 : ab_fetch ab_c62 38 = some (.iaload, 1, 0, 0) := rfl
theorem k62_39 : ab_fetch ab_c62 39 = some (.iastore, 1, 0, 0) := rfl
theorem k62_40 : ab_fetch ab_c62 40 = some (.aload_n 0, 1, 0, 0) := rfl
theorem k62_41 : ab_fetch ab_c62 41 = some (.getfield 15, 3, 3, 2) := rfl
theorem k62_44 : ab_fetch ab_c62 44 = some (.iload 6, 2, 0, 0) := rfl
theorem k62_46 : ab_fetch ab_c62 46 = some (.aload_n 0, 1, 0, 0) := rfl
theorem k62_47 : ab_fetch ab_c62 47 = some (.getfield 37, 3, 3, 0) := rfl
theorem k62_50 : ab_fetch ab_c62 50 = some (.iastore, 1, 0, 0) := rfl
theorem k62_51 : ab_fetch ab_c62 51 = some (.aload_n 0, 1, 0, 0) := rfl
theorem k62_52 : ab_fetch ab_c62 52 = some (.getfield 22, 3, 3, 4) := rfl
theorem k62_55 : ab_fetch ab_c62 55 = some (.aload_n 0, 1, 0, 0) := rfl
theorem k62_56 : ab_fetch ab_c62 56 = some (.getfield 37, 3, 3, 0) := rfl
theorem k62_59 : ab_fetch ab_c62 59 = some (.iload_n 1, 1, 0, 0) := rfl
theorem k62_60 : ab_fetch ab_c62 60 = some (.iastore, 1, 0, 0) := rfl
theorem k62_61 : ab_fetch ab_c62 61 = some (.aload_n 0, 1, 0, 0) := rfl
theorem k62_62 : ab_fetch ab_c62 62 = some (.getfield 25, 3, 3, 5) := rfl
theorem k62_65 : ab_fetch ab_c62 65 = some (.aload_n 0, 1, 0, 0) := rfl
theorem k62_66 : ab_fetch ab_c62 66 = some (.getfield 37, 3, 3, 0) := rfl
theorem k62_69 : ab_fetch ab_c62 69 = some (.iload_n 2, 1, 0, 0) := rfl
theorem k62_70 : ab_fetch ab_c62 70 = some (.iastore, 1, 0, 0) := rfl
theorem k62_71 : ab_fetch ab_c62 71 = some (.aload_n 0, 1, 0, 0) := rfl
theorem k62_72 : ab_fetch ab_c62 72 = some (.getfield 28, 3, 3, 6) := rfl
theorem k62_75 : ab_fetch ab_c62 75 = some (.aload_n 0, 1, 0, 0) := rfl
theorem k62_76 : ab_fetch ab_c62 76 = some (.getfield 37, 3, 3, 0) := rfl
theorem k62_79 : ab_fetch ab_c62 79 = some (.iload_n 3, 1, 0, 0) := rfl
theorem k62_80 : ab_fetch ab_c62 80 = some (.iastore, 1, 0, 0) := rfl
theorem k62_81 : ab_fetch ab_c62 81 = some (.aload_n 0, 1, 0, 0) := rfl
theorem k62_82 : ab_fetch ab_c62 82 = some (.getfield 31, 3, 3, 7) := rfl
theorem k62_85 : ab_fetch ab_c62 85 = some (.aload_n 0, 1, 0, 0) := rfl
theorem k62_86 : ab_fetch ab_c62 86 = some (.getfield 37, 3, 3, 0) := rfl
theorem k62_89 : ab_fetch ab_c62 89 = some (.iload 4, 2, 0, 0) := rfl
theorem k62_91 : ab_fetch ab_c62 91 = some (.iastore, 1, 0, 0) := rfl
theorem k62_92 : ab_fetch ab_c62 92 = some (.aload_n 0, 1, 0, 0) := rfl
theorem k62_93 : ab_fetch ab_c62 93 = some (.getfield 34, 3, 3, 8) := rfl
theorem k62_96 : ab_fetch ab_c62 96 = some (.aload_n 0, 1, 0, 0) := rfl
theorem k62_97 : ab_fetch ab_c62 97 = some (.getfield 37, 3, 3, 0) := rfl
theorem k62_100 : ab_fetch ab_c62 100 = some (.iload 5, 2, 0, 0) := rfl
theorem k62_102 : ab_fetch ab_c62 102 = some (.iastore, 1, 0, 0) := rfl
theorem k62_103 : ab_fetch ab_c62 103 = some (.aload_n 0, 1, 0, 0) := rfl
theorem k62_104 : ab_fetch ab_c62 104 = some (.dup, 1, 0, 0) := rfl
theorem k62_105 : ab_fetch ab_c62 105 = some (.getfield 37, 3, 3, 0) := rfl
theorem k62_108 : ab_fetch ab_c62 108 = some (.iconst 1, 1, 0, 0) := rfl
theorem k62_109 : ab_fetch ab_c62 109 = some (.iadd, 1, 0, 0) := rfl
theorem k62_110 : ab_fetch ab_c62 110 = some (.putfield 37, 3, 3, 0) := rfl
theorem k62_113 : ab_fetch ab_c62 113 = some (.return_, 1, 0, 0) := rfl
/- CodeSmith$Symbols add(IIIII)V -/
def f62_16 (s : cS) (x1 : Int32) (x2 : Int32) (x3 : Int32) (x4 : Int32) (x5 : Int32) : Option cS := ((f59 s x1 x2).bind fun r1 => if cB s 1 (s.2.1 2 2) r1 then if cB s 1 (s.2.1 2 3) (s.1 2 0) then if cB (cw s (s.2.1 2 3) (s.1 2 0) (ce s (s.2.1 2 2) r1)) 1 (s.2.1 2 2) r1 then if cB (cw (cw s (s.2.1 2 3) (s.1 2 0) (ce s (s.2.1 2 2) r1)) (s.2.1 2 2) r1 (s.1 2 0)) 1 (s.2.1 2 4) (s.1 2 0) then if cB (cw (cw (cw s (s.2.1 2 3) (s.1 2 0) (ce s (s.2.1 2 2) r1)) (s.2.1 2 2) r1 (s.1 2 0)) (s.2.1 2 4) (s.1 2 0) x1) 1 (s.2.1 2 5) (s.1 2 0) then if cB (cw (cw (cw (cw s (s.2.1 2 3) (s.1 2 0) (ce s (s.2.1 2 2) r1)) (s.2.1 2 2) r1 (s.1 2 0)) (s.2.1 2 4) (s.1 2 0) x1) (s.2.1 2 5) (s.1 2 0) x2) 1 (s.2.1 2 6) (s.1 2 0) then if cB (cw (cw (cw (cw (cw s (s.2.1 2 3) (s.1 2 0) (ce s (s.2.1 2 2) r1)) (s.2.1 2 2) r1 (s.1 2 0)) (s.2.1 2 4) (s.1 2 0) x1) (s.2.1 2 5) (s.1 2 0) x2) (s.2.1 2 6) (s.1 2 0) x3) 1 (s.2.1 2 7) (s.1 2 0) then if cB (cw (cw (cw (cw (cw (cw s (s.2.1 2 3) (s.1 2 0) (ce s (s.2.1 2 2) r1)) (s.2.1 2 2) r1 (s.1 2 0)) (s.2.1 2 4) (s.1 2 0) x1) (s.2.1 2 5) (s.1 2 0) x2) (s.2.1 2 6) (s.1 2 0) x3) (s.2.1 2 7) (s.1 2 0) x4) 1 (s.2.1 2 8) (s.1 2 0) then some (cg (cw (cw (cw (cw (cw (cw (cw s (s.2.1 2 3) (s.1 2 0) (ce s (s.2.1 2 2) r1)) (s.2.1 2 2) r1 (s.1 2 0)) (s.2.1 2 4) (s.1 2 0) x1) (s.2.1 2 5) (s.1 2 0) x2) (s.2.1 2 6) (s.1 2 0) x3) (s.2.1 2 7) (s.1 2 0) x4) (s.2.1 2 8) (s.1 2 0) x5) 2 0 ((s.1 2 0) + (1 : Int32))) else none else none else none else none else none else none else none else none)
theorem t62_16 {d : Nat} {Z : Nat → ab_C} : ∀ (s : cS) (l : ab_L) (x1 : Int32) (x2 : Int32) (x3 : Int32) (x4 : Int32) (x5 : Int32) (h0 : ab_get l 0 = some (.ref 2)) (h1 : ab_get l 1 = some (.int x1)) (h2 : ab_get l 2 = some (.int x2)) (h3 : ab_get l 3 = some (.int x3)) (h4 : ab_get l 4 = some (.int x4)) (h5 : ab_get l 5 = some (.int x5)) (r : cS) (e : f62_16 s x1 x2 x3 x4 x5 = some r), ab_Rn (d + 2) 62 16 l [] (ch s Z) (.inl none) (ch r Z) := by
  intro s l x1 x2 x3 x4 x5 h0 h1 h2 h3 h4 h5 r e
  unfold f62_16 at e
  refine r_aload_n (pc := 16) p62 k62_16 h0 ?_
  refine r_iload_n (pc := 17) p62 k62_17 h1 ?_
  refine r_iload_n (pc := 18) p62 k62_18 h2 ?_
  obtain ⟨r1, er1, e⟩ := of_bind e
  refine c_cv (i := 2) rfl (pc := 19) p62 k62_19 rfl p59 (r := []) rfl rfl rfl rfl rfl rfl (t59 s x1 x2 r1 er1) (w := [.int r1]) rfl ?_
  refine r_istore (pc := 22) p62 k62_22 (by decide) (fun l g h6 => ?_)
  have h0 := g 0 _ (by decide) h0 (Or.inl rfl)
  have h1 := g 1 _ (by decide) h1 (Or.inl rfl)
  have h2 := g 2 _ (by decide) h2 (Or.inl rfl)
  have h3 := g 3 _ (by decide) h3 (Or.inl rfl)
  have h4 := g 4 _ (by decide) h4 (Or.inl rfl)
  have h5 := g 5 _ (by decide) h5 (Or.inl rfl)
  refine r_aload_n (pc := 24) p62 k62_24 h0 ?_
  refine c_get (i := 2) rfl (pc := 25) p62 k62_25 rfl rfl (v := .ref (s.2.1 2 3)) rfl ?_
  refine r_aload_n (pc := 28) p62 k62_28 h0 ?_
  refine c_get (i := 2) rfl (pc := 29) p62 k62_29 rfl rfl (v := .int (s.1 2 0)) rfl ?_
  refine r_aload_n (pc := 32) p62 k62_32 h0 ?_
  refine c_get (i := 2) rfl (pc := 33) p62 k62_33 rfl rfl (v := .ref (s.2.1 2 2)) rfl ?_
  refine r_iload (pc := 36) p62 k62_36 h6 ?_
  obtain ⟨c, e⟩ := of_if e
  refine c_ild (pc := 38) p62 k62_38 c ?_
  obtain ⟨c, e⟩ := of_if e
  refine c_ist (pc := 39) p62 k62_39 c ?_
  refine r_aload_n (pc := 40) p62 k62_40 h0 ?_
  refine c_get (i := 2) rfl (pc := 41) p62 k62_41 rfl rfl (v := .ref (s.2.1 2 2)) rfl ?_
  refine r_iload (pc := 44) p62 k62_44 h6 ?_
  refine r_aload_n (pc := 46) p62 k62_46 h0 ?_
  refine c_get (i := 2) rfl (pc := 47) p62 k62_47 rfl rfl (v := .int (s.1 2 0)) rfl ?_
  obtain ⟨c, e⟩ := of_if e
  refine c_ist (pc := 50) p62 k62_50 c ?_
  refine r_aload_n (pc := 51) p62 k62_51 h0 ?_
  refine c_get (i := 2) rfl (pc := 52) p62 k62_52 rfl rfl (v := .ref (s.2.1 2 4)) rfl ?_
  refine r_aload_n (pc := 55) p62 k62_55 h0 ?_
  refine c_get (i := 2) rfl (pc := 56) p62 k62_56 rfl rfl (v := .int (s.1 2 0)) rfl ?_
  refine r_iload_n (pc := 59) p62 k62_59 h1 ?_
  obtain ⟨c, e⟩ := of_if e
  refine c_ist (pc := 60) p62 k62_60 c ?_
  refine r_aload_n (pc := 61) p62 k62_61 h0 ?_
  refine c_get (i := 2) rfl (pc := 62) p62 k62_62 rfl rfl (v := .ref (s.2.1 2 5)) rfl ?_
  refine r_aload_n (pc := 65) p62 k62_65 h0 ?_
  refine c_get (i := 2) rfl (pc := 66) p62 k62_66 rfl rfl (v := .int (s.1 2 0)) rfl ?_
  refine r_iload_n (pc := 69) p62 k62_69 h2 ?_
  obtain ⟨c, e⟩ := of_if e
  refine c_ist (pc := 70) p62 k62_70 c ?_
  refine r_aload_n (pc := 71) p62 k62_71 h0 ?_
  refine c_get (i := 2) rfl (pc := 72) p62 k62_72 rfl rfl (v := .ref (s.2.1 2 6)) rfl ?_
  refine r_aload_n (pc := 75) p62 k62_75 h0 ?_
  refine c_get (i := 2) rfl (pc := 76) p62 k62_76 rfl rfl (v := .int (s.1 2 0)) rfl ?_
  refine r_iload_n (pc := 79) p62 k62_79 h3 ?_
  obtain ⟨c, e⟩ := of_if e
  refine c_ist (pc := 80) p62 k62_80 c ?_
  refine r_aload_n (pc := 81) p62 k62_81 h0 ?_
  refine c_get (i := 2) rfl (pc := 82) p62 k62_82 rfl rfl (v := .ref (s.2.1 2 7)) rfl ?_
  refine r_aload_n (pc := 85) p62 k62_85 h0 ?_
  refine c_get (i := 2) rfl (pc := 86) p62 k62_86 rfl rfl (v := .int (s.1 2 0)) rfl ?_
  refine r_iload (pc := 89) p62 k62_89 h4 ?_
  obtain ⟨c, e⟩ := of_if e
  refine c_ist (pc := 91) p62 k62_91 c ?_
  refine r_aload_n (pc := 92) p62 k62_92 h0 ?_
  refine c_get (i := 2) rfl (pc := 93) p62 k62_93 rfl rfl (v := .ref (s.2.1 2 8)) rfl ?_
  refine r_aload_n (pc := 96) p62 k62_96 h0 ?_
  refine c_get (i := 2) rfl (pc := 97) p62 k62_97 rfl rfl (v := .int (s.1 2 0)) rfl ?_
  refine r_iload (pc := 100) p62 k62_100 h5 ?_
  obtain ⟨c, e⟩ := of_if e
  refine c_ist (pc := 102) p62 k62_102 c ?_
  refine r_aload_n (pc := 103) p62 k62_103 h0 ?_
  refine r_dup (pc := 104) p62 k62_104 rfl ?_
  refine c_get (i := 2) rfl (pc := 105) p62 k62_105 rfl rfl (v := .int (s.1 2 0)) rfl ?_
  refine r_iconst (pc := 108) p62 k62_108 (v := (1 : Int32)) rfl ?_
  refine r_iadd (pc := 109) p62 k62_109 ?_
  refine c_put (i := 2) rfl (pc := 110) p62 k62_110 rfl rfl rfl (cc_g2 _ Z 0 _) (cs2_0 _ _) rfl rfl ?_
  obtain rfl := Option.some.inj e
  exact r_retV (pc := 113) p62 k62_113 rfl
def f62 (s : cS) (x1 : Int32) (x2 : Int32) (x3 : Int32) (x4 : Int32) (x5 : Int32) : Option cS := if cA s 1 (s.2.1 2 4) then (if (s.1 2 0) < (Int32.ofNat (cl s (s.2.1 2 4))) then f62_16 s x1 x2 x3 x4 x5 else ((f63 s).bind fun r1 => f62_16 r1 x1 x2 x3 x4 x5)) else none
theorem t62 {d : Nat} {Z : Nat → ab_C} (s : cS) (x1 : Int32) (x2 : Int32) (x3 : Int32) (x4 : Int32) (x5 : Int32) (r : cS) (e : f62 s x1 x2 x3 x4 x5 = some r) : ab_Rn (d + 2) 62 0 (lv_args 0 [.ref 2, .int x1, .int x2, .int x3, .int x4, .int x5]) [] (ch s Z) (.inl none) (ch r Z) := by
  unfold f62 at e
  obtain ⟨l, hl⟩ : ∃ l, l = (lv_args 0 [.ref 2, .int x1, .int x2, .int x3, .int x4, .int x5]) := ⟨_, rfl⟩
  rw [← hl]
  have h0 : ab_get l 0 = some (.ref 2) := by rw [hl]; rfl
  have h1 : ab_get l 1 = some (.int x1) := by rw [hl]; rfl
  have h2 : ab_get l 2 = some (.int x2) := by rw [hl]; rfl
  have h3 : ab_get l 3 = some (.int x3) := by rw [hl]; rfl
  have h4 : ab_get l 4 = some (.int x4) := by rw [hl]; rfl
  have h5 : ab_get l 5 = some (.int x5) := by rw [hl]; rfl
  refine r_aload_n (pc := 0) p62 k62_0 h0 ?_
  refine c_get (i := 2) rfl (pc := 1) p62 k62_1 rfl rfl (v := .int (s.1 2 0)) rfl ?_
  refine r_aload_n (pc := 4) p62 k62_4 h0 ?_
  refine c_get (i := 2) rfl (pc := 5) p62 k62_5 rfl rfl (v := .ref (s.2.1 2 4)) rfl ?_
  obtain ⟨c, e⟩ := of_if e
  refine c_alen (pc := 8) p62 k62_8 (t := 1) rfl c ?_
  refine r_ic_lt (pc := 9) p62 k62_9 (fun c => ?_) (fun c => ?_)
  · have e := (if_pos c).symm.trans e
    exact t62_16 s l x1 x2 x3 x4 x5 h0 h1 h2 h3 h4 h5 r e
  · have e := (if_neg c).symm.trans e
    refine r_aload_n (pc := 12) p62 k62_12 h0 ?_
    obtain ⟨r1, er1, e⟩ := of_bind e
    refine c_cv (i := 2) rfl (pc := 13) p62 k62_13 rfl p63 (r := []) rfl rfl rfl rfl rfl rfl (t63 s r1 er1) (w := []) rfl ?_
    exact t62_16 r1 l x1 x2 x3 x4 x5 h0 h1 h2 h3 h4 h5 r e

theorem p43 : ab_prog[43]? = some (ab_m43, ab_c43) := rfl
theorem k43_0 : ab_fetch ab_c43 0 = some (.iconst 0, 1, 0, 0) := rfl
theorem k43_1 : ab_fetch ab_c43 1 = some (.istore_n 1, 1, 0, 0) := rfl
theorem k43_2 : ab_fetch ab_c43 2 = some (.iload_n 1, 1, 0, 0) := rfl
theorem k43_3 : ab_fetch ab_c43 3 = some (.ldc 150, 2, 65536, 0) := rfl
theorem k43_5 : ab_fetch ab_c43 5 = some (.if_icmp .ge 127, 3, 132, 0) := rfl
theorem k43_8 : ab_fetch ab_c43 8 = some (.aload_n 0, 1, 0, 0) := rfl
theorem k43_9 : ab_fetch ab_c43 9 = some (.getfield 21, 3, 0, 2) := rfl
theorem k43_12 : ab_fetch ab_c43 12 = some (.getfield 84, 3, 4, 3) := rfl
theorem k43_15 : ab_fetch ab_c43 15 = some (.iconst 1, 1, 0, 0) := rfl
theorem k43_16 : ab_fetch ab_c43 16 = some (.if_icmp .ne 116, 3, 132, 0) := rfl
theorem k43_19 : ab_fetch ab_c43 19 = some (.aload_n 0, 1, 0, 0) := rfl
theorem k43_20 : ab_fetch ab_c43 20 = some (.getfield 21, 3, 0, 2) := rfl
theorem k43_23 : ab_fetch ab_c43 23 = some (.invokevirtual 151, 3, 44, 0) := rfl
theorem k43_26 : ab_fetch ab_c43 26 = some (.bipush 58, 2, 0, 0) := rfl
theorem k43_28 : ab_fetch ab_c43 28 = some (.if_icmp .ne 104, 3, 132, 0) := rfl
theorem k43_31 : ab_fetch ab_c43 31 = some (.aload_n 0, 1, 0, 0) := rfl
theorem k43_32 : ab_fetch ab_c43 32 = some (.getfield 21, 3, 0, 2) := rfl
theorem k43_35 : ab_fetch ab_c43 35 = some (.getfield 89, 3, 4, 4) := rfl
theorem k43_38 : ab_fetch ab_c43 38 = some (.istore_n 2, 1, 0, 0) := rfl
theorem k43_39 : ab_fetch ab_c43 39 = some (.aload_n 0, 1, 0, 0) := rfl
theorem k43_40 : ab_fetch ab_c43 40 = some (.getfield 21, 3, 0, 2) := rfl
theorem k43_43 : ab_fetch ab_c43 43 = some (.getfield 95, 3, 4, 5) := rfl
theorem k43_46 : ab_fetch ab_c43 46 = some (.istore_n 3, 1, 0, 0) := rfl
theorem k43_47 : ab_fetch ab_c43 47 = some (.aload_n 0, 1, 0, 0) := rfl
theorem k43_48 : ab_fetch ab_c43 48 = some (.getfield 21, 3, 0, 2) := rfl
theorem k43_51 : ab_fetch ab_c43 51 = some (.iconst 1, 1, 0, 0) := rfl
theorem k43_52 : ab_fetch ab_c43 52 = some (.invokevirtual 98, 3, 45, 1) := rfl
theorem k43_55 : ab_fetch ab_c43 55 = some (.aload_n 0, 1, 0, 0) := rfl
theorem k43_56 : ab_fetch ab_c43 56 = some (.getfield 21, 3, 0, 2) := rfl
theorem k43_59 : ab_fetch ab_c43 59 = some (.bipush 58, 2, 0, 0) := rfl
theorem k43_61 : ab_fetch ab_c43 61 = some (.invokevirtual 98, 3, 45, 1) := rfl
theorem k43_64 : ab_fetch ab_c43 64 = some (.aload_n 0, 1, 0, 0) := rfl
theorem k43_65 : ab_fetch ab_c43 65 = some (.getfield 43, 3, 0, 5) := rfl
theorem k43_68 : ab_fetch ab_c43 68 = some (.ifCond .ne 58, 3, 126, 0) := rfl
theorem k43_71 : ab_fetch ab_c43 71 = some (.aload_n 0, 1, 0, 0) := rfl
theorem k43_72 : ab_fetch ab_c43 72 = some (.iload_n 2, 1, 0, 0) := rfl
theorem k43_73 : ab_fetch ab_c43 73 = some (.iload_n 3, 1, 0, 0) := rfl
theorem k43_74 : ab_fetch ab_c43 74 = some (.invokevirtual 155, 3, 47, 2) := rfl
theorem k43_77 : ab_fetch ab_c43 77 = some (.aload_n 0, 1, 0, 0) := rfl
theorem k43_78 : ab_fetch ab_c43 78 = some (.getfield 21, 3, 0, 2) := rfl
theorem k43_81 : ab_fetch ab_c43 81 = some (.iload_n 2, 1, 0, 0) := rfl
theorem k43_82 : ab_fetch ab_c43 82 = some (.iload_n 3, 1, 0, 0) := rfl
theorem k43_83 : ab_fetch ab_c43 83 = some (.ldc 158, 2, 3, 1) := rfl
theorem k43_85 : ab_fetch ab_c43 85 = some (.invokevirtual 159, 3, 51, 3) := rfl
theorem k43_88 : ab_fetch ab_c43 88 = some (.ifCond .ne 14, 3, 102, 0) := rfl
theorem k43_91 : ab_fetch ab_c43 91 = some (.aload_n 0, 1, 0, 0) := rfl
theorem k43_92 : ab_fetch ab_c43 92 = some (.aload_n 0, 1, 0, 0) := rfl
theorem k43_93 : ab_fetch ab_c43 93 = some (.getfield 25, 3, 0, 3) := rfl
theorem k43_96 : ab_fetch ab_c43 96 = some (.getfield 72, 3, 3, 0) := rfl
theorem k43_99 : ab_fetch ab_c43 99 = some (.putfield 39, 3, 0, 9) := rfl
theorem k43_102 : ab_fetch ab_c43 102 = some (.aload_n 0, 1, 0, 0) := rfl
theorem k43_103 : ab_fetch ab_c43 103 = some (.getfield 25, 3, 0, 3) := rfl
theorem k43_106 : ab_fetch ab_c43 106 = some (.iload_n 2, 1, 0, 0) := rfl
theorem k43_107 : ab_fetch ab_c43 107 = some (.iload_n 3, 1, 0, 0) := rfl
theorem k43_108 : ab_fetch ab_c43 108 = some (.aload_n 0, 1, 0, 0) := rfl
theorem k43_109 : ab_fetch ab_c43 109 = some (.getfield 147, 3, 0, 6) := rfl
theorem k43_112 : ab_fetch ab_c43 112 = some (.aload_n 0, 1, 0, 0) := rfl
theorem k43_113 : ab_fetch ab_c43 113 = some (.invokevirtual 163, 3, 61, 0) := rfl
theorem k43_116 : ab_fetch ab_c43 116 = some (.aload_n 0, 1, 0, 0) := rfl
theorem k43_117 : ab_fetch ab_c43 117 = some (.getfield 21, 3, 0, 2) := rfl
theorem k43_120 : ab_fetch ab_c43 120 = some (.getfield 166, 3, 4, 6) := rfl
theorem k43_123 : ab_fetch ab_c43 123 = some (.invokevirtual 169, 3, 62, 5) := rfl
theorem k43_126 : ab_fetch ab_c43 126 = some (.iinc 1 1, 3, 0, 0) := rfl
theorem k43_129 : ab_fetch ab_c43 129 = some (.goto (-127), 3, 2, 0) := rfl
theorem k43_132 : ab_fetch ab_c43 132 = some (.return_, 1, 0, 0) := rfl
/- CodeSmith$Assembler readLabels()V -/
def f43_126 (q2 : cS → Int32 → Option (cS ⊕ cS)) (s : cS) (x1 : Int32) : Option (cS ⊕ cS) := q2 s (x1 + (1 : Int32))
theorem t43_126 {d : Nat} {Z : Nat → ab_C} (q2 : cS → Int32 → Option (cS ⊕ cS)) (hq2 : ∀ (s : cS) (l : ab_L) (x1 : Int32) (h0 : ab_get l 0 = some (.ref 16)) (h1 : ab_get l 1 = some (.int x1)) (r : cS ⊕ cS) (e : q2 s x1 = some r), ab_Rn (d + 8) 43 2 l [] (ch s Z) (oV r) (ch (zV r) Z)) : ∀ (s : cS) (l : ab_L) (x1 : Int32) (h0 : ab_get l 0 = some (.ref 16)) (h1 : ab_get l 1 = some (.int x1)) (r : cS ⊕ cS) (e : f43_126 q2 s x1 = some r), ab_Rn (d + 8) 43 126 l [] (ch s Z) (oV r) (ch (zV r) Z) := by
  intro s l x1 h0 h1 r e
  unfold f43_126 at e
  refine r_iinc (pc := 126) p43 k43_126 h1 (by decide) (v := (x1 + (1 : Int32))) rfl (fun l g h1 => ?_)
  have h0 := g 0 _ (by decide) h0 (Or.inl rfl)
  refine r_goto (pc := 129) p43 k43_129 ?_
  exact hq2 s l (x1 + (1 : Int32)) h0 h1 r e
def f43_102 (q2 : cS → Int32 → Option (cS ⊕ cS)) (s : cS) (x1 : Int32) (x2 : Int32) (x3 : Int32) : Option (cS ⊕ cS) := ((f62 s x2 x3 (s.1 16 6) (f61 s) (s.1 11 6)).bind fun r1 => f43_126 q2 r1 x1)
theorem t43_102 {d : Nat} {Z : Nat → ab_C} (q2 : cS → Int32 → Option (cS ⊕ cS)) (hq2 : ∀ (s : cS) (l : ab_L) (x1 : Int32) (h0 : ab_get l 0 = some (.ref 16)) (h1 : ab_get l 1 = some (.int x1)) (r : cS ⊕ cS) (e : q2 s x1 = some r), ab_Rn (d + 8) 43 2 l [] (ch s Z) (oV r) (ch (zV r) Z)) : ∀ (s : cS) (l : ab_L) (x1 : Int32) (x2 : Int32) (x3 : Int32) (h0 : ab_get l 0 = some (.ref 16)) (h1 : ab_get l 1 = some (.int x1)) (h2 : ab_get l 2 = some (.int x2)) (h3 : ab_get l 3 = some (.int x3)) (r : cS ⊕ cS) (e : f43_102 q2 s x1 x2 x3 = some r), ab_Rn (d + 8) 43 102 l [] (ch s Z) (oV r) (ch (zV r) Z) := by
  intro s l x1 x2 x3 h0 h1 h2 h3 r e
  unfold f43_102 at e
  refine r_aload_n (pc := 102) p43 k43_102 h0 ?_
  refine c_get (i := 16) rfl (pc := 103) p43 k43_103 rfl rfl (v := .ref 2) rfl ?_
  refine r_iload_n (pc := 106) p43 k43_106 h2 ?_
  refine r_iload_n (pc := 107) p43 k43_107 h3 ?_
  refine r_aload_n (pc := 108) p43 k43_108 h0 ?_
  refine c_get (i := 16) rfl (pc := 109) p43 k43_109 rfl rfl (v := .int (s.1 16 6)) rfl ?_
  refine r_aload_n (pc := 112) p43 k43_112 h0 ?_
  refine c_cv (i := 16) rfl (pc := 113) p43 k43_113 rfl p61 (r := [.int (s.1 16 6), .int x3, .int x2, .ref 2]) rfl rfl rfl rfl rfl rfl (t61 s _ rfl) (w := [.int (f61 s), .int (s.1 16 6), .int x3, .int x2, .ref 2]) rfl ?_
  refine r_aload_n (pc := 116) p43 k43_116 h0 ?_
  refine c_get (i := 16) rfl (pc := 117) p43 k43_117 rfl rfl (v := .ref 11) rfl ?_
  refine c_get (i := 11) rfl (pc := 120) p43 k43_120 rfl rfl (v := .int (s.1 11 6)) rfl ?_
  obtain ⟨r1, er1, e⟩ := of_bind e
  refine c_cv (i := 2) rfl (pc := 123) p43 k43_123 rfl p62 (r := []) rfl rfl rfl rfl rfl rfl (t62 s x2 x3 (s.1 16 6) (f61 s) (s.1 11 6) r1 er1) (w := []) rfl ?_
  exact t43_126 q2 hq2 r1 l x1 h0 h1 r e
def f43_2 : Nat → cS → Int32 → Option (cS ⊕ cS)
  | 0, _, _ => none
  | u + 1, s, x1 => (if (65536 : Int32) ≤ x1 then some (.inl s) else (if (s.1 11 3) = (1 : Int32) then ((f44 s).bind fun r1 => (if r1 = (58 : Int32) then (tb (f45 s (1 : Int32)) fun r2 => (tb (f45 r2 (58 : Int32)) fun r3 => (if (r3.1 16 5) = 0 then (tb (f47 r3 (s.1 11 4) (s.1 11 5)) fun r4 => ((f51 r4 (s.1 11 4) (s.1 11 5) 3).bind fun r5 => (if r5 = 0 then f43_102 (f43_2 u) (cg r4 16 9 (r4.1 2 0)) x1 (s.1 11 4) (s.1 11 5) else f43_102 (f43_2 u) r4 x1 (s.1 11 4) (s.1 11 5)))) else f43_126 (f43_2 u) r3 x1))) else some (.inl s))) else some (.inl s)))
theorem t43_2 {d : Nat} {Z : Nat → ab_C} : ∀ u : Nat, ∀ (s : cS) (l : ab_L) (x1 : Int32) (h0 : ab_get l 0 = some (.ref 16)) (h1 : ab_get l 1 = some (.int x1)) (r : cS ⊕ cS) (e : f43_2 u s x1 = some r), ab_Rn (d + 8) 43 2 l [] (ch s Z) (oV r) (ch (zV r) Z) := by
  intro u
  induction u with
  | zero => intro s l x1 h0 h1 r e; rw [f43_2] at e; cases e
  | succ u ih =>
    intro s l x1 h0 h1 r e
    rw [f43_2] at e
    refine r_iload_n (pc := 2) p43 k43_2 h1 ?_
    refine r_ldcI (pc := 3) p43 k43_3 (v := (65536 : Int32)) rfl ?_
    refine r_ic_ge (pc := 5) p43 k43_5 (fun c => ?_) (fun c => ?_)
    · have e := (if_pos c).symm.trans e
      obtain rfl := Option.some.inj e
      exact r_retV (pc := 132) p43 k43_132 rfl
    · have e := (if_neg c).symm.trans e
      refine r_aload_n (pc := 8) p43 k43_8 h0 ?_
      refine c_get (i := 16) rfl (pc := 9) p43 k43_9 rfl rfl (v := .ref 11) rfl ?_
      refine c_get (i := 11) rfl (pc := 12) p43 k43_12 rfl rfl (v := .int (s.1 11 3)) rfl ?_
      refine r_iconst (pc := 15) p43 k43_15 (v := (1 : Int32)) rfl ?_
      refine r_ic_ne (pc := 16) p43 k43_16 (fun c => ?_) (fun c => ?_)
      · have e := (if_neg c).symm.trans e
        obtain rfl := Option.some.inj e
        exact r_retV (pc := 132) p43 k43_132 rfl
      · have e := (if_pos c).symm.trans e
        refine r_aload_n (pc := 19) p43 k43_19 h0 ?_
        refine c_get (i := 16) rfl (pc := 20) p43 k43_20 rfl rfl (v := .ref 11) rfl ?_
        obtain ⟨r1, er1, e⟩ := of_bind e
        refine c_cv (i := 11) rfl (pc := 23) p43 k43_23 rfl p44 (r := []) rfl rfl rfl rfl rfl rfl (t44 s r1 er1) (w := [.int r1]) rfl ?_
        refine r_bipush (pc := 26) p43 k43_26 (v := (58 : Int32)) rfl ?_
        refine r_ic_ne (pc := 28) p43 k43_28 (fun c => ?_) (fun c => ?_)
        · have e := (if_neg c).symm.trans e
          obtain rfl := Option.some.inj e
          exact r_retV (pc := 132) p43 k43_132 rfl
        · have e := (if_pos c).symm.trans e
          refine r_aload_n (pc := 31) p43 k43_31 h0 ?_
          refine c_get (i := 16) rfl (pc := 32) p43 k43_32 rfl rfl (v := .ref 11) rfl ?_
          refine c_get (i := 11) rfl (pc := 35) p43 k43_35 rfl rfl (v := .int (s.1 11 4)) rfl ?_
          refine r_istore_n (pc := 38) p43 k43_38 (by decide) (fun l g h2 => ?_)
          have h0 := g 0 _ (by decide) h0 (Or.inl rfl)
          have h1 := g 1 _ (by decide) h1 (Or.inl rfl)
          refine r_aload_n (pc := 39) p43 k43_39 h0 ?_
          refine c_get (i := 16) rfl (pc := 40) p43 k43_40 rfl rfl (v := .ref 11) rfl ?_
          refine c_get (i := 11) rfl (pc := 43) p43 k43_43 rfl rfl (v := .int (s.1 11 5)) rfl ?_
          refine r_istore_n (pc := 46) p43 k43_46 (by decide) (fun l g h3 => ?_)
          have h0 := g 0 _ (by decide) h0 (Or.inl rfl)
          have h1 := g 1 _ (by decide) h1 (Or.inl rfl)
          have h2 := g 2 _ (by decide) h2 (Or.inl rfl)
          refine r_aload_n (pc := 47) p43 k43_47 h0 ?_
          refine c_get (i := 16) rfl (pc := 48) p43 k43_48 rfl rfl (v := .ref 11) rfl ?_
          refine r_iconst (pc := 51) p43 k43_51 (v := (1 : Int32)) rfl ?_
          rcases of_tb e with ⟨r2, er2, e⟩ | ⟨t, et, rfl⟩
          rotate_left
          · exact c_cvx (i := 11) rfl (pc := 52) p43 k43_52 rfl p45 (r := []) rfl rfl rfl rfl rfl rfl (t45 s (1 : Int32) _ et)
          refine c_cv (i := 11) rfl (pc := 52) p43 k43_52 rfl p45 (r := []) rfl rfl rfl rfl rfl rfl (t45 s (1 : Int32) _ er2) (w := []) rfl ?_
          refine r_aload_n (pc := 55) p43 k43_55 h0 ?_
          refine c_get (i := 16) rfl (pc := 56) p43 k43_56 rfl rfl (v := .ref 11) rfl ?_
          refine r_bipush (pc := 59) p43 k43_59 (v := (58 : Int32)) rfl ?_
          rcases of_tb e with ⟨r3, er3, e⟩ | ⟨t, et, rfl⟩
          rotate_left
          · exact c_cvx (i := 11) rfl (pc := 61) p43 k43_61 rfl p45 (r := []) rfl rfl rfl rfl rfl rfl (t45 r2 (58 : Int32) _ et)
          refine c_cv (i := 11) rfl (pc := 61) p43 k43_61 rfl p45 (r := []) rfl rfl rfl rfl rfl rfl (t45 r2 (58 : Int32) _ er3) (w := []) rfl ?_
          refine r_aload_n (pc := 64) p43 k43_64 h0 ?_
          refine c_get (i := 16) rfl (pc := 65) p43 k43_65 rfl rfl (v := .int (r3.1 16 5)) rfl ?_
          refine r_if_ne (pc := 68) p43 k43_68 (fun c => ?_) (fun c => ?_)
          · have e := (if_neg c).symm.trans e
            exact t43_126 (f43_2 u) ih r3 l x1 h0 h1 r e
          · have e := (if_pos c).symm.trans e
            refine r_aload_n (pc := 71) p43 k43_71 h0 ?_
            refine r_iload_n (pc := 72) p43 k43_72 h2 ?_
            refine r_iload_n (pc := 73) p43 k43_73 h3 ?_
            rcases of_tb e with ⟨r4, er4, e⟩ | ⟨t, et, rfl⟩
            rotate_left
            · exact c_cvx (i := 16) rfl (pc := 74) p43 k43_74 rfl p47 (r := []) rfl rfl rfl rfl rfl rfl (t47 r3 (s.1 11 4) (s.1 11 5) _ et)
            refine c_cv (i := 16) rfl (pc := 74) p43 k43_74 rfl p47 (r := []) rfl rfl rfl rfl rfl rfl (t47 r3 (s.1 11 4) (s.1 11 5) _ er4) (w := []) rfl ?_
            refine r_aload_n (pc := 77) p43 k43_77 h0 ?_
            refine c_get (i := 16) rfl (pc := 78) p43 k43_78 rfl rfl (v := .ref 11) rfl ?_
            refine r_iload_n (pc := 81) p43 k43_81 h2 ?_
            refine r_iload_n (pc := 82) p43 k43_82 h3 ?_
            refine r_ldS (pc := 83) p43 k43_83 ?_
            obtain ⟨r5, er5, e⟩ := of_bind e
            refine c_cv (i := 11) rfl (pc := 85) p43 k43_85 rfl p51 (r := []) rfl rfl rfl rfl rfl rfl (t51 r4 (s.1 11 4) (s.1 11 5) 3 r5 er5) (w := [.int r5]) rfl ?_
            refine r_if_ne (pc := 88) p43 k43_88 (fun c => ?_) (fun c => ?_)
            · have e := (if_neg c).symm.trans e
              exact t43_102 (f43_2 u) ih r4 l x1 (s.1 11 4) (s.1 11 5) h0 h1 h2 h3 r e
            · have e := (if_pos c).symm.trans e
              refine r_aload_n (pc := 91) p43 k43_91 h0 ?_
              refine r_aload_n (pc := 92) p43 k43_92 h0 ?_
              refine c_get (i := 16) rfl (pc := 93) p43 k43_93 rfl rfl (v := .ref 2) rfl ?_
              refine c_get (i := 2) rfl (pc := 96) p43 k43_96 rfl rfl (v := .int (r4.1 2 0)) rfl ?_
              refine c_put (i := 16) rfl (pc := 99) p43 k43_99 rfl rfl rfl (cc_g16 _ Z 9 _) (cs16_9 _ _) rfl rfl ?_
              exact t43_102 (f43_2 u) ih (cg r4 16 9 (r4.1 2 0)) l x1 (s.1 11 4) (s.1 11 5) h0 h1 h2 h3 r e
def f43 (s : cS) : Option (cS ⊕ cS) := f43_2 mm_U s (0 : Int32)
theorem t43 {d : Nat} {Z : Nat → ab_C} (s : cS) (r : cS ⊕ cS) (e : f43 s = some r) : ab_Rn (d + 8) 43 0 (lv_args 0 [.ref 16]) [] (ch s Z) (oV r) (ch (zV r) Z) := by
  unfold f43 at e
  obtain ⟨l, hl⟩ : ∃ l, l = (lv_args 0 [.ref 16]) := ⟨_, rfl⟩
  rw [← hl]
  have h0 : ab_get l 0 = some (.ref 16) := by rw [hl]; rfl
  refine r_iconst (pc := 0) p43 k43_0 (v := (0 : Int32)) rfl ?_
  refine r_istore_n (pc := 1) p43 k43_1 (by decide) (fun l g h1 => ?_)
  have h0 := g 0 _ (by decide) h0 (Or.inl rfl)
  exact t43_2 mm_U s l (0 : Int32) h0 h1 r e
