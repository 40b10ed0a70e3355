theorem p109 : ab_prog[109]? = some (ab_m109, ab_c109) := rfl
theorem k109_0 : ab_fetch ab_c109 0 = some (.aload_n 0, 1, 0, 0) := rfl
theorem k109_1 : ab_fetch ab_c109 1 = some (.getfield 300, 3, 6, 3) := rfl
theorem k109_4 : ab_fetch ab_c109 4 = some (.ireturn, 1, 0, 0) := rfl
/- CodeSmithModel thrown()I -/
def f109 (s : mS) : Int32 := (s.1 3)
theorem t109 {d n : Nat} {Z : Nat → ab_C} (hn : 42 ≤ n) (s : mS) (r : Int32) (e : f109 s = r) : ab_Rn d 109 0 (lv_args 0 [.ref 22]) [] (ab_hl n (mm_F s Z)) (.inl (some (.int r))) (ab_hl n (mm_F s Z)) := by
  unfold f109 at e
  obtain ⟨l, hl⟩ : ∃ l, l = (lv_args 0 [.ref 22]) := ⟨_, rfl⟩
  rw [← hl]
  have h0 : ab_get l 0 = some (.ref 22) := by rw [hl]; rfl
  refine r_aload_n (pc := 0) p109 k109_0 h0 ?_
  refine m_get hn (pc := 1) p109 k109_1 (v := .int (s.1 3)) rfl ?_
  subst e
  exact r_retI (pc := 4) p109 k109_4 rfl

theorem p110 : ab_prog[110]? = some (ab_m110, ab_c110) := rfl
theorem k110_0 : ab_fetch ab_c110 0 = some (.aload_n 0, 1, 0, 0) := rfl
theorem k110_1 : ab_fetch ab_c110 1 = some (.iconst 0, 1, 0, 0) := rfl
theorem k110_2 : ab_fetch ab_c110 2 = some (.putfield 300, 3, 6, 3) := rfl
theorem k110_5 : ab_fetch ab_c110 5 = some (.aload_n 0, 1, 0, 0) := rfl
theorem k110_6 : ab_fetch ab_c110 6 = some (.getfield 304, 3, 6, 5) := rfl
theorem k110_9 : ab_fetch ab_c110 9 = some (.bipush 20, 2, 0, 0) := rfl
theorem k110_11 : ab_fetch ab_c110 11 = some (.iadd, 1, 0, 0) := rfl
theorem k110_12 : ab_fetch ab_c110 12 = some (.ldc 252, 2, 65536, 0) := rfl
theorem k110_14 : ab_fetch ab_c110 14 = some (.if_icmp .le 5, 3, 19, 0) := rfl
theorem k110_17 : ab_fetch ab_c110 17 = some (.iconst 0, 1, 0, 0) := rfl
theorem k110_18 : ab_fetch ab_c110 18 = some (.ireturn, 1, 0, 0) := rfl
theorem k110_19 : ab_fetch ab_c110 19 = some (.iconst 0, 1, 0, 0) := rfl
theorem k110_20 : ab_fetch ab_c110 20 = some (.istore 6, 2, 0, 0) := rfl
theorem k110_22 : ab_fetch ab_c110 22 = some (.iload 6, 2, 0, 0) := rfl
theorem k110_24 : ab_fetch ab_c110 24 = some (.bipush 20, 2, 0, 0) := rfl
theorem k110_26 : ab_fetch ab_c110 26 = some (.if_icmp .ge 83, 3, 109, 0) := rfl
theorem k110_29 : ab_fetch ab_c110 29 = some (.iload 6, 2, 0, 0) := rfl
theorem k110_31 : ab_fetch ab_c110 31 = some (.iconst 4, 1, 0, 0) := rfl
theorem k110_32 : ab_fetch ab_c110 32 = some (.if_icmp .ge 7, 3, 39, 0) := rfl
theorem k110_35 : ab_fetch ab_c110 35 = some (.iload_n 1, 1, 0, 0) := rfl
theorem k110_36 : ab_fetch ab_c110 36 = some (.goto 39, 3, 75, 0) := rfl
theorem k110_39 : ab_fetch ab_c110 39 = some (.iload 6, 2, 0, 0) := rfl
theorem k110_41 : ab_fetch ab_c110 41 = some (.bipush 8, 2, 0, 0) := rfl
theorem k110_43 : ab_fetch ab_c110 43 = some (.if_icmp .ge 7, 3, 50, 0) := rfl
theorem k110_46 : ab_fetch ab_c110 46 = some (.iload_n 2, 1, 0, 0) := rfl
theorem k110_47 : ab_fetch ab_c110 47 = some (.goto 28, 3, 75, 0) := rfl
theorem k110_50 : ab_fetch ab_c110 50 = some (.iload 6, 2, 0, 0) := rfl
theorem k110_52 : ab_fetch ab_c110 52 = some (.bipush 12, 2, 0, 0) := rfl
theorem k110_54 : ab_fetch ab_c110 54 = some (.if_icmp .ge 7, 3, 61, 0) := rfl
theorem k110_57 : ab_fetch ab_c110 57 = some (.iload_n 3, 1, 0, 0) := rfl
theorem k110_58 : ab_fetch ab_c110 58 = some (.goto 17, 3, 75, 0) := rfl
theorem k110_61 : ab_fetch ab_c110 61 = some (.iload 6, 2, 0, 0) := rfl
theorem k110_63 : ab_fetch ab_c110 63 = some (.bipush 16, 2, 0, 0) := rfl
theorem k110_65 : ab_fetch ab_c110 65 = some (.if_icmp .ge 8, 3, 73, 0) := rfl
theorem k110_68 : ab_fetch ab_c110 68 = some (.iload 4, 2, 0, 0) := rfl
theorem k110_70 : ab_fetch ab_c110 70 = some (.goto 5, 3, 75, 0) := rfl
theorem k110_73 : ab_fetch ab_c110 73 = some (.iload 5, 2, 0, 0) := rfl
theorem k110_75 : ab_fetch ab_c110 75 = some (.istore 7, 2, 0, 0) := rfl
theorem k110_77 : ab_fetch ab_c110 77 = some (.aload_n 0, 1, 0, 0) := rfl
theorem k110_78 : ab_fetch ab_c110 78 = some (.getfield 253, 3, 6, 4) := rfl
theorem k110_81 : ab_fetch ab_c110 81 = some (.aload_n 0, 1, 0, 0) := rfl
theorem k110_82 : ab_fetch ab_c110 82 = some (.getfield 304, 3, 6, 5) := rfl
theorem k110_85 : ab_fetch ab_c110 85 = some (.iload 6, 2, 0, 0) := rfl
theorem k110_87 : ab_fetch ab_c110 87 = some (.iadd, 1, 0, 0) := rfl
theorem k110_88 : ab_fetch ab_c110 88 = some (.iload 7, 2, 0, 0) := rfl
theorem k110_90 : ab_fetch ab_c110 90 = some (.bipush 24, 2, 0, 0) := rfl
theorem k110_92 : ab_fetch ab_c110 92 = some (.bipush 8, 2, 0, 0) := rfl
theorem k110_94 : ab_fetch ab_c110 94 = some (.iload 6, 2, 0, 0) := rfl
theorem k110_96 : ab_fetch ab_c110 96 = some (.iconst 4, 1, 0, 0) := rfl
theorem k110_97 : ab_fetch ab_c110 97 = some (.irem, 1, 0, 0) := rfl
theorem k110_98 : ab_fetch ab_c110 98 = some (.imul, 1, 0, 0) := rfl
theorem k110_99 : ab_fetch ab_c110 99 = some (.isub, 1, 0, 0) := rfl
theorem k110_100 : ab_fetch ab_c110 100 = some (.ishr, 1, 0, 0) := rfl
theorem k110_101 : ab_fetch ab_c110 101 = some (.i2b, 1, 0, 0) := rfl
theorem k110_102 : ab_fetch ab_c110 102 = some (.bastore, 1, 0, 0) := rfl
theorem k110_103 : ab_fetch ab_c110 103 = some (.iinc 6 1, 3, 0, 0) := rfl
theorem k110_106 : ab_fetch ab_c110 106 = some (.goto (-84), 3, 22, 0) := rfl
theorem k110_109 : ab_fetch ab_c110 109 = some (.aload_n 0, 1, 0, 0) := rfl
theorem k110_110 : ab_fetch ab_c110 110 = some (.dup, 1, 0, 0) := rfl
theorem k110_111 : ab_fetch ab_c110 111 = some (.getfield 304, 3, 6, 5) := rfl
theorem k110_114 : ab_fetch ab_c110 114 = some (.bipush 20, 2, 0, 0) := rfl
theorem k110_116 : ab_fetch ab_c110 116 = some (.iadd, 1, 0, 0) := rfl
theorem k110_117 : ab_fetch ab_c110 117 = some (.putfield 304, 3, 6, 5) := rfl
theorem k110_120 : ab_fetch ab_c110 120 = some (.iconst 1, 1, 0, 0) := rfl
theorem k110_121 : ab_fetch ab_c110 121 = some (.ireturn, 1, 0, 0) := rfl
/- CodeSmithModel feed(IIIII)Z -/
def f110_109 (s : mS) : Option (Int32 × mS) := some ((1 : Int32), (mg s 5 ((s.1 5) + (20 : Int32))))
theorem t110_109 {d n : Nat} {Z : Nat → ab_C} (hn : 42 ≤ n) : ∀ (s : mS) (l : ab_L)  (h0 : ab_get l 0 = some (.ref 22)) (r : Int32 × mS) (e : f110_109 s  = some r), ab_Rn d 110 109 l [] (ab_hl n (mm_F s Z)) (.inl (some (.int r.1))) (ab_hl n (mm_F r.2 Z)) := by
  intro s l h0 r e
  unfold f110_109 at e
  refine r_aload_n (pc := 109) p110 k110_109 h0 ?_
  refine r_dup (pc := 110) p110 k110_110 rfl ?_
  refine m_get hn (pc := 111) p110 k110_111 (v := .int (s.1 5)) rfl ?_
  refine r_bipush (pc := 114) p110 k110_114 (v := (20 : Int32)) rfl ?_
  refine r_iadd (pc := 116) p110 k110_116 ?_
  refine m_put hn (pc := 117) p110 k110_117 rfl rfl rfl rfl ?_
  refine r_iconst (pc := 120) p110 k110_120 (v := (1 : Int32)) rfl ?_
  cases e
  exact r_retZ (pc := 121) p110 k110_121 rfl (Or.inr rfl)
def f110_75 (q22 : mS → Int32 → Int32 → Int32 → Int32 → Int32 → Int32 → Option (Int32 × mS)) (s : mS) (x1 : Int32) (x2 : Int32) (x3 : Int32) (x4 : Int32) (x5 : Int32) (x6 : Int32) (y0 : Int32) : Option (Int32 × mS) := if ib ((s.1 5) + x6) 65536 then q22 (mb s 4 ((s.1 5) + x6) (y0 >>> (((24 : Int32) - ((8 : Int32) * (x6 - x6 / (4 : Int32) * (4 : Int32)))) &&& 31)).toInt8.toInt32.toInt8.toInt32) x1 x2 x3 x4 x5 (x6 + (1 : Int32)) else none
theorem t110_75 {d n : Nat} {Z : Nat → ab_C} (hn : 42 ≤ n) (q22 : mS → Int32 → Int32 → Int32 → Int32 → Int32 → Int32 → Option (Int32 × mS)) (hq22 : ∀ (s : mS) (l : ab_L) (x1 : Int32) (x2 : Int32) (x3 : Int32) (x4 : Int32) (x5 : Int32) (x6 : Int32) (h0 : ab_get l 0 = some (.ref 22)) (h1 : ab_get l 1 = some (.int x1)) (h2 : ab_get l 2 = some (.int x2)) (h3 : ab_get l 3 = some (.int x3)) (h4 : ab_get l 4 = some (.int x4)) (h5 : ab_get l 5 = some (.int x5)) (h6 : ab_get l 6 = some (.int x6)) (r : Int32 × mS) (e : q22 s x1 x2 x3 x4 x5 x6 = some r), ab_Rn d 110 22 l [] (ab_hl n (mm_F s Z)) (.inl (some (.int r.1))) (ab_hl n (mm_F r.2 Z))) : ∀ (s : mS) (l : ab_L) (x1 : Int32) (x2 : Int32) (x3 : Int32) (x4 : Int32) (x5 : Int32) (x6 : Int32) (y0 : Int32) (h0 : ab_get l 0 = some (.ref 22)) (h1 : ab_get l 1 = some (.int x1)) (h2 : ab_get l 2 = some (.int x2)) (h3 : ab_get l 3 = some (.int x3)) (h4 : ab_get l 4 = some (.int x4)) (h5 : ab_get l 5 = some (.int x5)) (h6 : ab_get l 6 = some (.int x6)) (r : Int32 × mS) (e : f110_75 q22 s x1 x2 x3 x4 x5 x6 y0 = some r), ab_Rn d 110 75 l [.int y0] (ab_hl n (mm_F s Z)) (.inl (some (.int r.1))) (ab_hl n (mm_F r.2 Z)) := by
  intro s l x1 x2 x3 x4 x5 x6 y0 h0 h1 h2 h3 h4 h5 h6 r e
  unfold f110_75 at e
  refine r_istore (pc := 75) p110 k110_75 (by decide) (fun l g h7 => ?_)
  have h0 := g 0 _ (by decide) h0 (Or.inl rfl)
  have h1 := g 1 _ (by decide) h1 (Or.inl rfl)
  have h2 := g 2 _ (by decide) h2 (Or.inl rfl)
  have h3 := g 3 _ (by decide) h3 (Or.inl rfl)
  have h4 := g 4 _ (by decide) h4 (Or.inl rfl)
  have h5 := g 5 _ (by decide) h5 (Or.inl rfl)
  have h6 := g 6 _ (by decide) h6 (Or.inl rfl)
  refine r_aload_n (pc := 77) p110 k110_77 h0 ?_
  refine m_get hn (pc := 78) p110 k110_78 (v := .ref 26) rfl ?_
  refine r_aload_n (pc := 81) p110 k110_81 h0 ?_
  refine m_get hn (pc := 82) p110 k110_82 (v := .int (s.1 5)) rfl ?_
  refine r_iload (pc := 85) p110 k110_85 h6 ?_
  refine r_iadd (pc := 87) p110 k110_87 ?_
  refine r_iload (pc := 88) p110 k110_88 h7 ?_
  refine r_bipush (pc := 90) p110 k110_90 (v := (24 : Int32)) rfl ?_
  refine r_bipush (pc := 92) p110 k110_92 (v := (8 : Int32)) rfl ?_
  refine r_iload (pc := 94) p110 k110_94 h6 ?_
  refine r_iconst (pc := 96) p110 k110_96 (v := (4 : Int32)) rfl ?_
  refine r_irem (pc := 97) p110 k110_97 (by decide) ?_
  refine r_imul (pc := 98) p110 k110_98 ?_
  refine r_isub (pc := 99) p110 k110_99 ?_
  refine r_ishr (pc := 100) p110 k110_100 ?_
  refine r_i2b (pc := 101) p110 k110_101 ?_
  obtain ⟨c, e⟩ := of_if e
  refine m_bst hn rfl (pc := 102) p110 k110_102 (k := 4) rfl (mm_arr4 _ Z) c ?_
  refine r_iinc (pc := 103) p110 k110_103 h6 (by decide) (v := (x6 + (1 : Int32))) rfl (fun l g h6 => ?_)
  have h0 := g 0 _ (by decide) h0 (Or.inl rfl)
  have h1 := g 1 _ (by decide) h1 (Or.inl rfl)
  have h2 := g 2 _ (by decide) h2 (Or.inl rfl)
  have h3 := g 3 _ (by decide) h3 (Or.inl rfl)
  have h4 := g 4 _ (by decide) h4 (Or.inl rfl)
  have h5 := g 5 _ (by decide) h5 (Or.inl rfl)
  refine r_goto (pc := 106) p110 k110_106 ?_
  exact hq22 (mb s 4 ((s.1 5) + x6) (y0 >>> (((24 : Int32) - ((8 : Int32) * (x6 - x6 / (4 : Int32) * (4 : Int32)))) &&& 31)).toInt8.toInt32.toInt8.toInt32) l x1 x2 x3 x4 x5 (x6 + (1 : Int32)) h0 h1 h2 h3 h4 h5 h6 r e
def f110_22 : Nat → mS → Int32 → Int32 → Int32 → Int32 → Int32 → Int32 → Option (Int32 × mS)
  | 0, _, _, _, _, _, _, _ => none
  | u + 1, s, x1, x2, x3, x4, x5, x6 => (if (20 : Int32) ≤ x6 then f110_109 s else (if (4 : Int32) ≤ x6 then (if (8 : Int32) ≤ x6 then (if (12 : Int32) ≤ x6 then (if (16 : Int32) ≤ x6 then f110_75 (f110_22 u) s x1 x2 x3 x4 x5 x6 x5 else f110_75 (f110_22 u) s x1 x2 x3 x4 x5 x6 x4) else f110_75 (f110_22 u) s x1 x2 x3 x4 x5 x6 x3) else f110_75 (f110_22 u) s x1 x2 x3 x4 x5 x6 x2) else f110_75 (f110_22 u) s x1 x2 x3 x4 x5 x6 x1))
theorem t110_22 {d n : Nat} {Z : Nat → ab_C} (hn : 42 ≤ n) : ∀ u : Nat, ∀ (s : mS) (l : ab_L) (x1 : Int32) (x2 : Int32) (x3 : Int32) (x4 : Int32) (x5 : Int32) (x6 : Int32) (h0 : ab_get l 0 = some (.ref 22)) (h1 : ab_get l 1 = some (.int x1)) (h2 : ab_get l 2 = some (.int x2)) (h3 : ab_get l 3 = some (.int x3)) (h4 : ab_get l 4 = some (.int x4)) (h5 : ab_get l 5 = some (.int x5)) (h6 : ab_get l 6 = some (.int x6)) (r : Int32 × mS) (e : f110_22 u s x1 x2 x3 x4 x5 x6 = some r), ab_Rn d 110 22 l [] (ab_hl n (mm_F s Z)) (.inl (some (.int r.1))) (ab_hl n (mm_F r.2 Z)) := by
  intro u
  induction u with
  | zero => intro s l x1 x2 x3 x4 x5 x6 h0 h1 h2 h3 h4 h5 h6 r e; rw [f110_22] at e; cases e
  | succ u ih =>
    intro s l x1 x2 x3 x4 x5 x6 h0 h1 h2 h3 h4 h5 h6 r e
    rw [f110_22] at e
    refine r_iload (pc := 22) p110 k110_22 h6 ?_
    refine r_bipush (pc := 24) p110 k110_24 (v := (20 : Int32)) rfl ?_
    refine r_ic_ge (pc := 26) p110 k110_26 (fun c => ?_) (fun c => ?_)
    · have e := (if_pos c).symm.trans e
      exact t110_109 hn s l h0 r e
    · have e := (if_neg c).symm.trans e
      refine r_iload (pc := 29) p110 k110_29 h6 ?_
      refine r_iconst (pc := 31) p110 k110_31 (v := (4 : Int32)) rfl ?_
      refine r_ic_ge (pc := 32) p110 k110_32 (fun c => ?_) (fun c => ?_)
      · have e := (if_pos c).symm.trans e
        refine r_iload (pc := 39) p110 k110_39 h6 ?_
        refine r_bipush (pc := 41) p110 k110_41 (v := (8 : Int32)) rfl ?_
        refine r_ic_ge (pc := 43) p110 k110_43 (fun c => ?_) (fun c => ?_)
        · have e := (if_pos c).symm.trans e
          refine r_iload (pc := 50) p110 k110_50 h6 ?_
          refine r_bipush (pc := 52) p110 k110_52 (v := (12 : Int32)) rfl ?_
          refine r_ic_ge (pc := 54) p110 k110_54 (fun c => ?_) (fun c => ?_)
          · have e := (if_pos c).symm.trans e
            refine r_iload (pc := 61) p110 k110_61 h6 ?_
            refine r_bipush (pc := 63) p110 k110_63 (v := (16 : Int32)) rfl ?_
            refine r_ic_ge (pc := 65) p110 k110_65 (fun c => ?_) (fun c => ?_)
            · have e := (if_pos c).symm.trans e
              refine r_iload (pc := 73) p110 k110_73 h5 ?_
              exact t110_75 hn (f110_22 u) ih s l x1 x2 x3 x4 x5 x6 x5 h0 h1 h2 h3 h4 h5 h6 r e
            · have e := (if_neg c).symm.trans e
              refine r_iload (pc := 68) p110 k110_68 h4 ?_
              refine r_goto (pc := 70) p110 k110_70 ?_
              exact t110_75 hn (f110_22 u) ih s l x1 x2 x3 x4 x5 x6 x4 h0 h1 h2 h3 h4 h5 h6 r e
          · have e := (if_neg c).symm.trans e
            refine r_iload_n (pc := 57) p110 k110_57 h3 ?_
            refine r_goto (pc := 58) p110 k110_58 ?_
            exact t110_75 hn (f110_22 u) ih s l x1 x2 x3 x4 x5 x6 x3 h0 h1 h2 h3 h4 h5 h6 r e
        · have e := (if_neg c).symm.trans e
          refine r_iload_n (pc := 46) p110 k110_46 h2 ?_
          refine r_goto (pc := 47) p110 k110_47 ?_
          exact t110_75 hn (f110_22 u) ih s l x1 x2 x3 x4 x5 x6 x2 h0 h1 h2 h3 h4 h5 h6 r e
      · have e := (if_neg c).symm.trans e
        refine r_iload_n (pc := 35) p110 k110_35 h1 ?_
        refine r_goto (pc := 36) p110 k110_36 ?_
        exact t110_75 hn (f110_22 u) ih s l x1 x2 x3 x4 x5 x6 x1 h0 h1 h2 h3 h4 h5 h6 r e
def f110 (s : mS) (x1 : Int32) (x2 : Int32) (x3 : Int32) (x4 : Int32) (x5 : Int32) : Option (Int32 × mS) := (if ((s.1 5) + (20 : Int32)) ≤ (65536 : Int32) then f110_22 mm_U (mg s 3 (0 : Int32)) x1 x2 x3 x4 x5 (0 : Int32) else some ((0 : Int32), (mg s 3 (0 : Int32))))
theorem t110 {d n : Nat} {Z : Nat → ab_C} (hn : 42 ≤ n) (s : mS) (x1 : Int32) (x2 : Int32) (x3 : Int32) (x4 : Int32) (x5 : Int32) (r : Int32 × mS) (e : f110 s x1 x2 x3 x4 x5 = some r) : ab_Rn d 110 0 (lv_args 0 [.ref 22, .int x1, .int x2, .int x3, .int x4, .int x5]) [] (ab_hl n (mm_F s Z)) (.inl (some (.int r.1))) (ab_hl n (mm_F r.2 Z)) := by
  unfold f110 at e
  obtain ⟨l, hl⟩ : ∃ l, l = (lv_args 0 [.ref 22, .int x1, .int x2, .int x3, .int x4, .int x5]) := ⟨_, rfl⟩
  rw [← hl]
  have h0 : ab_get l 0 = some (.ref 22) := by rw [hl]; rfl
  have h1 : ab_get l 1 = some (.int x1) := by rw [hl]; rfl
  have h2 : ab_get l 2 = some (.int x2) := by rw [hl]; rfl
  have h3 : ab_get l 3 = some (.int x3) := by rw [hl]; rfl
  have h4 : ab_get l 4 = some (.int x4) := by rw [hl]; rfl
  have h5 : ab_get l 5 = some (.int x5) := by rw [hl]; rfl
  refine r_aload_n (pc := 0) p110 k110_0 h0 ?_
  refine r_iconst (pc := 1) p110 k110_1 (v := (0 : Int32)) rfl ?_
  refine m_put hn (pc := 2) p110 k110_2 rfl rfl rfl rfl ?_
  refine r_aload_n (pc := 5) p110 k110_5 h0 ?_
  refine m_get hn (pc := 6) p110 k110_6 (v := .int (s.1 5)) rfl ?_
  refine r_bipush (pc := 9) p110 k110_9 (v := (20 : Int32)) rfl ?_
  refine r_iadd (pc := 11) p110 k110_11 ?_
  refine r_ldcI (pc := 12) p110 k110_12 (v := (65536 : Int32)) rfl ?_
  refine r_ic_le (pc := 14) p110 k110_14 (fun c => ?_) (fun c => ?_)
  · have e := (if_pos c).symm.trans e
    refine r_iconst (pc := 19) p110 k110_19 (v := (0 : Int32)) rfl ?_
    refine r_istore (pc := 20) p110 k110_20 (by decide) (fun l g h6 => ?_)
    have h0 := g 0 _ (by decide) h0 (Or.inl rfl)
    have h1 := g 1 _ (by decide) h1 (Or.inl rfl)
    have h2 := g 2 _ (by decide) h2 (Or.inl rfl)
    have h3 := g 3 _ (by decide) h3 (Or.inl rfl)
    have h4 := g 4 _ (by decide) h4 (Or.inl rfl)
    have h5 := g 5 _ (by decide) h5 (Or.inl rfl)
    exact t110_22 hn mm_U (mg s 3 (0 : Int32)) l x1 x2 x3 x4 x5 (0 : Int32) h0 h1 h2 h3 h4 h5 h6 r e
  · have e := (if_neg c).symm.trans e
    refine r_iconst (pc := 17) p110 k110_17 (v := (0 : Int32)) rfl ?_
    cases e
    exact r_retZ (pc := 18) p110 k110_18 rfl (Or.inl rfl)

theorem p111 : ab_prog[111]? = some (ab_m111, ab_c111) := rfl
theorem k111_0 : ab_fetch ab_c111 0 = some (.aload_n 0, 1, 0, 0) := rfl
theorem k111_1 : ab_fetch ab_c111 1 = some (.iconst 0, 1, 0, 0) := rfl
theorem k111_2 : ab_fetch ab_c111 2 = some (.putfield 300, 3, 6, 3) := rfl
theorem k111_5 : ab_fetch ab_c111 5 = some (.iload_n 1, 1, 0, 0) := rfl
theorem k111_6 : ab_fetch ab_c111 6 = some (.ifCond .lt 11, 3, 17, 0) := rfl
theorem k111_9 : ab_fetch ab_c111 9 = some (.iload_n 1, 1, 0, 0) := rfl
theorem k111_10 : ab_fetch ab_c111 10 = some (.aload_n 0, 1, 0, 0) := rfl
theorem k111_11 : ab_fetch ab_c111 11 = some (.getfield 304, 3, 6, 5) := rfl
theorem k111_14 : ab_fetch ab_c111 14 = some (.if_icmp .le 5, 3, 19, 0) := rfl
theorem k111_17 : ab_fetch ab_c111 17 = some (.iconst 0, 1, 0, 0) := rfl
theorem k111_18 : ab_fetch ab_c111 18 = some (.ireturn, 1, 0, 0) := rfl
theorem k111_19 : ab_fetch ab_c111 19 = some (.aload_n 0, 1, 0, 0) := rfl
theorem k111_20 : ab_fetch ab_c111 20 = some (.iload_n 1, 1, 0, 0) := rfl
theorem k111_21 : ab_fetch ab_c111 21 = some (.putfield 304, 3, 6, 5) := rfl
theorem k111_24 : ab_fetch ab_c111 24 = some (.iconst 1, 1, 0, 0) := rfl
theorem k111_25 : ab_fetch ab_c111 25 = some (.ireturn, 1, 0, 0) := rfl
/- CodeSmithModel end(I)Z -/
def f111 (s : mS) (x1 : Int32) : Option (Int32 × mS) := (if x1 < 0 then some ((0 : Int32), (mg s 3 (0 : Int32))) else (if x1 ≤ (s.1 5) then some ((1 : Int32), (mg (mg s 3 (0 : Int32)) 5 x1)) else some ((0 : Int32), (mg s 3 (0 : Int32)))))
theorem t111 {d n : Nat} {Z : Nat → ab_C} (hn : 42 ≤ n) (s : mS) (x1 : Int32) (r : Int32 × mS) (e : f111 s x1 = some r) : ab_Rn d 111 0 (lv_args 0 [.ref 22, .int x1]) [] (ab_hl n (mm_F s Z)) (.inl (some (.int r.1))) (ab_hl n (mm_F r.2 Z)) := by
  unfold f111 at e
  obtain ⟨l, hl⟩ : ∃ l, l = (lv_args 0 [.ref 22, .int x1]) := ⟨_, rfl⟩
  rw [← hl]
  have h0 : ab_get l 0 = some (.ref 22) := by rw [hl]; rfl
  have h1 : ab_get l 1 = some (.int x1) := by rw [hl]; rfl
  refine r_aload_n (pc := 0) p111 k111_0 h0 ?_
  refine r_iconst (pc := 1) p111 k111_1 (v := (0 : Int32)) rfl ?_
  refine m_put hn (pc := 2) p111 k111_2 rfl rfl rfl rfl ?_
  refine r_iload_n (pc := 5) p111 k111_5 h1 ?_
  refine r_if_lt (pc := 6) p111 k111_6 (fun c => ?_) (fun c => ?_)
  · have e := (if_pos c).symm.trans e
    refine r_iconst (pc := 17) p111 k111_17 (v := (0 : Int32)) rfl ?_
    cases e
    exact r_retZ (pc := 18) p111 k111_18 rfl (Or.inl rfl)
  · have e := (if_neg c).symm.trans e
    refine r_iload_n (pc := 9) p111 k111_9 h1 ?_
    refine r_aload_n (pc := 10) p111 k111_10 h0 ?_
    refine m_get hn (pc := 11) p111 k111_11 (v := .int (s.1 5)) rfl ?_
    refine r_ic_le (pc := 14) p111 k111_14 (fun c => ?_) (fun c => ?_)
    · have e := (if_pos c).symm.trans e
      refine r_aload_n (pc := 19) p111 k111_19 h0 ?_
      refine r_iload_n (pc := 20) p111 k111_20 h1 ?_
      refine m_put hn (pc := 21) p111 k111_21 rfl rfl rfl rfl ?_
      refine r_iconst (pc := 24) p111 k111_24 (v := (1 : Int32)) rfl ?_
      cases e
      exact r_retZ (pc := 25) p111 k111_25 rfl (Or.inr rfl)
    · have e := (if_neg c).symm.trans e
      refine r_iconst (pc := 17) p111 k111_17 (v := (0 : Int32)) rfl ?_
      cases e
      exact r_retZ (pc := 18) p111 k111_18 rfl (Or.inl rfl)

theorem p112 : ab_prog[112]? = some (ab_m112, ab_c112) := rfl
theorem k112_0 : ab_fetch ab_c112 0 = some (.aload_n 0, 1, 0, 0) := rfl
theorem k112_1 : ab_fetch ab_c112 1 = some (.iconst 0, 1, 0, 0) := rfl
theorem k112_2 : ab_fetch ab_c112 2 = some (.putfield 300, 3, 6, 3) := rfl
theorem k112_5 : ab_fetch ab_c112 5 = some (.aload_n 0, 1, 0, 0) := rfl
theorem k112_6 : ab_fetch ab_c112 6 = some (.getfield 304, 3, 6, 5) := rfl
theorem k112_9 : ab_fetch ab_c112 9 = some (.ireturn, 1, 0, 0) := rfl
/- CodeSmithModel size()I -/
def f112 (s : mS) : Option (Int32 × mS) := some ((s.1 5), (mg s 3 (0 : Int32)))
theorem t112 {d n : Nat} {Z : Nat → ab_C} (hn : 42 ≤ n) (s : mS) (r : Int32 × mS) (e : f112 s = some r) : ab_Rn d 112 0 (lv_args 0 [.ref 22]) [] (ab_hl n (mm_F s Z)) (.inl (some (.int r.1))) (ab_hl n (mm_F r.2 Z)) := by
  unfold f112 at e
  obtain ⟨l, hl⟩ : ∃ l, l = (lv_args 0 [.ref 22]) := ⟨_, rfl⟩
  rw [← hl]
  have h0 : ab_get l 0 = some (.ref 22) := by rw [hl]; rfl
  refine r_aload_n (pc := 0) p112 k112_0 h0 ?_
  refine r_iconst (pc := 1) p112 k112_1 (v := (0 : Int32)) rfl ?_
  refine m_put hn (pc := 2) p112 k112_2 rfl rfl rfl rfl ?_
  refine r_aload_n (pc := 5) p112 k112_5 h0 ?_
  refine m_get hn (pc := 6) p112 k112_6 (v := .int (s.1 5)) rfl ?_
  cases e
  exact r_retI (pc := 9) p112 k112_9 rfl

theorem p119 : ab_prog[119]? = some (ab_m119, ab_c119) := rfl
theorem k119_0 : ab_fetch ab_c119 0 = some (.aload_n 0, 1, 0, 0) := rfl
theorem k119_1 : ab_fetch ab_c119 1 = some (.getfield 322, 3, 6, 18) := rfl
theorem k119_4 : ab_fetch ab_c119 4 = some (.iload_n 1, 1, 0, 0) := rfl
theorem k119_5 : ab_fetch ab_c119 5 = some (.iadd, 1, 0, 0) := rfl
theorem k119_6 : ab_fetch ab_c119 6 = some (.aload_n 0, 1, 0, 0) := rfl
theorem k119_7 : ab_fetch ab_c119 7 = some (.getfield 325, 3, 6, 17) := rfl
theorem k119_10 : ab_fetch ab_c119 10 = some (.if_icmp .ge 21, 3, 31, 0) := rfl
theorem k119_13 : ab_fetch ab_c119 13 = some (.aload_n 0, 1, 0, 0) := rfl
theorem k119_14 : ab_fetch ab_c119 14 = some (.getfield 253, 3, 6, 4) := rfl
theorem k119_17 : ab_fetch ab_c119 17 = some (.aload_n 0, 1, 0, 0) := rfl
theorem k119_18 : ab_fetch ab_c119 18 = some (.getfield 322, 3, 6, 18) := rfl
theorem k119_21 : ab_fetch ab_c119 21 = some (.iload_n 1, 1, 0, 0) := rfl
theorem k119_22 : ab_fetch ab_c119 22 = some (.iadd, 1, 0, 0) := rfl
theorem k119_23 : ab_fetch ab_c119 23 = some (.baload, 1, 0, 0) := rfl
theorem k119_24 : ab_fetch ab_c119 24 = some (.sipush 255, 3, 0, 0) := rfl
theorem k119_27 : ab_fetch ab_c119 27 = some (.iand, 1, 0, 0) := rfl
theorem k119_28 : ab_fetch ab_c119 28 = some (.goto 4, 3, 32, 0) := rfl
theorem k119_31 : ab_fetch ab_c119 31 = some (.iconst 0, 1, 0, 0) := rfl
theorem k119_32 : ab_fetch ab_c119 32 = some (.ireturn, 1, 0, 0) := rfl
/- CodeSmithModel here(I)I -/
def f119 (s : mS) (x1 : Int32) : Option Int32 := (if (s.1 17) ≤ ((s.1 18) + x1) then some (0 : Int32) else if ib ((s.1 18) + x1) 65536 then some (((s.2 4) ((s.1 18) + x1).toNatClampNeg) &&& (255 : Int32)) else none)
theorem t119 {d n : Nat} {Z : Nat → ab_C} (hn : 42 ≤ n) (s : mS) (x1 : Int32) (r : Int32) (e : f119 s x1 = some r) : ab_Rn d 119 0 (lv_args 0 [.ref 22, .int x1]) [] (ab_hl n (mm_F s Z)) (.inl (some (.int r))) (ab_hl n (mm_F s Z)) := by
  unfold f119 at e
  obtain ⟨l, hl⟩ : ∃ l, l = (lv_args 0 [.ref 22, .int x1]) := ⟨_, rfl⟩
  rw [← hl]
  have h0 : ab_get l 0 = some (.ref 22) := by rw [hl]; rfl
  have h1 : ab_get l 1 = some (.int x1) := by rw [hl]; rfl
  refine r_aload_n (pc := 0) p119 k119_0 h0 ?_
  refine m_get hn (pc := 1) p119 k119_1 (v := .int (s.1 18)) rfl ?_
  refine r_iload_n (pc := 4) p119 k119_4 h1 ?_
  refine r_iadd (pc := 5) p119 k119_5 ?_
  refine r_aload_n (pc := 6) p119 k119_6 h0 ?_
  refine m_get hn (pc := 7) p119 k119_7 (v := .int (s.1 17)) rfl ?_
  refine r_ic_ge (pc := 10) p119 k119_10 (fun c => ?_) (fun c => ?_)
  · have e := (if_pos c).symm.trans e
    refine r_iconst (pc := 31) p119 k119_31 (v := (0 : Int32)) rfl ?_
    cases e
    exact r_retI (pc := 32) p119 k119_32 rfl
  · have e := (if_neg c).symm.trans e
    refine r_aload_n (pc := 13) p119 k119_13 h0 ?_
    refine m_get hn (pc := 14) p119 k119_14 (v := .ref 26) rfl ?_
    refine r_aload_n (pc := 17) p119 k119_17 h0 ?_
    refine m_get hn (pc := 18) p119 k119_18 (v := .int (s.1 18)) rfl ?_
    refine r_iload_n (pc := 21) p119 k119_21 h1 ?_
    refine r_iadd (pc := 22) p119 k119_22 ?_
    obtain ⟨c, e⟩ := of_if e
    refine r_bald (pc := 23) p119 k119_23 (m_lt hn rfl) (f := (s.2 4)) rfl c ?_
    refine r_sipush (pc := 24) p119 k119_24 (v := (255 : Int32)) rfl ?_
    refine r_iand (pc := 27) p119 k119_27 ?_
    refine r_goto (pc := 28) p119 k119_28 ?_
    cases e
    exact r_retI (pc := 32) p119 k119_32 rfl

theorem p118 : ab_prog[118]? = some (ab_m118, ab_c118) := rfl
theorem k118_0 : ab_fetch ab_c118 0 = some (.aload_n 0, 1, 0, 0) := rfl
theorem k118_1 : ab_fetch ab_c118 1 = some (.iconst 0, 1, 0, 0) := rfl
theorem k118_2 : ab_fetch ab_c118 2 = some (.invokevirtual 335, 3, 119, 1) := rfl
theorem k118_5 : ab_fetch ab_c118 5 = some (.bipush 32, 2, 0, 0) := rfl
theorem k118_7 : ab_fetch ab_c118 7 = some (.if_icmp .eq 23, 3, 30, 0) := rfl
theorem k118_10 : ab_fetch ab_c118 10 = some (.aload_n 0, 1, 0, 0) := rfl
theorem k118_11 : ab_fetch ab_c118 11 = some (.iconst 0, 1, 0, 0) := rfl
theorem k118_12 : ab_fetch ab_c118 12 = some (.invokevirtual 335, 3, 119, 1) := rfl
theorem k118_15 : ab_fetch ab_c118 15 = some (.bipush 9, 2, 0, 0) := rfl
theorem k118_17 : ab_fetch ab_c118 17 = some (.if_icmp .eq 13, 3, 30, 0) := rfl
theorem k118_20 : ab_fetch ab_c118 20 = some (.aload_n 0, 1, 0, 0) := rfl
theorem k118_21 : ab_fetch ab_c118 21 = some (.iconst 0, 1, 0, 0) := rfl
theorem k118_22 : ab_fetch ab_c118 22 = some (.invokevirtual 335, 3, 119, 1) := rfl
theorem k118_25 : ab_fetch ab_c118 25 = some (.bipush 13, 2, 0, 0) := rfl
theorem k118_27 : ab_fetch ab_c118 27 = some (.if_icmp .ne 16, 3, 43, 0) := rfl
theorem k118_30 : ab_fetch ab_c118 30 = some (.aload_n 0, 1, 0, 0) := rfl
theorem k118_31 : ab_fetch ab_c118 31 = some (.dup, 1, 0, 0) := rfl
theorem k118_32 : ab_fetch ab_c118 32 = some (.getfield 322, 3, 6, 18) := rfl
theorem k118_35 : ab_fetch ab_c118 35 = some (.iconst 1, 1, 0, 0) := rfl
theorem k118_36 : ab_fetch ab_c118 36 = some (.iadd, 1, 0, 0) := rfl
theorem k118_37 : ab_fetch ab_c118 37 = some (.putfield 322, 3, 6, 18) := rfl
theorem k118_40 : ab_fetch ab_c118 40 = some (.goto (-40), 3, 0, 0) := rfl
theorem k118_43 : ab_fetch ab_c118 43 = some (.return_, 1, 0, 0) := rfl
/- CodeSmithModel blanks()V -/
def f118_30 (q0 : mS → Option mS) (s : mS) : Option mS := q0 (mg s 18 ((s.1 18) + (1 : Int32)))
theorem t118_30 {d n : Nat} {Z : Nat → ab_C} (hn : 42 ≤ n) (q0 : mS → Option mS) (hq0 : ∀ (s : mS) (l : ab_L)  (h0 : ab_get l 0 = some (.ref 22)) (r : mS) (e : q0 s  = some r), ab_Rn (d + 1) 118 0 l [] (ab_hl n (mm_F s Z)) (.inl none) (ab_hl n (mm_F r Z))) : ∀ (s : mS) (l : ab_L)  (h0 : ab_get l 0 = some (.ref 22)) (r : mS) (e : f118_30 q0 s  = some r), ab_Rn (d + 1) 118 30 l [] (ab_hl n (mm_F s Z)) (.inl none) (ab_hl n (mm_F r Z)) := by
  intro s l h0 r e
  unfold f118_30 at e
  refine r_aload_n (pc := 30) p118 k118_30 h0 ?_
  refine r_dup (pc := 31) p118 k118_31 rfl ?_
  refine m_get hn (pc := 32) p118 k118_32 (v := .int (s.1 18)) rfl ?_
  refine r_iconst (pc := 35) p118 k118_35 (v := (1 : Int32)) rfl ?_
  refine r_iadd (pc := 36) p118 k118_36 ?_
  refine m_put hn (pc := 37) p118 k118_37 rfl rfl rfl rfl ?_
  refine r_goto (pc := 40) p118 k118_40 ?_
  exact hq0 (mg s 18 ((s.1 18) + (1 : Int32))) l h0 r e
def f118_0 : Nat → mS → Option mS
  | 0, _ => none
  | u + 1, s => ((f119 s (0 : Int32)).bind fun r1 => (if r1 = (32 : Int32) then f118_30 (f118_0 u) s else ((f119 s (0 : Int32)).bind fun r2 => (if r2 = (9 : Int32) then f118_30 (f118_0 u) s else ((f119 s (0 : Int32)).bind fun r3 => (if r3 = (13 : Int32) then f118_30 (f118_0 u) s else some s))))))
theorem t118_0 {d n : Nat} {Z : Nat → ab_C} (hn : 42 ≤ n) : ∀ u : Nat, ∀ (s : mS) (l : ab_L)  (h0 : ab_get l 0 = some (.ref 22)) (r : mS) (e : f118_0 u s  = some r), ab_Rn (d + 1) 118 0 l [] (ab_hl n (mm_F s Z)) (.inl none) (ab_hl n (mm_F r Z)) := by
  intro u
  induction u with
  | zero => intro s l h0 r e; rw [f118_0] at e; cases e
  | succ u ih =>
    intro s l h0 r e
    rw [f118_0] at e
    refine r_aload_n (pc := 0) p118 k118_0 h0 ?_
    refine r_iconst (pc := 1) p118 k118_1 (v := (0 : Int32)) rfl ?_
    obtain ⟨r1, er1, e⟩ := of_bind e
    refine m_cv hn (pc := 2) p118 k118_2 rfl p119 (r := []) rfl rfl rfl rfl rfl (t119 hn s (0 : Int32) r1 er1) (w := [.int r1]) rfl ?_
    refine r_bipush (pc := 5) p118 k118_5 (v := (32 : Int32)) rfl ?_
    refine r_ic_eq (pc := 7) p118 k118_7 (fun c => ?_) (fun c => ?_)
    · have e := (if_pos c).symm.trans e
      exact t118_30 hn (f118_0 u) ih s l h0 r e
    · have e := (if_neg c).symm.trans e
      refine r_aload_n (pc := 10) p118 k118_10 h0 ?_
      refine r_iconst (pc := 11) p118 k118_11 (v := (0 : Int32)) rfl ?_
      obtain ⟨r2, er2, e⟩ := of_bind e
      refine m_cv hn (pc := 12) p118 k118_12 rfl p119 (r := []) rfl rfl rfl rfl rfl (t119 hn s (0 : Int32) r2 er2) (w := [.int r2]) rfl ?_
      refine r_bipush (pc := 15) p118 k118_15 (v := (9 : Int32)) rfl ?_
      refine r_ic_eq (pc := 17) p118 k118_17 (fun c => ?_) (fun c => ?_)
      · have e := (if_pos c).symm.trans e
        exact t118_30 hn (f118_0 u) ih s l h0 r e
      · have e := (if_neg c).symm.trans e
        refine r_aload_n (pc := 20) p118 k118_20 h0 ?_
        refine r_iconst (pc := 21) p118 k118_21 (v := (0 : Int32)) rfl ?_
        obtain ⟨r3, er3, e⟩ := of_bind e
        refine m_cv hn (pc := 22) p118 k118_22 rfl p119 (r := []) rfl rfl rfl rfl rfl (t119 hn s (0 : Int32) r3 er3) (w := [.int r3]) rfl ?_
        refine r_bipush (pc := 25) p118 k118_25 (v := (13 : Int32)) rfl ?_
        refine r_ic_ne (pc := 27) p118 k118_27 (fun c => ?_) (fun c => ?_)
        · have e := (if_neg c).symm.trans e
          cases e
          exact r_retV (pc := 43) p118 k118_43 rfl
        · have e := (if_pos c).symm.trans e
          exact t118_30 hn (f118_0 u) ih s l h0 r e
def f118 (s : mS) : Option mS := f118_0 mm_U s
theorem t118 {d n : Nat} {Z : Nat → ab_C} (hn : 42 ≤ n) (s : mS) (r : mS) (e : f118 s = some r) : ab_Rn (d + 1) 118 0 (lv_args 0 [.ref 22]) [] (ab_hl n (mm_F s Z)) (.inl none) (ab_hl n (mm_F r Z)) := by
  unfold f118 at e
  obtain ⟨l, hl⟩ : ∃ l, l = (lv_args 0 [.ref 22]) := ⟨_, rfl⟩
  rw [← hl]
  have h0 : ab_get l 0 = some (.ref 22) := by rw [hl]; rfl
  exact t118_0 hn mm_U s l h0 r e

theorem p120 : ab_prog[120]? = some (ab_m120, ab_c120) := rfl
theorem k120_0 : ab_fetch ab_c120 0 = some (.iload_n 0, 1, 0, 0) := rfl
theorem k120_1 : ab_fetch ab_c120 1 = some (.bipush 97, 2, 0, 0) := rfl
theorem k120_3 : ab_fetch ab_c120 3 = some (.if_icmp .lt 9, 3, 12, 0) := rfl
theorem k120_6 : ab_fetch ab_c120 6 = some (.iload_n 0, 1, 0, 0) := rfl
theorem k120_7 : ab_fetch ab_c120 7 = some (.bipush 122, 2, 0, 0) := rfl
theorem k120_9 : ab_fetch ab_c120 9 = some (.if_icmp .le 27, 3, 36, 0) := rfl
theorem k120_12 : ab_fetch ab_c120 12 = some (.iload_n 0, 1, 0, 0) := rfl
theorem k120_13 : ab_fetch ab_c120 13 = some (.bipush 65, 2, 0, 0) := rfl
theorem k120_15 : ab_fetch ab_c120 15 = some (.if_icmp .lt 9, 3, 24, 0) := rfl
theorem k120_18 : ab_fetch ab_c120 18 = some (.iload_n 0, 1, 0, 0) := rfl
theorem k120_19 : ab_fetch ab_c120 19 = some (.bipush 90, 2, 0, 0) := rfl
theorem k120_21 : ab_fetch ab_c120 21 = some (.if_icmp .le 15, 3, 36, 0) := rfl
theorem k120_24 : ab_fetch ab_c120 24 = some (.iload_n 0, 1, 0, 0) := rfl
theorem k120_25 : ab_fetch ab_c120 25 = some (.bipush 95, 2, 0, 0) := rfl
theorem k120_27 : ab_fetch ab_c120 27 = some (.if_icmp .eq 9, 3, 36, 0) := rfl
theorem k120_30 : ab_fetch ab_c120 30 = some (.iload_n 0, 1, 0, 0) := rfl
theorem k120_31 : ab_fetch ab_c120 31 = some (.bipush 46, 2, 0, 0) := rfl
theorem k120_33 : ab_fetch ab_c120 33 = some (.if_icmp .ne 7, 3, 40, 0) := rfl
theorem k120_36 : ab_fetch ab_c120 36 = some (.iconst 1, 1, 0, 0) := rfl
theorem k120_37 : ab_fetch ab_c120 37 = some (.goto 4, 3, 41, 0) := rfl
theorem k120_40 : ab_fetch ab_c120 40 = some (.iconst 0, 1, 0, 0) := rfl
theorem k120_41 : ab_fetch ab_c120 41 = some (.ireturn, 1, 0, 0) := rfl
/- CodeSmithModel begins(I)Z -/
def f120_36 : Int32 := (1 : Int32)
theorem t120_36 {d : Nat} {h : ab_H} : ∀ (l : ab_L)   (r : Int32) (e : f120_36  = r), ab_Rn d 120 36 l [] h (.inl (some (.int r))) h := by
  intro l r e
  unfold f120_36 at e
  refine r_iconst (pc := 36) p120 k120_36 (v := (1 : Int32)) rfl ?_
  refine r_goto (pc := 37) p120 k120_37 ?_
  subst e
  exact r_retZ (pc := 41) p120 k120_41 rfl (Or.inr rfl)
def f120_24 (x0 : Int32) : Int32 := (if x0 = (95 : Int32) then f120_36 else (if x0 = (46 : Int32) then f120_36 else (0 : Int32)))
theorem t120_24 {d : Nat} {h : ab_H} : ∀ (l : ab_L) (x0 : Int32) (h0 : ab_get l 0 = some (.int x0)) (r : Int32) (e : f120_24 x0 = r), ab_Rn d 120 24 l [] h (.inl (some (.int r))) h := by
  intro l x0 h0 r e
  unfold f120_24 at e
  refine r_iload_n (pc := 24) p120 k120_24 h0 ?_
  refine r_bipush (pc := 25) p120 k120_25 (v := (95 : Int32)) rfl ?_
  refine r_ic_eq (pc := 27) p120 k120_27 (fun c => ?_) (fun c => ?_)
  · have e := (if_pos c).symm.trans e
    exact t120_36 l r e
  · have e := (if_neg c).symm.trans e
    refine r_iload_n (pc := 30) p120 k120_30 h0 ?_
    refine r_bipush (pc := 31) p120 k120_31 (v := (46 : Int32)) rfl ?_
    refine r_ic_ne (pc := 33) p120 k120_33 (fun c => ?_) (fun c => ?_)
    · have e := (if_neg c).symm.trans e
      refine r_iconst (pc := 40) p120 k120_40 (v := (0 : Int32)) rfl ?_
      subst e
      exact r_retZ (pc := 41) p120 k120_41 rfl (Or.inl rfl)
    · have e := (if_pos c).symm.trans e
      exact t120_36 l r e
def f120_12 (x0 : Int32) : Int32 := (if x0 < (65 : Int32) then f120_24 x0 else (if x0 ≤ (90 : Int32) then f120_36 else f120_24 x0))
theorem t120_12 {d : Nat} {h : ab_H} : ∀ (l : ab_L) (x0 : Int32) (h0 : ab_get l 0 = some (.int x0)) (r : Int32) (e : f120_12 x0 = r), ab_Rn d 120 12 l [] h (.inl (some (.int r))) h := by
  intro l x0 h0 r e
  unfold f120_12 at e
  refine r_iload_n (pc := 12) p120 k120_12 h0 ?_
  refine r_bipush (pc := 13) p120 k120_13 (v := (65 : Int32)) rfl ?_
  refine r_ic_lt (pc := 15) p120 k120_15 (fun c => ?_) (fun c => ?_)
  · have e := (if_pos c).symm.trans e
    exact t120_24 l x0 h0 r e
  · have e := (if_neg c).symm.trans e
    refine r_iload_n (pc := 18) p120 k120_18 h0 ?_
    refine r_bipush (pc := 19) p120 k120_19 (v := (90 : Int32)) rfl ?_
    refine r_ic_le (pc := 21) p120 k120_21 (fun c => ?_) (fun c => ?_)
    · have e := (if_pos c).symm.trans e
      exact t120_36 l r e
    · have e := (if_neg c).symm.trans e
      exact t120_24 l x0 h0 r e
def f120 (x0 : Int32) : Int32 := (if x0 < (97 : Int32) then f120_12 x0 else (if x0 ≤ (122 : Int32) then f120_36 else f120_12 x0))
theorem t120 {d : Nat} {h : ab_H} (x0 : Int32) (r : Int32) (e : f120 x0 = r) : ab_Rn d 120 0 (lv_args 0 [.int x0]) [] h (.inl (some (.int r))) h := by
  unfold f120 at e
  obtain ⟨l, hl⟩ : ∃ l, l = (lv_args 0 [.int x0]) := ⟨_, rfl⟩
  rw [← hl]
  have h0 : ab_get l 0 = some (.int x0) := by rw [hl]; rfl
  refine r_iload_n (pc := 0) p120 k120_0 h0 ?_
  refine r_bipush (pc := 1) p120 k120_1 (v := (97 : Int32)) rfl ?_
  refine r_ic_lt (pc := 3) p120 k120_3 (fun c => ?_) (fun c => ?_)
  · have e := (if_pos c).symm.trans e
    exact t120_12 l x0 h0 r e
  · have e := (if_neg c).symm.trans e
    refine r_iload_n (pc := 6) p120 k120_6 h0 ?_
    refine r_bipush (pc := 7) p120 k120_7 (v := (122 : Int32)) rfl ?_
    refine r_ic_le (pc := 9) p120 k120_9 (fun c => ?_) (fun c => ?_)
    · have e := (if_pos c).symm.trans e
      exact t120_36 l r e
    · have e := (if_neg c).symm.trans e
      exact t120_12 l x0 h0 r e

theorem p122 : ab_prog[122]? = some (ab_m122, ab_c122) := rfl
theorem k122_0 : ab_fetch ab_c122 0 = some (.iload_n 0, 1, 0, 0) := rfl
theorem k122_1 : ab_fetch ab_c122 1 = some (.bipush 48, 2, 0, 0) := rfl
theorem k122_3 : ab_fetch ab_c122 3 = some (.if_icmp .lt 13, 3, 16, 0) := rfl
theorem k122_6 : ab_fetch ab_c122 6 = some (.iload_n 0, 1, 0, 0) := rfl
theorem k122_7 : ab_fetch ab_c122 7 = some (.bipush 57, 2, 0, 0) := rfl
theorem k122_9 : ab_fetch ab_c122 9 = some (.if_icmp .gt 7, 3, 16, 0) := rfl
theorem k122_12 : ab_fetch ab_c122 12 = some (.iconst 1, 1, 0, 0) := rfl
theorem k122_13 : ab_fetch ab_c122 13 = some (.goto 4, 3, 17, 0) := rfl
theorem k122_16 : ab_fetch ab_c122 16 = some (.iconst 0, 1, 0, 0) := rfl
theorem k122_17 : ab_fetch ab_c122 17 = some (.ireturn, 1, 0, 0) := rfl
/- CodeSmithModel isDigit(I)Z -/
def f122 (x0 : Int32) : Int32 := (if x0 < (48 : Int32) then (0 : Int32) else (if (57 : Int32) < x0 then (0 : Int32) else (1 : Int32)))
theorem t122 {d : Nat} {h : ab_H} (x0 : Int32) (r : Int32) (e : f122 x0 = r) : ab_Rn d 122 0 (lv_args 0 [.int x0]) [] h (.inl (some (.int r))) h := by
  unfold f122 at e
  obtain ⟨l, hl⟩ : ∃ l, l = (lv_args 0 [.int x0]) := ⟨_, rfl⟩
  rw [← hl]
  have h0 : ab_get l 0 = some (.int x0) := by rw [hl]; rfl
  refine r_iload_n (pc := 0) p122 k122_0 h0 ?_
  refine r_bipush (pc := 1) p122 k122_1 (v := (48 : Int32)) rfl ?_
  refine r_ic_lt (pc := 3) p122 k122_3 (fun c => ?_) (fun c => ?_)
  · have e := (if_pos c).symm.trans e
    refine r_iconst (pc := 16) p122 k122_16 (v := (0 : Int32)) rfl ?_
    subst e
    exact r_retZ (pc := 17) p122 k122_17 rfl (Or.inl rfl)
  · have e := (if_neg c).symm.trans e
    refine r_iload_n (pc := 6) p122 k122_6 h0 ?_
    refine r_bipush (pc := 7) p122 k122_7 (v := (57 : Int32)) rfl ?_
    refine r_ic_gt (pc := 9) p122 k122_9 (fun c => ?_) (fun c => ?_)
    · have e := (if_pos c).symm.trans e
      refine r_iconst (pc := 16) p122 k122_16 (v := (0 : Int32)) rfl ?_
      subst e
      exact r_retZ (pc := 17) p122 k122_17 rfl (Or.inl rfl)
    · have e := (if_neg c).symm.trans e
      refine r_iconst (pc := 12) p122 k122_12 (v := (1 : Int32)) rfl ?_
      refine r_goto (pc := 13) p122 k122_13 ?_
      subst e
      exact r_retZ (pc := 17) p122 k122_17 rfl (Or.inr rfl)

theorem p121 : ab_prog[121]? = some (ab_m121, ab_c121) := rfl
theorem k121_0 : ab_fetch ab_c121 0 = some (.iload_n 0, 1, 0, 0) := rfl
theorem k121_1 : ab_fetch ab_c121 1 = some (.invokestatic 328, 3, 120, 1) := rfl
theorem k121_4 : ab_fetch ab_c121 4 = some (.ifCond .ne 10, 3, 14, 0) := rfl
theorem k121_7 : ab_fetch ab_c121 7 = some (.iload_n 0, 1, 0, 0) := rfl
theorem k121_8 : ab_fetch ab_c121 8 = some (.invokestatic 332, 3, 122, 1) := rfl
theorem k121_11 : ab_fetch ab_c121 11 = some (.ifCond .eq 7, 3, 18, 0) := rfl
theorem k121_14 : ab_fetch ab_c121 14 = some (.iconst 1, 1, 0, 0) := rfl
theorem k121_15 : ab_fetch ab_c121 15 = some (.goto 4, 3, 19, 0) := rfl
theorem k121_18 : ab_fetch ab_c121 18 = some (.iconst 0, 1, 0, 0) := rfl
theorem k121_19 : ab_fetch ab_c121 19 = some (.ireturn, 1, 0, 0) := rfl
/- CodeSmithModel isName(I)Z -/
def f121_14 : Int32 := (1 : Int32)
theorem t121_14 {d : Nat} {h : ab_H} : ∀ (l : ab_L)   (r : Int32) (e : f121_14  = r), ab_Rn (d + 1) 121 14 l [] h (.inl (some (.int r))) h := by
  intro l r e
  unfold f121_14 at e
  refine r_iconst (pc := 14) p121 k121_14 (v := (1 : Int32)) rfl ?_
  refine r_goto (pc := 15) p121 k121_15 ?_
  subst e
  exact r_retZ (pc := 19) p121 k121_19 rfl (Or.inr rfl)
def f121 (x0 : Int32) : Int32 := (if (f120 x0) = 0 then (if (f122 x0) = 0 then (0 : Int32) else f121_14) else f121_14)
theorem t121 {d : Nat} {h : ab_H} (x0 : Int32) (r : Int32) (e : f121 x0 = r) : ab_Rn (d + 1) 121 0 (lv_args 0 [.int x0]) [] h (.inl (some (.int r))) h := by
  unfold f121 at e
  obtain ⟨l, hl⟩ : ∃ l, l = (lv_args 0 [.int x0]) := ⟨_, rfl⟩
  rw [← hl]
  have h0 : ab_get l 0 = some (.int x0) := by rw [hl]; rfl
  refine r_iload_n (pc := 0) p121 k121_0 h0 ?_
  refine r_csv (pc := 1) p121 k121_1 rfl rfl p120 (r := []) rfl rfl rfl rfl (t120 x0 _ rfl) (w := [.int (f120 x0)]) rfl ?_
  refine r_if_ne (pc := 4) p121 k121_4 (fun c => ?_) (fun c => ?_)
  · have e := (if_neg c).symm.trans e
    exact t121_14 l r e
  · have e := (if_pos c).symm.trans e
    refine r_iload_n (pc := 7) p121 k121_7 h0 ?_
    refine r_csv (pc := 8) p121 k121_8 rfl rfl p122 (r := []) rfl rfl rfl rfl (t122 x0 _ rfl) (w := [.int (f122 x0)]) rfl ?_
    refine r_if_eq (pc := 11) p121 k121_11 (fun c => ?_) (fun c => ?_)
    · have e := (if_pos c).symm.trans e
      refine r_iconst (pc := 18) p121 k121_18 (v := (0 : Int32)) rfl ?_
      subst e
      exact r_retZ (pc := 19) p121 k121_19 rfl (Or.inl rfl)
    · have e := (if_neg c).symm.trans e
      exact t121_14 l r e

theorem p123 : ab_prog[123]? = some (ab_m123, ab_c123) := rfl
theorem k123_0 : ab_fetch ab_c123 0 = some (.aload_n 0, 1, 0, 0) := rfl
theorem k123_1 : ab_fetch ab_c123 1 = some (.aload_n 0, 1, 0, 0) := rfl
theorem k123_2 : ab_fetch ab_c123 2 = some (.getfield 339, 3, 6, 23) := rfl
theorem k123_5 : ab_fetch ab_c123 5 = some (.ifCond .ge 7, 3, 12, 0) := rfl
theorem k123_8 : ab_fetch ab_c123 8 = some (.iload_n 1, 1, 0, 0) := rfl
theorem k123_9 : ab_fetch ab_c123 9 = some (.goto 7, 3, 16, 0) := rfl
theorem k123_12 : ab_fetch ab_c123 12 = some (.aload_n 0, 1, 0, 0) := rfl
theorem k123_13 : ab_fetch ab_c123 13 = some (.getfield 339, 3, 6, 23) := rfl
theorem k123_16 : ab_fetch ab_c123 16 = some (.putfield 339, 3, 6, 23) := rfl
theorem k123_19 : ab_fetch ab_c123 19 = some (.return_, 1, 0, 0) := rfl
/- CodeSmithModel flawed(I)V -/
def f123_16 (s : mS) (y0 : Int32) : Option mS := some (mg s 23 y0)
theorem t123_16 {d n : Nat} {Z : Nat → ab_C} (hn : 42 ≤ n) : ∀ (s : mS) (l : ab_L) (y0 : Int32)  (r : mS) (e : f123_16 s y0 = some r), ab_Rn d 123 16 l [.int y0, .ref 22] (ab_hl n (mm_F s Z)) (.inl none) (ab_hl n (mm_F r Z)) := by
  intro s l y0 r e
  unfold f123_16 at e
  refine m_put hn (pc := 16) p123 k123_16 rfl rfl rfl rfl ?_
  cases e
  exact r_retV (pc := 19) p123 k123_19 rfl
def f123 (s : mS) (x1 : Int32) : Option mS := (if 0 ≤ (s.1 23) then f123_16 s (s.1 23) else f123_16 s x1)
theorem t123 {d n : Nat} {Z : Nat → ab_C} (hn : 42 ≤ n) (s : mS) (x1 : Int32) (r : mS) (e : f123 s x1 = some r) : ab_Rn d 123 0 (lv_args 0 [.ref 22, .int x1]) [] (ab_hl n (mm_F s Z)) (.inl none) (ab_hl n (mm_F r Z)) := by
  unfold f123 at e
  obtain ⟨l, hl⟩ : ∃ l, l = (lv_args 0 [.ref 22, .int x1]) := ⟨_, rfl⟩
  rw [← hl]
  have h0 : ab_get l 0 = some (.ref 22) := by rw [hl]; rfl
  have h1 : ab_get l 1 = some (.int x1) := by rw [hl]; rfl
  refine r_aload_n (pc := 0) p123 k123_0 h0 ?_
  refine r_aload_n (pc := 1) p123 k123_1 h0 ?_
  refine m_get hn (pc := 2) p123 k123_2 (v := .int (s.1 23)) rfl ?_
  refine r_if_ge (pc := 5) p123 k123_5 (fun c => ?_) (fun c => ?_)
  · have e := (if_pos c).symm.trans e
    refine r_aload_n (pc := 12) p123 k123_12 h0 ?_
    refine m_get hn (pc := 13) p123 k123_13 (v := .int (s.1 23)) rfl ?_
    exact t123_16 hn s l (s.1 23) r e
  · have e := (if_neg c).symm.trans e
    refine r_iload_n (pc := 8) p123 k123_8 h1 ?_
    refine r_goto (pc := 9) p123 k123_9 ?_
    exact t123_16 hn s l x1 r e

theorem p125 : ab_prog[125]? = some (ab_m125, ab_c125) := rfl
theorem k125_0 : ab_fetch ab_c125 0 = some (.iload_n 0, 1, 0, 0) := rfl
theorem k125_1 : ab_fetch ab_c125 1 = some (.invokestatic 332, 3, 122, 1) := rfl
theorem k125_4 : ab_fetch ab_c125 4 = some (.ifCond .eq 10, 3, 14, 0) := rfl
theorem k125_7 : ab_fetch ab_c125 7 = some (.iload_n 0, 1, 0, 0) := rfl
theorem k125_8 : ab_fetch ab_c125 8 = some (.bipush 48, 2, 0, 0) := rfl
theorem k125_10 : ab_fetch ab_c125 10 = some (.isub, 1, 0, 0) := rfl
theorem k125_11 : ab_fetch ab_c125 11 = some (.goto 48, 3, 59, 0) := rfl
theorem k125_14 : ab_fetch ab_c125 14 = some (.iload_n 0, 1, 0, 0) := rfl
theorem k125_15 : ab_fetch ab_c125 15 = some (.bipush 97, 2, 0, 0) := rfl
theorem k125_17 : ab_fetch ab_c125 17 = some (.if_icmp .lt 19, 3, 36, 0) := rfl
theorem k125_20 : ab_fetch ab_c125 20 = some (.iload_n 0, 1, 0, 0) := rfl
theorem k125_21 : ab_fetch ab_c125 21 = some (.bipush 102, 2, 0, 0) := rfl
theorem k125_23 : ab_fetch ab_c125 23 = some (.if_icmp .gt 13, 3, 36, 0) := rfl
theorem k125_26 : ab_fetch ab_c125 26 = some (.iload_n 0, 1, 0, 0) := rfl
theorem k125_27 : ab_fetch ab_c125 27 = some (.bipush 97, 2, 0, 0) := rfl
theorem k125_29 : ab_fetch ab_c125 29 = some (.isub, 1, 0, 0) := rfl
theorem k125_30 : ab_fetch ab_c125 30 = some (.bipush 10, 2, 0, 0) := rfl
theorem k125_32 : ab_fetch ab_c125 32 = some (.iadd, 1, 0, 0) := rfl
theorem k125_33 : ab_fetch ab_c125 33 = some (.goto 26, 3, 59, 0) := rfl
theorem k125_36 : ab_fetch ab_c125 36 = some (.iload_n 0, 1, 0, 0) := rfl
theorem k125_37 : ab_fetch ab_c125 37 = some (.bipush 65, 2, 0, 0) := rfl
theorem k125_39 : ab_fetch ab_c125 39 = some (.if_icmp .lt 19, 3, 58, 0) := rfl
theorem k125_42 : ab_fetch ab_c125 42 = some (.iload_n 0, 1, 0, 0) := rfl
theorem k125_43 : ab_fetch ab_c125 43 = some (.bipush 70, 2, 0, 0) := rfl
theorem k125_45 : ab_fetch ab_c125 45 = some (.if_icmp .gt 13, 3, 58, 0) := rfl
theorem k125_48 : ab_fetch ab_c125 48 = some (.iload_n 0, 1, 0, 0) := rfl
theorem k125_49 : ab_fetch ab_c125 49 = some (.bipush 65, 2, 0, 0) := rfl
theorem k125_51 : ab_fetch ab_c125 51 = some (.isub, 1, 0, 0) := rfl
theorem k125_52 : ab_fetch ab_c125 52 = some (.bipush 10, 2, 0, 0) := rfl
theorem k125_54 : ab_fetch ab_c125 54 = some (.iadd, 1, 0, 0) := rfl
theorem k125_55 : ab_fetch ab_c125 55 = some (.goto 4, 3, 59, 0) := rfl
theorem k125_58 : ab_fetch ab_c125 58 = some (.iconst (-1), 1, 0, 0) := rfl
theorem k125_59 : ab_fetch ab_c125 59 = some (.ireturn, 1, 0, 0) := rfl
/- CodeSmithModel hex(I)I -/
def f125_36 (x0 : Int32) : Int32 := (if x0 < (65 : Int32) then (-1 : Int32) else (if (70 : Int32) < x0 then (-1 : Int32) else ((x0 - (65 : Int32)) + (10 : Int32))))
theorem t125_36 {d : Nat} {h : ab_H} : ∀ (l : ab_L) (x0 : Int32) (h0 : ab_get l 0 = some (.int x0)) (r : Int32) (e : f125_36 x0 = r), ab_Rn (d + 1) 125 36 l [] h (.inl (some (.int r))) h := by
  intro l x0 h0 r e
  unfold f125_36 at e
  refine r_iload_n (pc := 36) p125 k125_36 h0 ?_
  refine r_bipush (pc := 37) p125 k125_37 (v := (65 : Int32)) rfl ?_
  refine r_ic_lt (pc := 39) p125 k125_39 (fun c => ?_) (fun c => ?_)
  · have e := (if_pos c).symm.trans e
    refine r_iconst (pc := 58) p125 k125_58 (v := (-1 : Int32)) rfl ?_
    subst e
    exact r_retI (pc := 59) p125 k125_59 rfl
  · have e := (if_neg c).symm.trans e
    refine r_iload_n (pc := 42) p125 k125_42 h0 ?_
    refine r_bipush (pc := 43) p125 k125_43 (v := (70 : Int32)) rfl ?_
    refine r_ic_gt (pc := 45) p125 k125_45 (fun c => ?_) (fun c => ?_)
    · have e := (if_pos c).symm.trans e
      refine r_iconst (pc := 58) p125 k125_58 (v := (-1 : Int32)) rfl ?_
      subst e
      exact r_retI (pc := 59) p125 k125_59 rfl
    · have e := (if_neg c).symm.trans e
      refine r_iload_n (pc := 48) p125 k125_48 h0 ?_
      refine r_bipush (pc := 49) p125 k125_49 (v := (65 : Int32)) rfl ?_
      refine r_isub (pc := 51) p125 k125_51 ?_
      refine r_bipush (pc := 52) p125 k125_52 (v := (10 : Int32)) rfl ?_
      refine r_iadd (pc := 54) p125 k125_54 ?_
      refine r_goto (pc := 55) p125 k125_55 ?_
      subst e
      exact r_retI (pc := 59) p125 k125_59 rfl
def f125 (x0 : Int32) : Int32 := (if (f122 x0) = 0 then (if x0 < (97 : Int32) then f125_36 x0 else (if (102 : Int32) < x0 then f125_36 x0 else ((x0 - (97 : Int32)) + (10 : Int32)))) else (x0 - (48 : Int32)))
theorem t125 {d : Nat} {h : ab_H} (x0 : Int32) (r : Int32) (e : f125 x0 = r) : ab_Rn (d + 1) 125 0 (lv_args 0 [.int x0]) [] h (.inl (some (.int r))) h := by
  unfold f125 at e
  obtain ⟨l, hl⟩ : ∃ l, l = (lv_args 0 [.int x0]) := ⟨_, rfl⟩
  rw [← hl]
  have h0 : ab_get l 0 = some (.int x0) := by rw [hl]; rfl
  refine r_iload_n (pc := 0) p125 k125_0 h0 ?_
  refine r_csv (pc := 1) p125 k125_1 rfl rfl p122 (r := []) rfl rfl rfl rfl (t122 x0 _ rfl) (w := [.int (f122 x0)]) rfl ?_
  refine r_if_eq (pc := 4) p125 k125_4 (fun c => ?_) (fun c => ?_)
  · have e := (if_pos c).symm.trans e
    refine r_iload_n (pc := 14) p125 k125_14 h0 ?_
    refine r_bipush (pc := 15) p125 k125_15 (v := (97 : Int32)) rfl ?_
    refine r_ic_lt (pc := 17) p125 k125_17 (fun c => ?_) (fun c => ?_)
    · have e := (if_pos c).symm.trans e
      exact t125_36 l x0 h0 r e
    · have e := (if_neg c).symm.trans e
      refine r_iload_n (pc := 20) p125 k125_20 h0 ?_
      refine r_bipush (pc := 21) p125 k125_21 (v := (102 : Int32)) rfl ?_
      refine r_ic_gt (pc := 23) p125 k125_23 (fun c => ?_) (fun c => ?_)
      · have e := (if_pos c).symm.trans e
        exact t125_36 l x0 h0 r e
      · have e := (if_neg c).symm.trans e
        refine r_iload_n (pc := 26) p125 k125_26 h0 ?_
        refine r_bipush (pc := 27) p125 k125_27 (v := (97 : Int32)) rfl ?_
        refine r_isub (pc := 29) p125 k125_29 ?_
        refine r_bipush (pc := 30) p125 k125_30 (v := (10 : Int32)) rfl ?_
        refine r_iadd (pc := 32) p125 k125_32 ?_
        refine r_goto (pc := 33) p125 k125_33 ?_
        subst e
        exact r_retI (pc := 59) p125 k125_59 rfl
  · have e := (if_neg c).symm.trans e
    refine r_iload_n (pc := 7) p125 k125_7 h0 ?_
    refine r_bipush (pc := 8) p125 k125_8 (v := (48 : Int32)) rfl ?_
    refine r_isub (pc := 10) p125 k125_10 ?_
    refine r_goto (pc := 11) p125 k125_11 ?_
    subst e
    exact r_retI (pc := 59) p125 k125_59 rfl

theorem p124 : ab_prog[124]? = some (ab_m124, ab_c124) := rfl
theorem k124_0 : ab_fetch ab_c124 0 = some (.aload_n 0, 1, 0, 0) := rfl
theorem k124_1 : ab_fetch ab_c124 1 = some (.iconst 0, 1, 0, 0) := rfl
theorem k124_2 : ab_fetch ab_c124 2 = some (.invokevirtual 335, 3, 119, 1) := rfl
theorem k124_5 : ab_fetch ab_c124 5 = some (.bipush 48, 2, 0, 0) := rfl
theorem k124_7 : ab_fetch ab_c124 7 = some (.if_icmp .ne 17, 3, 24, 0) := rfl
theorem k124_10 : ab_fetch ab_c124 10 = some (.aload_n 0, 1, 0, 0) := rfl
theorem k124_11 : ab_fetch ab_c124 11 = some (.iconst 1, 1, 0, 0) := rfl
theorem k124_12 : ab_fetch ab_c124 12 = some (.invokevirtual 335, 3, 119, 1) := rfl
theorem k124_15 : ab_fetch ab_c124 15 = some (.bipush 120, 2, 0, 0) := rfl
theorem k124_17 : ab_fetch ab_c124 17 = some (.if_icmp .ne 7, 3, 24, 0) := rfl
theorem k124_20 : ab_fetch ab_c124 20 = some (.iconst 1, 1, 0, 0) := rfl
theorem k124_21 : ab_fetch ab_c124 21 = some (.goto 4, 3, 25, 0) := rfl
theorem k124_24 : ab_fetch ab_c124 24 = some (.iconst 0, 1, 0, 0) := rfl
theorem k124_25 : ab_fetch ab_c124 25 = some (.istore_n 1, 1, 0, 0) := rfl
theorem k124_26 : ab_fetch ab_c124 26 = some (.aload_n 0, 1, 0, 0) := rfl
theorem k124_27 : ab_fetch ab_c124 27 = some (.dup, 1, 0, 0) := rfl
theorem k124_28 : ab_fetch ab_c124 28 = some (.getfield 322, 3, 6, 18) := rfl
theorem k124_31 : ab_fetch ab_c124 31 = some (.iload_n 1, 1, 0, 0) := rfl
theorem k124_32 : ab_fetch ab_c124 32 = some (.ifCond .eq 7, 3, 39, 0) := rfl
theorem k124_35 : ab_fetch ab_c124 35 = some (.iconst 2, 1, 0, 0) := rfl
theorem k124_36 : ab_fetch ab_c124 36 = some (.goto 4, 3, 40, 0) := rfl
theorem k124_39 : ab_fetch ab_c124 39 = some (.iconst 0, 1, 0, 0) := rfl
theorem k124_40 : ab_fetch ab_c124 40 = some (.iadd, 1, 0, 0) := rfl
theorem k124_41 : ab_fetch ab_c124 41 = some (.putfield 322, 3, 6, 18) := rfl
theorem k124_44 : ab_fetch ab_c124 44 = some (.iload_n 1, 1, 0, 0) := rfl
theorem k124_45 : ab_fetch ab_c124 45 = some (.ifCond .eq 22, 3, 67, 0) := rfl
theorem k124_48 : ab_fetch ab_c124 48 = some (.aload_n 0, 1, 0, 0) := rfl
theorem k124_49 : ab_fetch ab_c124 49 = some (.iconst 0, 1, 0, 0) := rfl
theorem k124_50 : ab_fetch ab_c124 50 = some (.invokevirtual 335, 3, 119, 1) := rfl
theorem k124_53 : ab_fetch ab_c124 53 = some (.invokestatic 375, 3, 125, 1) := rfl
theorem k124_56 : ab_fetch ab_c124 56 = some (.ifCond .ge 11, 3, 67, 0) := rfl
theorem k124_59 : ab_fetch ab_c124 59 = some (.aload_n 0, 1, 0, 0) := rfl
theorem k124_60 : ab_fetch ab_c124 60 = some (.aload_n 0, 1, 0, 0) := rfl
theorem k124_61 : ab_fetch ab_c124 61 = some (.getfield 322, 3, 6, 18) := rfl
theorem k124_64 : ab_fetch ab_c124 64 = some (.invokevirtual 361, 3, 123, 1) := rfl
theorem k124_67 : ab_fetch ab_c124 67 = some (.iload_n 1, 1, 0, 0) := rfl
theorem k124_68 : ab_fetch ab_c124 68 = some (.ifCond .eq 17, 3, 85, 0) := rfl
theorem k124_71 : ab_fetch ab_c124 71 = some (.aload_n 0, 1, 0, 0) := rfl
theorem k124_72 : ab_fetch ab_c124 72 = some (.iconst 0, 1, 0, 0) := rfl
theorem k124_73 : ab_fetch ab_c124 73 = some (.invokevirtual 335, 3, 119, 1) := rfl
theorem k124_76 : ab_fetch ab_c124 76 = some (.invokestatic 375, 3, 125, 1) := rfl
theorem k124_79 : ab_fetch ab_c124 79 = some (.ifCond .lt 59, 3, 138, 0) := rfl
theorem k124_82 : ab_fetch ab_c124 82 = some (.goto 14, 3, 96, 0) := rfl
theorem k124_85 : ab_fetch ab_c124 85 = some (.aload_n 0, 1, 0, 0) := rfl
theorem k124_86 : ab_fetch ab_c124 86 = some (.iconst 0, 1, 0, 0) := rfl
theorem k124_87 : ab_fetch ab_c124 87 = some (.invokevirtual 335, 3, 119, 1) := rfl
theorem k124_90 : ab_fetch ab_c124 90 = some (.invokestatic 332, 3, 122, 1) := rfl
theorem k124_93 : ab_fetch ab_c124 93 = some (.ifCond .eq 45, 3, 138, 0) := rfl
theorem k124_96 : ab_fetch ab_c124 96 = some (.aload_n 0, 1, 0, 0) := rfl
theorem k124_97 : ab_fetch ab_c124 97 = some (.aload_n 0, 1, 0, 0) := rfl
theorem k124_98 : ab_fetch ab_c124 98 = some (.getfield 352, 3, 6, 22) := rfl
theorem k124_101 : ab_fetch ab_c124 101 = some (.iload_n 1, 1, 0, 0) := rfl
theorem k124_102 : ab_fetch ab_c124 102 = some (.ifCond .eq 8, 3, 110, 0) := rfl
theorem k124_105 : ab_fetch ab_c124 105 = some (.bipush 16, 2, 0, 0) := rfl
theorem k124_107 : ab_fetch ab_c124 107 = some (.goto 5, 3, 112, 0) := rfl
theorem k124_110 : ab_fetch ab_c124 110 = some (.bipush 10, 2, 0, 0) := rfl
theorem k124_112 : ab_fetch ab_c124 112 = some (.imul, 1, 0, 0) := rfl
theorem k124_113 : ab_fetch ab_c124 113 = some (.aload_n 0, 1, 0, 0) := rfl
theorem k124_114 : ab_fetch ab_c124 114 = some (.iconst 0, 1, 0, 0) := rfl
theorem k124_115 : ab_fetch ab_c124 115 = some (.invokevirtual 335, 3, 119, 1) := rfl
theorem k124_118 : ab_fetch ab_c124 118 = some (.invokestatic 375, 3, 125, 1) := rfl
theorem k124_121 : ab_fetch ab_c124 121 = some (.iadd, 1, 0, 0) := rfl
theorem k124_122 : ab_fetch ab_c124 122 = some (.putfield 352, 3, 6, 22) := rfl
theorem k124_125 : ab_fetch ab_c124 125 = some (.aload_n 0, 1, 0, 0) := rfl
theorem k124_126 : ab_fetch ab_c124 126 = some (.dup, 1, 0, 0) := rfl
theorem k124_127 : ab_fetch ab_c124 127 = some (.getfield 322, 3, 6, 18) := rfl
theorem k124_130 : ab_fetch ab_c124 130 = some (.iconst 1, 1, 0, 0) := rfl
theorem k124_131 : ab_fetch ab_c124 131 = some (.iadd, 1, 0, 0) := rfl
theorem k124_132 : ab_fetch ab_c124 132 = some (.putfield 322, 3, 6, 18) := rfl
theorem k124_135 : ab_fetch ab_c124 135 = some (.goto (-68), 3, 67, 0) := rfl
theorem k124_138 : ab_fetch ab_c124 138 = some (.return_, 1, 0, 0) := rfl
/- CodeSmithModel number()V -/
def f124_112 (q67 : mS → Int32 → Option mS) (s : mS) (x1 : Int32) (y0 : Int32) (y1 : Int32) : Option mS := ((f119 s (0 : Int32)).bind fun r1 => q67 (mg (mg s 22 ((y1 * y0) + (f125 r1))) 18 ((s.1 18) + (1 : Int32))) x1)
theorem t124_112 {d n : Nat} {Z : Nat → ab_C} (hn : 42 ≤ n) (q67 : mS → Int32 → Option mS) (hq67 : ∀ (s : mS) (l : ab_L) (x1 : Int32) (h0 : ab_get l 0 = some (.ref 22)) (h1 : ab_get l 1 = some (.int x1)) (r : mS) (e : q67 s x1 = some r), ab_Rn (d + 2) 124 67 l [] (ab_hl n (mm_F s Z)) (.inl none) (ab_hl n (mm_F r Z))) : ∀ (s : mS) (l : ab_L) (x1 : Int32) (y0 : Int32) (y1 : Int32) (h0 : ab_get l 0 = some (.ref 22)) (h1 : ab_get l 1 = some (.int x1)) (r : mS) (e : f124_112 q67 s x1 y0 y1 = some r), ab_Rn (d + 2) 124 112 l [.int y0, .int y1, .ref 22] (ab_hl n (mm_F s Z)) (.inl none) (ab_hl n (mm_F r Z)) := by
  intro s l x1 y0 y1 h0 h1 r e
  unfold f124_112 at e
  refine r_imul (pc := 112) p124 k124_112 ?_
  refine r_aload_n (pc := 113) p124 k124_113 h0 ?_
  refine r_iconst (pc := 114) p124 k124_114 (v := (0 : Int32)) rfl ?_
  obtain ⟨r1, er1, e⟩ := of_bind e
  refine m_cv hn (pc := 115) p124 k124_115 rfl p119 (r := [.int (y1 * y0), .ref 22]) rfl rfl rfl rfl rfl (t119 hn s (0 : Int32) r1 er1) (w := [.int r1, .int (y1 * y0), .ref 22]) rfl ?_
  refine r_csv (pc := 118) p124 k124_118 rfl rfl p125 (r := [.int (y1 * y0), .ref 22]) rfl rfl rfl rfl (t125 r1 _ rfl) (w := [.int (f125 r1), .int (y1 * y0), .ref 22]) rfl ?_
  refine r_iadd (pc := 121) p124 k124_121 ?_
  refine m_put hn (pc := 122) p124 k124_122 rfl rfl rfl rfl ?_
  refine r_aload_n (pc := 125) p124 k124_125 h0 ?_
  refine r_dup (pc := 126) p124 k124_126 rfl ?_
  refine m_get hn (pc := 127) p124 k124_127 (v := .int (s.1 18)) rfl ?_
  refine r_iconst (pc := 130) p124 k124_130 (v := (1 : Int32)) rfl ?_
  refine r_iadd (pc := 131) p124 k124_131 ?_
  refine m_put hn (pc := 132) p124 k124_132 rfl rfl rfl rfl ?_
  refine r_goto (pc := 135) p124 k124_135 ?_
  exact hq67 (mg (mg s 22 ((y1 * y0) + (f125 r1))) 18 ((s.1 18) + (1 : Int32))) l x1 h0 h1 r e
def f124_96 (q67 : mS → Int32 → Option mS) (s : mS) (x1 : Int32) : Option mS := (if x1 = 0 then f124_112 q67 s x1 (10 : Int32) (s.1 22) else f124_112 q67 s x1 (16 : Int32) (s.1 22))
theorem t124_96 {d n : Nat} {Z : Nat → ab_C} (hn : 42 ≤ n) (q67 : mS → Int32 → Option mS) (hq67 : ∀ (s : mS) (l : ab_L) (x1 : Int32) (h0 : ab_get l 0 = some (.ref 22)) (h1 : ab_get l 1 = some (.int x1)) (r : mS) (e : q67 s x1 = some r), ab_Rn (d + 2) 124 67 l [] (ab_hl n (mm_F s Z)) (.inl none) (ab_hl n (mm_F r Z))) : ∀ (s : mS) (l : ab_L) (x1 : Int32) (h0 : ab_get l 0 = some (.ref 22)) (h1 : ab_get l 1 = some (.int x1)) (r : mS) (e : f124_96 q67 s x1 = some r), ab_Rn (d + 2) 124 96 l [] (ab_hl n (mm_F s Z)) (.inl none) (ab_hl n (mm_F r Z)) := by
  intro s l x1 h0 h1 r e
  unfold f124_96 at e
  refine r_aload_n (pc := 96) p124 k124_96 h0 ?_
  refine r_aload_n (pc := 97) p124 k124_97 h0 ?_
  refine m_get hn (pc := 98) p124 k124_98 (v := .int (s.1 22)) rfl ?_
  refine r_iload_n (pc := 101) p124 k124_101 h1 ?_
  refine r_if_eq (pc := 102) p124 k124_102 (fun c => ?_) (fun c => ?_)
  · have e := (if_pos c).symm.trans e
    refine r_bipush (pc := 110) p124 k124_110 (v := (10 : Int32)) rfl ?_
    exact t124_112 hn q67 hq67 s l x1 (10 : Int32) (s.1 22) h0 h1 r e
  · have e := (if_neg c).symm.trans e
    refine r_bipush (pc := 105) p124 k124_105 (v := (16 : Int32)) rfl ?_
    refine r_goto (pc := 107) p124 k124_107 ?_
    exact t124_112 hn q67 hq67 s l x1 (16 : Int32) (s.1 22) h0 h1 r e
def f124_67 : Nat → mS → Int32 → Option mS
  | 0, _, _ => none
  | u + 1, s, x1 => (if x1 = 0 then ((f119 s (0 : Int32)).bind fun r1 => (if (f122 r1) = 0 then some s else f124_96 (f124_67 u) s x1)) else ((f119 s (0 : Int32)).bind fun r1 => (if (f125 r1) < 0 then some s else f124_96 (f124_67 u) s x1)))
theorem t124_67 {d n : Nat} {Z : Nat → ab_C} (hn : 42 ≤ n) : ∀ u : Nat, ∀ (s : mS) (l : ab_L) (x1 : Int32) (h0 : ab_get l 0 = some (.ref 22)) (h1 : ab_get l 1 = some (.int x1)) (r : mS) (e : f124_67 u s x1 = some r), ab_Rn (d + 2) 124 67 l [] (ab_hl n (mm_F s Z)) (.inl none) (ab_hl n (mm_F r Z)) := by
  intro u
  induction u with
  | zero => intro s l x1 h0 h1 r e; rw [f124_67] at e; cases e
  | succ u ih =>
    intro s l x1 h0 h1 r e
    rw [f124_67] at e
    refine r_iload_n (pc := 67) p124 k124_67 h1 ?_
    refine r_if_eq (pc := 68) p124 k124_68 (fun c => ?_) (fun c => ?_)
    · have e := (if_pos c).symm.trans e
      refine r_aload_n (pc := 85) p124 k124_85 h0 ?_
      refine r_iconst (pc := 86) p124 k124_86 (v := (0 : Int32)) rfl ?_
      obtain ⟨r1, er1, e⟩ := of_bind e
      refine m_cv hn (pc := 87) p124 k124_87 rfl p119 (r := []) rfl rfl rfl rfl rfl (t119 hn s (0 : Int32) r1 er1) (w := [.int r1]) rfl ?_
      refine r_csv (pc := 90) p124 k124_90 rfl rfl p122 (r := []) rfl rfl rfl rfl (t122 r1 _ rfl) (w := [.int (f122 r1)]) rfl ?_
      refine r_if_eq (pc := 93) p124 k124_93 (fun c => ?_) (fun c => ?_)
      · have e := (if_pos c).symm.trans e
        cases e
        exact r_retV (pc := 138) p124 k124_138 rfl
      · have e := (if_neg c).symm.trans e
        exact t124_96 hn (f124_67 u) ih s l x1 h0 h1 r e
    · have e := (if_neg c).symm.trans e
      refine r_aload_n (pc := 71) p124 k124_71 h0 ?_
      refine r_iconst (pc := 72) p124 k124_72 (v := (0 : Int32)) rfl ?_
      obtain ⟨r1, er1, e⟩ := of_bind e
      refine m_cv hn (pc := 73) p124 k124_73 rfl p119 (r := []) rfl rfl rfl rfl rfl (t119 hn s (0 : Int32) r1 er1) (w := [.int r1]) rfl ?_
      refine r_csv (pc := 76) p124 k124_76 rfl rfl p125 (r := []) rfl rfl rfl rfl (t125 r1 _ rfl) (w := [.int (f125 r1)]) rfl ?_
      refine r_if_lt (pc := 79) p124 k124_79 (fun c => ?_) (fun c => ?_)
      · have e := (if_pos c).symm.trans e
        cases e
        exact r_retV (pc := 138) p124 k124_138 rfl
      · have e := (if_neg c).symm.trans e
        refine r_goto (pc := 82) p124 k124_82 ?_
        exact t124_96 hn (f124_67 u) ih s l x1 h0 h1 r e
def f124_40 (s : mS) (x1 : Int32) (y0 : Int32) (y1 : Int32) : Option mS := (if x1 = 0 then f124_67 mm_U (mg s 18 (y1 + y0)) x1 else ((f119 (mg s 18 (y1 + y0)) (0 : Int32)).bind fun r1 => (if 0 ≤ (f125 r1) then f124_67 mm_U (mg s 18 (y1 + y0)) x1 else ((f123 (mg s 18 (y1 + y0)) (y1 + y0)).bind fun r2 => f124_67 mm_U r2 x1))))
theorem t124_40 {d n : Nat} {Z : Nat → ab_C} (hn : 42 ≤ n) : ∀ (s : mS) (l : ab_L) (x1 : Int32) (y0 : Int32) (y1 : Int32) (h0 : ab_get l 0 = some (.ref 22)) (h1 : ab_get l 1 = some (.int x1)) (r : mS) (e : f124_40 s x1 y0 y1 = some r), ab_Rn (d + 2) 124 40 l [.int y0, .int y1, .ref 22] (ab_hl n (mm_F s Z)) (.inl none) (ab_hl n (mm_F r Z)) := by
  intro s l x1 y0 y1 h0 h1 r e
  unfold f124_40 at e
  refine r_iadd (pc := 40) p124 k124_40 ?_
  refine m_put hn (pc := 41) p124 k124_41 rfl rfl rfl rfl ?_
  refine r_iload_n (pc := 44) p124 k124_44 h1 ?_
  refine r_if_eq (pc := 45) p124 k124_45 (fun c => ?_) (fun c => ?_)
  · have e := (if_pos c).symm.trans e
    exact t124_67 hn mm_U (mg s 18 (y1 + y0)) l x1 h0 h1 r e
  · have e := (if_neg c).symm.trans e
    refine r_aload_n (pc := 48) p124 k124_48 h0 ?_
    refine r_iconst (pc := 49) p124 k124_49 (v := (0 : Int32)) rfl ?_
    obtain ⟨r1, er1, e⟩ := of_bind e
    refine m_cv hn (pc := 50) p124 k124_50 rfl p119 (r := []) rfl rfl rfl rfl rfl (t119 hn (mg s 18 (y1 + y0)) (0 : Int32) r1 er1) (w := [.int r1]) rfl ?_
    refine r_csv (pc := 53) p124 k124_53 rfl rfl p125 (r := []) rfl rfl rfl rfl (t125 r1 _ rfl) (w := [.int (f125 r1)]) rfl ?_
    refine r_if_ge (pc := 56) p124 k124_56 (fun c => ?_) (fun c => ?_)
    · have e := (if_pos c).symm.trans e
      exact t124_67 hn mm_U (mg s 18 (y1 + y0)) l x1 h0 h1 r e
    · have e := (if_neg c).symm.trans e
      refine r_aload_n (pc := 59) p124 k124_59 h0 ?_
      refine r_aload_n (pc := 60) p124 k124_60 h0 ?_
      refine m_get hn (pc := 61) p124 k124_61 (v := .int (y1 + y0)) rfl ?_
      obtain ⟨r2, er2, e⟩ := of_bind e
      refine m_cv hn (pc := 64) p124 k124_64 rfl p123 (r := []) rfl rfl rfl rfl rfl (t123 hn (mg s 18 (y1 + y0)) (y1 + y0) r2 er2) (w := []) rfl ?_
      exact t124_67 hn mm_U r2 l x1 h0 h1 r e
def f124_25 (s : mS) (y0 : Int32) : Option mS := (if y0 = 0 then f124_40 s y0 (0 : Int32) (s.1 18) else f124_40 s y0 (2 : Int32) (s.1 18))
theorem t124_25 {d n : Nat} {Z : Nat → ab_C} (hn : 42 ≤ n) : ∀ (s : mS) (l : ab_L) (y0 : Int32) (h0 : ab_get l 0 = some (.ref 22)) (r : mS) (e : f124_25 s y0 = some r), ab_Rn (d + 2) 124 25 l [.int y0] (ab_hl n (mm_F s Z)) (.inl none) (ab_hl n (mm_F r Z)) := by
  intro s l y0 h0 r e
  unfold f124_25 at e
  refine r_istore_n (pc := 25) p124 k124_25 (by decide) (fun l g h1 => ?_)
  have h0 := g 0 _ (by decide) h0 (Or.inl rfl)
  refine r_aload_n (pc := 26) p124 k124_26 h0 ?_
  refine r_dup (pc := 27) p124 k124_27 rfl ?_
  refine m_get hn (pc := 28) p124 k124_28 (v := .int (s.1 18)) rfl ?_
  refine r_iload_n (pc := 31) p124 k124_31 h1 ?_
  refine r_if_eq (pc := 32) p124 k124_32 (fun c => ?_) (fun c => ?_)
  · have e := (if_pos c).symm.trans e
    refine r_iconst (pc := 39) p124 k124_39 (v := (0 : Int32)) rfl ?_
    exact t124_40 hn s l y0 (0 : Int32) (s.1 18) h0 h1 r e
  · have e := (if_neg c).symm.trans e
    refine r_iconst (pc := 35) p124 k124_35 (v := (2 : Int32)) rfl ?_
    refine r_goto (pc := 36) p124 k124_36 ?_
    exact t124_40 hn s l y0 (2 : Int32) (s.1 18) h0 h1 r e
def f124_24 (s : mS) : Option mS := f124_25 s (0 : Int32)
theorem t124_24 {d n : Nat} {Z : Nat → ab_C} (hn : 42 ≤ n) : ∀ (s : mS) (l : ab_L)  (h0 : ab_get l 0 = some (.ref 22)) (r : mS) (e : f124_24 s  = some r), ab_Rn (d + 2) 124 24 l [] (ab_hl n (mm_F s Z)) (.inl none) (ab_hl n (mm_F r Z)) := by
  intro s l h0 r e
  unfold f124_24 at e
  refine r_iconst (pc := 24) p124 k124_24 (v := (0 : Int32)) rfl ?_
  exact t124_25 hn s l (0 : Int32) h0 r e
def f124 (s : mS) : Option mS := ((f119 s (0 : Int32)).bind fun r1 => (if r1 = (48 : Int32) then ((f119 s (1 : Int32)).bind fun r2 => (if r2 = (120 : Int32) then f124_25 s (1 : Int32) else f124_24 s)) else f124_24 s))
theorem t124 {d n : Nat} {Z : Nat → ab_C} (hn : 42 ≤ n) (s : mS) (r : mS) (e : f124 s = some r) : ab_Rn (d + 2) 124 0 (lv_args 0 [.ref 22]) [] (ab_hl n (mm_F s Z)) (.inl none) (ab_hl n (mm_F r Z)) := by
  unfold f124 at e
  obtain ⟨l, hl⟩ : ∃ l, l = (lv_args 0 [.ref 22]) := ⟨_, rfl⟩
  rw [← hl]
  have h0 : ab_get l 0 = some (.ref 22) := by rw [hl]; rfl
  refine r_aload_n (pc := 0) p124 k124_0 h0 ?_
  refine r_iconst (pc := 1) p124 k124_1 (v := (0 : Int32)) rfl ?_
  obtain ⟨r1, er1, e⟩ := of_bind e
  refine m_cv hn (pc := 2) p124 k124_2 rfl p119 (r := []) rfl rfl rfl rfl rfl (t119 hn s (0 : Int32) r1 er1) (w := [.int r1]) rfl ?_
  refine r_bipush (pc := 5) p124 k124_5 (v := (48 : Int32)) rfl ?_
  refine r_ic_ne (pc := 7) p124 k124_7 (fun c => ?_) (fun c => ?_)
  · have e := (if_neg c).symm.trans e
    exact t124_24 hn s l h0 r e
  · have e := (if_pos c).symm.trans e
    refine r_aload_n (pc := 10) p124 k124_10 h0 ?_
    refine r_iconst (pc := 11) p124 k124_11 (v := (1 : Int32)) rfl ?_
    obtain ⟨r2, er2, e⟩ := of_bind e
    refine m_cv hn (pc := 12) p124 k124_12 rfl p119 (r := []) rfl rfl rfl rfl rfl (t119 hn s (1 : Int32) r2 er2) (w := [.int r2]) rfl ?_
    refine r_bipush (pc := 15) p124 k124_15 (v := (120 : Int32)) rfl ?_
    refine r_ic_ne (pc := 17) p124 k124_17 (fun c => ?_) (fun c => ?_)
    · have e := (if_neg c).symm.trans e
      exact t124_24 hn s l h0 r e
    · have e := (if_pos c).symm.trans e
      refine r_iconst (pc := 20) p124 k124_20 (v := (1 : Int32)) rfl ?_
      refine r_goto (pc := 21) p124 k124_21 ?_
      exact t124_25 hn s l (1 : Int32) h0 r e

theorem p127 : ab_prog[127]? = some (ab_m127, ab_c127) := rfl
theorem k127_0 : ab_fetch ab_c127 0 = some (.aload_n 0, 1, 0, 0) := rfl
theorem k127_1 : ab_fetch ab_c127 1 = some (.iconst 0, 1, 0, 0) := rfl
theorem k127_2 : ab_fetch ab_c127 2 = some (.invokevirtual 335, 3, 119, 1) := rfl
theorem k127_5 : ab_fetch ab_c127 5 = some (.istore_n 2, 1, 0, 0) := rfl
theorem k127_6 : ab_fetch ab_c127 6 = some (.iload_n 2, 1, 0, 0) := rfl
theorem k127_7 : ab_fetch ab_c127 7 = some (.bipush 92, 2, 0, 0) := rfl
theorem k127_9 : ab_fetch ab_c127 9 = some (.if_icmp .ne 100, 3, 109, 0) := rfl
theorem k127_12 : ab_fetch ab_c127 12 = some (.aload_n 0, 1, 0, 0) := rfl
theorem k127_13 : ab_fetch ab_c127 13 = some (.dup, 1, 0, 0) := rfl
theorem k127_14 : ab_fetch ab_c127 14 = some (.getfield 322, 3, 6, 18) := rfl
theorem k127_17 : ab_fetch ab_c127 17 = some (.iconst 1, 1, 0, 0) := rfl
theorem k127_18 : ab_fetch ab_c127 18 = some (.iadd, 1, 0, 0) := rfl
theorem k127_19 : ab_fetch ab_c127 19 = some (.putfield 322, 3, 6, 18) := rfl
theorem k127_22 : ab_fetch ab_c127 22 = some (.aload_n 0, 1, 0, 0) := rfl
theorem k127_23 : ab_fetch ab_c127 23 = some (.iconst 0, 1, 0, 0) := rfl
theorem k127_24 : ab_fetch ab_c127 24 = some (.invokevirtual 335, 3, 119, 1) := rfl
theorem k127_27 : ab_fetch ab_c127 27 = some (.istore_n 2, 1, 0, 0) := rfl
theorem k127_28 : ab_fetch ab_c127 28 = some (.iload_n 2, 1, 0, 0) := rfl
theorem k127_29 : ab_fetch ab_c127 29 = some (.bipush 110, 2, 0, 0) := rfl
theorem k127_31 : ab_fetch ab_c127 31 = some (.if_icmp .ne 8, 3, 39, 0) := rfl
theorem k127_34 : ab_fetch ab_c127 34 = some (.bipush 10, 2, 0, 0) := rfl
theorem k127_36 : ab_fetch ab_c127 36 = some (.goto 47, 3, 83, 0) := rfl
theorem k127_39 : ab_fetch ab_c127 39 = some (.iload_n 2, 1, 0, 0) := rfl
theorem k127_40 : ab_fetch ab_c127 40 = some (.bipush 116, 2, 0, 0) := rfl
theorem k127_42 : ab_fetch ab_c127 42 = some (.if_icmp .ne 8, 3, 50, 0) := rfl
theorem k127_45 : ab_fetch ab_c127 45 = some (.bipush 9, 2, 0, 0) := rfl
theorem k127_47 : ab_fetch ab_c127 47 = some (.goto 36, 3, 83, 0) := rfl
theorem k127_50 : ab_fetch ab_c127 50 = some (.iload_n 2, 1, 0, 0) := rfl
theorem k127_51 : ab_fetch ab_c127 51 = some (.bipush 48, 2, 0, 0) := rfl
theorem k127_53 : ab_fetch ab_c127 53 = some (.if_icmp .ne 7, 3, 60, 0) := rfl
theorem k127_56 : ab_fetch ab_c127 56 = some (.iconst 0, 1, 0, 0) := rfl
theorem k127_57 : ab_fetch ab_c127 57 = some (.goto 26, 3, 83, 0) := rfl
theorem k127_60 : ab_fetch ab_c127 60 = some (.iload_n 2, 1, 0, 0) := rfl
theorem k127_61 : ab_fetch ab_c127 61 = some (.bipush 92, 2, 0, 0) := rfl
theorem k127_63 : ab_fetch ab_c127 63 = some (.if_icmp .eq 15, 3, 78, 0) := rfl
theorem k127_66 : ab_fetch ab_c127 66 = some (.iload_n 2, 1, 0, 0) := rfl
theorem k127_67 : ab_fetch ab_c127 67 = some (.bipush 39, 2, 0, 0) := rfl
theorem k127_69 : ab_fetch ab_c127 69 = some (.if_icmp .eq 9, 3, 78, 0) := rfl
theorem k127_72 : ab_fetch ab_c127 72 = some (.iload_n 2, 1, 0, 0) := rfl
theorem k127_73 : ab_fetch ab_c127 73 = some (.bipush 34, 2, 0, 0) := rfl
theorem k127_75 : ab_fetch ab_c127 75 = some (.if_icmp .ne 7, 3, 82, 0) := rfl
theorem k127_78 : ab_fetch ab_c127 78 = some (.iload_n 2, 1, 0, 0) := rfl
theorem k127_79 : ab_fetch ab_c127 79 = some (.goto 4, 3, 83, 0) := rfl
theorem k127_82 : ab_fetch ab_c127 82 = some (.iconst (-1), 1, 0, 0) := rfl
theorem k127_83 : ab_fetch ab_c127 83 = some (.istore_n 3, 1, 0, 0) := rfl
theorem k127_84 : ab_fetch ab_c127 84 = some (.iload_n 3, 1, 0, 0) := rfl
theorem k127_85 : ab_fetch ab_c127 85 = some (.iconst (-1), 1, 0, 0) := rfl
theorem k127_86 : ab_fetch ab_c127 86 = some (.if_icmp .ne 11, 3, 97, 0) := rfl
theorem k127_89 : ab_fetch ab_c127 89 = some (.aload_n 0, 1, 0, 0) := rfl
theorem k127_90 : ab_fetch ab_c127 90 = some (.aload_n 0, 1, 0, 0) := rfl
theorem k127_91 : ab_fetch ab_c127 91 = some (.getfield 322, 3, 6, 18) := rfl
theorem k127_94 : ab_fetch ab_c127 94 = some (.invokevirtual 361, 3, 123, 1) := rfl
theorem k127_97 : ab_fetch ab_c127 97 = some (.aload_n 0, 1, 0, 0) := rfl
theorem k127_98 : ab_fetch ab_c127 98 = some (.dup, 1, 0, 0) := rfl
theorem k127_99 : ab_fetch ab_c127 99 = some (.getfield 322, 3, 6, 18) := rfl
theorem k127_102 : ab_fetch ab_c127 102 = some (.iconst 1, 1, 0, 0) := rfl
theorem k127_103 : ab_fetch ab_c127 103 = some (.iadd, 1, 0, 0) := rfl
theorem k127_104 : ab_fetch ab_c127 104 = some (.putfield 322, 3, 6, 18) := rfl
theorem k127_107 : ab_fetch ab_c127 107 = some (.iload_n 3, 1, 0, 0) := rfl
theorem k127_108 : ab_fetch ab_c127 108 = some (.ireturn, 1, 0, 0) := rfl
theorem k127_109 : ab_fetch ab_c127 109 = some (.iload_n 2, 1, 0, 0) := rfl
theorem k127_110 : ab_fetch ab_c127 110 = some (.bipush 32, 2, 0, 0) := rfl
theorem k127_112 : ab_fetch ab_c127 112 = some (.if_icmp .lt 14, 3, 126, 0) := rfl
theorem k127_115 : ab_fetch ab_c127 115 = some (.iload_n 2, 1, 0, 0) := rfl
theorem k127_116 : ab_fetch ab_c127 116 = some (.bipush 126, 2, 0, 0) := rfl
theorem k127_118 : ab_fetch ab_c127 118 = some (.if_icmp .gt 8, 3, 126, 0) := rfl
theorem k127_121 : ab_fetch ab_c127 121 = some (.iload_n 2, 1, 0, 0) := rfl
theorem k127_122 : ab_fetch ab_c127 122 = some (.iload_n 1, 1, 0, 0) := rfl
theorem k127_123 : ab_fetch ab_c127 123 = some (.if_icmp .ne 11, 3, 134, 0) := rfl
theorem k127_126 : ab_fetch ab_c127 126 = some (.aload_n 0, 1, 0, 0) := rfl
theorem k127_127 : ab_fetch ab_c127 127 = some (.aload_n 0, 1, 0, 0) := rfl
theorem k127_128 : ab_fetch ab_c127 128 = some (.getfield 322, 3, 6, 18) := rfl
theorem k127_131 : ab_fetch ab_c127 131 = some (.invokevirtual 361, 3, 123, 1) := rfl
theorem k127_134 : ab_fetch ab_c127 134 = some (.aload_n 0, 1, 0, 0) := rfl
theorem k127_135 : ab_fetch ab_c127 135 = some (.dup, 1, 0, 0) := rfl
theorem k127_136 : ab_fetch ab_c127 136 = some (.getfield 322, 3, 6, 18) := rfl
theorem k127_139 : ab_fetch ab_c127 139 = some (.iconst 1, 1, 0, 0) := rfl
theorem k127_140 : ab_fetch ab_c127 140 = some (.iadd, 1, 0, 0) := rfl
theorem k127_141 : ab_fetch ab_c127 141 = some (.putfield 322, 3, 6, 18) := rfl
theorem k127_144 : ab_fetch ab_c127 144 = some (.iload_n 2, 1, 0, 0) := rfl
theorem k127_145 : ab_fetch ab_c127 145 = some (.ireturn, 1, 0, 0) := rfl
/- CodeSmithModel character(I)I -/
def f127_134 (s : mS) (x2 : Int32) : Option (Int32 × mS) := some (x2, (mg s 18 ((s.1 18) + (1 : Int32))))
theorem t127_134 {d n : Nat} {Z : Nat → ab_C} (hn : 42 ≤ n) : ∀ (s : mS) (l : ab_L) (x2 : Int32) (h0 : ab_get l 0 = some (.ref 22)) (h2 : ab_get l 2 = some (.int x2)) (r : Int32 × mS) (e : f127_134 s x2 = some r), ab_Rn (d + 1) 127 134 l [] (ab_hl n (mm_F s Z)) (.inl (some (.int r.1))) (ab_hl n (mm_F r.2 Z)) := by
  intro s l x2 h0 h2 r e
  unfold f127_134 at e
  refine r_aload_n (pc := 134) p127 k127_134 h0 ?_
  refine r_dup (pc := 135) p127 k127_135 rfl ?_
  refine m_get hn (pc := 136) p127 k127_136 (v := .int (s.1 18)) rfl ?_
  refine r_iconst (pc := 139) p127 k127_139 (v := (1 : Int32)) rfl ?_
  refine r_iadd (pc := 140) p127 k127_140 ?_
  refine m_put hn (pc := 141) p127 k127_141 rfl rfl rfl rfl ?_
  refine r_iload_n (pc := 144) p127 k127_144 h2 ?_
  cases e
  exact r_retI (pc := 145) p127 k127_145 rfl
def f127_126 (s : mS) (x2 : Int32) : Option (Int32 × mS) := ((f123 s (s.1 18)).bind fun r1 => f127_134 r1 x2)
theorem t127_126 {d n : Nat} {Z : Nat → ab_C} (hn : 42 ≤ n) : ∀ (s : mS) (l : ab_L) (x2 : Int32) (h0 : ab_get l 0 = some (.ref 22)) (h2 : ab_get l 2 = some (.int x2)) (r : Int32 × mS) (e : f127_126 s x2 = some r), ab_Rn (d + 1) 127 126 l [] (ab_hl n (mm_F s Z)) (.inl (some (.int r.1))) (ab_hl n (mm_F r.2 Z)) := by
  intro s l x2 h0 h2 r e
  unfold f127_126 at e
  refine r_aload_n (pc := 126) p127 k127_126 h0 ?_
  refine r_aload_n (pc := 127) p127 k127_127 h0 ?_
  refine m_get hn (pc := 128) p127 k127_128 (v := .int (s.1 18)) rfl ?_
  obtain ⟨r1, er1, e⟩ := of_bind e
  refine m_cv hn (pc := 131) p127 k127_131 rfl p123 (r := []) rfl rfl rfl rfl rfl (t123 hn s (s.1 18) r1 er1) (w := []) rfl ?_
  exact t127_134 hn r1 l x2 h0 h2 r e
def f127_97 (s : mS) (x3 : Int32) : Option (Int32 × mS) := some (x3, (mg s 18 ((s.1 18) + (1 : Int32))))
theorem t127_97 {d n : Nat} {Z : Nat → ab_C} (hn : 42 ≤ n) : ∀ (s : mS) (l : ab_L) (x3 : Int32) (h0 : ab_get l 0 = some (.ref 22)) (h3 : ab_get l 3 = some (.int x3)) (r : Int32 × mS) (e : f127_97 s x3 = some r), ab_Rn (d + 1) 127 97 l [] (ab_hl n (mm_F s Z)) (.inl (some (.int r.1))) (ab_hl n (mm_F r.2 Z)) := by
  intro s l x3 h0 h3 r e
  unfold f127_97 at e
  refine r_aload_n (pc := 97) p127 k127_97 h0 ?_
  refine r_dup (pc := 98) p127 k127_98 rfl ?_
  refine m_get hn (pc := 99) p127 k127_99 (v := .int (s.1 18)) rfl ?_
  refine r_iconst (pc := 102) p127 k127_102 (v := (1 : Int32)) rfl ?_
  refine r_iadd (pc := 103) p127 k127_103 ?_
  refine m_put hn (pc := 104) p127 k127_104 rfl rfl rfl rfl ?_
  refine r_iload_n (pc := 107) p127 k127_107 h3 ?_
  cases e
  exact r_retI (pc := 108) p127 k127_108 rfl
def f127_83 (s : mS) (y0 : Int32) : Option (Int32 × mS) := (if y0 = (-1 : Int32) then ((f123 s (s.1 18)).bind fun r1 => f127_97 r1 y0) else f127_97 s y0)
theorem t127_83 {d n : Nat} {Z : Nat → ab_C} (hn : 42 ≤ n) : ∀ (s : mS) (l : ab_L) (y0 : Int32) (h0 : ab_get l 0 = some (.ref 22)) (r : Int32 × mS) (e : f127_83 s y0 = some r), ab_Rn (d + 1) 127 83 l [.int y0] (ab_hl n (mm_F s Z)) (.inl (some (.int r.1))) (ab_hl n (mm_F r.2 Z)) := by
  intro s l y0 h0 r e
  unfold f127_83 at e
  refine r_istore_n (pc := 83) p127 k127_83 (by decide) (fun l g h3 => ?_)
  have h0 := g 0 _ (by decide) h0 (Or.inl rfl)
  refine r_iload_n (pc := 84) p127 k127_84 h3 ?_
  refine r_iconst (pc := 85) p127 k127_85 (v := (-1 : Int32)) rfl ?_
  refine r_ic_ne (pc := 86) p127 k127_86 (fun c => ?_) (fun c => ?_)
  · have e := (if_neg c).symm.trans e
    exact t127_97 hn s l y0 h0 h3 r e
  · have e := (if_pos c).symm.trans e
    refine r_aload_n (pc := 89) p127 k127_89 h0 ?_
    refine r_aload_n (pc := 90) p127 k127_90 h0 ?_
    refine m_get hn (pc := 91) p127 k127_91 (v := .int (s.1 18)) rfl ?_
    obtain ⟨r1, er1, e⟩ := of_bind e
    refine m_cv hn (pc := 94) p127 k127_94 rfl p123 (r := []) rfl rfl rfl rfl rfl (t123 hn s (s.1 18) r1 er1) (w := []) rfl ?_
    exact t127_97 hn r1 l y0 h0 h3 r e
def f127_78 (s : mS) (x2 : Int32) : Option (Int32 × mS) := f127_83 s x2
theorem t127_78 {d n : Nat} {Z : Nat → ab_C} (hn : 42 ≤ n) : ∀ (s : mS) (l : ab_L) (x2 : Int32) (h0 : ab_get l 0 = some (.ref 22)) (h2 : ab_get l 2 = some (.int x2)) (r : Int32 × mS) (e : f127_78 s x2 = some r), ab_Rn (d + 1) 127 78 l [] (ab_hl n (mm_F s Z)) (.inl (some (.int r.1))) (ab_hl n (mm_F r.2 Z)) := by
  intro s l x2 h0 h2 r e
  unfold f127_78 at e
  refine r_iload_n (pc := 78) p127 k127_78 h2 ?_
  refine r_goto (pc := 79) p127 k127_79 ?_
  exact t127_83 hn s l x2 h0 r e
def f127 (s : mS) (x1 : Int32) : Option (Int32 × mS) := ((f119 s (0 : Int32)).bind fun r1 => (if r1 = (92 : Int32) then ((f119 (mg s 18 ((s.1 18) + (1 : Int32))) (0 : Int32)).bind fun r2 => (if r2 = (110 : Int32) then f127_83 (mg s 18 ((s.1 18) + (1 : Int32))) (10 : Int32) else (if r2 = (116 : Int32) then f127_83 (mg s 18 ((s.1 18) + (1 : Int32))) (9 : Int32) else (if r2 = (48 : Int32) then f127_83 (mg s 18 ((s.1 18) + (1 : Int32))) (0 : Int32) else (if r2 = (92 : Int32) then f127_78 (mg s 18 ((s.1 18) + (1 : Int32))) r2 else (if r2 = (39 : Int32) then f127_78 (mg s 18 ((s.1 18) + (1 : Int32))) r2 else (if r2 = (34 : Int32) then f127_78 (mg s 18 ((s.1 18) + (1 : Int32))) r2 else f127_83 (mg s 18 ((s.1 18) + (1 : Int32))) (-1 : Int32)))))))) else (if r1 < (32 : Int32) then f127_126 s r1 else (if (126 : Int32) < r1 then f127_126 s r1 else (if r1 = x1 then f127_126 s r1 else f127_134 s r1)))))
theorem t127 {d n : Nat} {Z : Nat → ab_C} (hn : 42 ≤ n) (s : mS) (x1 : Int32) (r : Int32 × mS) (e : f127 s x1 = some r) : ab_Rn (d + 1) 127 0 (lv_args 0 [.ref 22, .int x1]) [] (ab_hl n (mm_F s Z)) (.inl (some (.int r.1))) (ab_hl n (mm_F r.2 Z)) := by
  unfold f127 at e
  obtain ⟨l, hl⟩ : ∃ l, l = (lv_args 0 [.ref 22, .int x1]) := ⟨_, rfl⟩
  rw [← hl]
  have h0 : ab_get l 0 = some (.ref 22) := by rw [hl]; rfl
  have h1 : ab_get l 1 = some (.int x1) := by rw [hl]; rfl
  refine r_aload_n (pc := 0) p127 k127_0 h0 ?_
  refine r_iconst (pc := 1) p127 k127_1 (v := (0 : Int32)) rfl ?_
  obtain ⟨r1, er1, e⟩ := of_bind e
  refine m_cv hn (pc := 2) p127 k127_2 rfl p119 (r := []) rfl rfl rfl rfl rfl (t119 hn s (0 : Int32) r1 er1) (w := [.int r1]) rfl ?_
  refine r_istore_n (pc := 5) p127 k127_5 (by decide) (fun l g h2 => ?_)
  have h0 := g 0 _ (by decide) h0 (Or.inl rfl)
  have h1 := g 1 _ (by decide) h1 (Or.inl rfl)
  refine r_iload_n (pc := 6) p127 k127_6 h2 ?_
  refine r_bipush (pc := 7) p127 k127_7 (v := (92 : Int32)) rfl ?_
  refine r_ic_ne (pc := 9) p127 k127_9 (fun c => ?_) (fun c => ?_)
  · have e := (if_neg c).symm.trans e
    refine r_iload_n (pc := 109) p127 k127_109 h2 ?_
    refine r_bipush (pc := 110) p127 k127_110 (v := (32 : Int32)) rfl ?_
    refine r_ic_lt (pc := 112) p127 k127_112 (fun c => ?_) (fun c => ?_)
    · have e := (if_pos c).symm.trans e
      exact t127_126 hn s l r1 h0 h2 r e
    · have e := (if_neg c).symm.trans e
      refine r_iload_n (pc := 115) p127 k127_115 h2 ?_
      refine r_bipush (pc := 116) p127 k127_116 (v := (126 : Int32)) rfl ?_
      refine r_ic_gt (pc := 118) p127 k127_118 (fun c => ?_) (fun c => ?_)
      · have e := (if_pos c).symm.trans e
        exact t127_126 hn s l r1 h0 h2 r e
      · have e := (if_neg c).symm.trans e
        refine r_iload_n (pc := 121) p127 k127_121 h2 ?_
        refine r_iload_n (pc := 122) p127 k127_122 h1 ?_
        refine r_ic_ne (pc := 123) p127 k127_123 (fun c => ?_) (fun c => ?_)
        · have e := (if_neg c).symm.trans e
          exact t127_134 hn s l r1 h0 h2 r e
        · have e := (if_pos c).symm.trans e
          exact t127_126 hn s l r1 h0 h2 r e
  · have e := (if_pos c).symm.trans e
    refine r_aload_n (pc := 12) p127 k127_12 h0 ?_
    refine r_dup (pc := 13) p127 k127_13 rfl ?_
    refine m_get hn (pc := 14) p127 k127_14 (v := .int (s.1 18)) rfl ?_
    refine r_iconst (pc := 17) p127 k127_17 (v := (1 : Int32)) rfl ?_
    refine r_iadd (pc := 18) p127 k127_18 ?_
    refine m_put hn (pc := 19) p127 k127_19 rfl rfl rfl rfl ?_
    refine r_aload_n (pc := 22) p127 k127_22 h0 ?_
    refine r_iconst (pc := 23) p127 k127_23 (v := (0 : Int32)) rfl ?_
    obtain ⟨r2, er2, e⟩ := of_bind e
    refine m_cv hn (pc := 24) p127 k127_24 rfl p119 (r := []) rfl rfl rfl rfl rfl (t119 hn (mg s 18 ((s.1 18) + (1 : Int32))) (0 : Int32) r2 er2) (w := [.int r2]) rfl ?_
    refine r_istore_n (pc := 27) p127 k127_27 (by decide) (fun l g h2 => ?_)
    have h0 := g 0 _ (by decide) h0 (Or.inl rfl)
    refine r_iload_n (pc := 28) p127 k127_28 h2 ?_
    refine r_bipush (pc := 29) p127 k127_29 (v := (110 : Int32)) rfl ?_
    refine r_ic_ne (pc := 31) p127 k127_31 (fun c => ?_) (fun c => ?_)
    · have e := (if_neg c).symm.trans e
      refine r_iload_n (pc := 39) p127 k127_39 h2 ?_
      refine r_bipush (pc := 40) p127 k127_40 (v := (116 : Int32)) rfl ?_
      refine r_ic_ne (pc := 42) p127 k127_42 (fun c => ?_) (fun c => ?_)
      · have e := (if_neg c).symm.trans e
        refine r_iload_n (pc := 50) p127 k127_50 h2 ?_
        refine r_bipush (pc := 51) p127 k127_51 (v := (48 : Int32)) rfl ?_
        refine r_ic_ne (pc := 53) p127 k127_53 (fun c => ?_) (fun c => ?_)
        · have e := (if_neg c).symm.trans e
          refine r_iload_n (pc := 60) p127 k127_60 h2 ?_
          refine r_bipush (pc := 61) p127 k127_61 (v := (92 : Int32)) rfl ?_
          refine r_ic_eq (pc := 63) p127 k127_63 (fun c => ?_) (fun c => ?_)
          · have e := (if_pos c).symm.trans e
            exact t127_78 hn (mg s 18 ((s.1 18) + (1 : Int32))) l r2 h0 h2 r e
          · have e := (if_neg c).symm.trans e
            refine r_iload_n (pc := 66) p127 k127_66 h2 ?_
            refine r_bipush (pc := 67) p127 k127_67 (v := (39 : Int32)) rfl ?_
            refine r_ic_eq (pc := 69) p127 k127_69 (fun c => ?_) (fun c => ?_)
            · have e := (if_pos c).symm.trans e
              exact t127_78 hn (mg s 18 ((s.1 18) + (1 : Int32))) l r2 h0 h2 r e
            · have e := (if_neg c).symm.trans e
              refine r_iload_n (pc := 72) p127 k127_72 h2 ?_
              refine r_bipush (pc := 73) p127 k127_73 (v := (34 : Int32)) rfl ?_
              refine r_ic_ne (pc := 75) p127 k127_75 (fun c => ?_) (fun c => ?_)
              · have e := (if_neg c).symm.trans e
                refine r_iconst (pc := 82) p127 k127_82 (v := (-1 : Int32)) rfl ?_
                exact t127_83 hn (mg s 18 ((s.1 18) + (1 : Int32))) l (-1 : Int32) h0 r e
              · have e := (if_pos c).symm.trans e
                exact t127_78 hn (mg s 18 ((s.1 18) + (1 : Int32))) l r2 h0 h2 r e
        · have e := (if_pos c).symm.trans e
          refine r_iconst (pc := 56) p127 k127_56 (v := (0 : Int32)) rfl ?_
          refine r_goto (pc := 57) p127 k127_57 ?_
          exact t127_83 hn (mg s 18 ((s.1 18) + (1 : Int32))) l (0 : Int32) h0 r e
      · have e := (if_pos c).symm.trans e
        refine r_bipush (pc := 45) p127 k127_45 (v := (9 : Int32)) rfl ?_
        refine r_goto (pc := 47) p127 k127_47 ?_
        exact t127_83 hn (mg s 18 ((s.1 18) + (1 : Int32))) l (9 : Int32) h0 r e
    · have e := (if_pos c).symm.trans e
      refine r_bipush (pc := 34) p127 k127_34 (v := (10 : Int32)) rfl ?_
      refine r_goto (pc := 36) p127 k127_36 ?_
      exact t127_83 hn (mg s 18 ((s.1 18) + (1 : Int32))) l (10 : Int32) h0 r e
