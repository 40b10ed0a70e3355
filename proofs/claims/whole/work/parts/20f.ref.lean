theorem p156 : ab_prog[156]? = some (ab_m156, ab_c156) := rfl
theorem k156_0 : ab_fetch ab_c156 0 = some (.aload_n 0, 1, 0, 0) := rfl
theorem k156_1 : ab_fetch ab_c156 1 = some (.getfield 358, 3, 6, 20) := rfl
theorem k156_4 : ab_fetch ab_c156 4 = some (.iconst 4, 1, 0, 0) := rfl
theorem k156_5 : ab_fetch ab_c156 5 = some (.if_icmp .ne 20, 3, 25, 0) := rfl
theorem k156_8 : ab_fetch ab_c156 8 = some (.aload_n 0, 1, 0, 0) := rfl
theorem k156_9 : ab_fetch ab_c156 9 = some (.getfield 307, 3, 6, 11) := rfl
theorem k156_12 : ab_fetch ab_c156 12 = some (.ifCond .ne 13, 3, 25, 0) := rfl
theorem k156_15 : ab_fetch ab_c156 15 = some (.aload_n 0, 1, 0, 0) := rfl
theorem k156_16 : ab_fetch ab_c156 16 = some (.getfield 352, 3, 6, 22) := rfl
theorem k156_19 : ab_fetch ab_c156 19 = some (.invokestatic 424, 3, 150, 1) := rfl
theorem k156_22 : ab_fetch ab_c156 22 = some (.goto 4, 3, 26, 0) := rfl
theorem k156_25 : ab_fetch ab_c156 25 = some (.iconst 0, 1, 0, 0) := rfl
theorem k156_26 : ab_fetch ab_c156 26 = some (.istore_n 2, 1, 0, 0) := rfl
theorem k156_27 : ab_fetch ab_c156 27 = some (.iload_n 2, 1, 0, 0) := rfl
theorem k156_28 : ab_fetch ab_c156 28 = some (.ifCond .le 58, 3, 86, 0) := rfl
theorem k156_31 : ab_fetch ab_c156 31 = some (.aload_n 0, 1, 0, 0) := rfl
theorem k156_32 : ab_fetch ab_c156 32 = some (.invokevirtual 398, 3, 130, 0) := rfl
theorem k156_35 : ab_fetch ab_c156 35 = some (.aload_n 0, 1, 0, 0) := rfl
theorem k156_36 : ab_fetch ab_c156 36 = some (.getfield 421, 3, 6, 40) := rfl
theorem k156_39 : ab_fetch ab_c156 39 = some (.ifCond .le 29, 3, 68, 0) := rfl
theorem k156_42 : ab_fetch ab_c156 42 = some (.aload_n 0, 1, 0, 0) := rfl
theorem k156_43 : ab_fetch ab_c156 43 = some (.getfield 288, 3, 6, 43) := rfl
theorem k156_46 : ab_fetch ab_c156 46 = some (.aload_n 0, 1, 0, 0) := rfl
theorem k156_47 : ab_fetch ab_c156 47 = some (.getfield 421, 3, 6, 40) := rfl
theorem k156_50 : ab_fetch ab_c156 50 = some (.iconst 1, 1, 0, 0) := rfl
theorem k156_51 : ab_fetch ab_c156 51 = some (.isub, 1, 0, 0) := rfl
theorem k156_52 : ab_fetch ab_c156 52 = some (.iaload, 1, 0, 0) := rfl
theorem k156_53 : ab_fetch ab_c156 53 = some (.invokestatic 424, 3, 150, 1) := rfl
theorem k156_56 : ab_fetch ab_c156 56 = some (.iload_n 2, 1, 0, 0) := rfl
theorem k156_57 : ab_fetch ab_c156 57 = some (.if_icmp .lt 11, 3, 68, 0) := rfl
theorem k156_60 : ab_fetch ab_c156 60 = some (.aload_n 0, 1, 0, 0) := rfl
theorem k156_61 : ab_fetch ab_c156 61 = some (.iload_n 1, 1, 0, 0) := rfl
theorem k156_62 : ab_fetch ab_c156 62 = some (.invokevirtual 437, 3, 151, 1) := rfl
theorem k156_65 : ab_fetch ab_c156 65 = some (.goto (-30), 3, 35, 0) := rfl
theorem k156_68 : ab_fetch ab_c156 68 = some (.aload_n 0, 1, 0, 0) := rfl
theorem k156_69 : ab_fetch ab_c156 69 = some (.aload_n 0, 1, 0, 0) := rfl
theorem k156_70 : ab_fetch ab_c156 70 = some (.getfield 352, 3, 6, 22) := rfl
theorem k156_73 : ab_fetch ab_c156 73 = some (.aload_n 0, 1, 0, 0) := rfl
theorem k156_74 : ab_fetch ab_c156 74 = some (.getfield 349, 3, 6, 21) := rfl
theorem k156_77 : ab_fetch ab_c156 77 = some (.invokevirtual 440, 3, 154, 2) := rfl
theorem k156_80 : ab_fetch ab_c156 80 = some (.aload_n 0, 1, 0, 0) := rfl
theorem k156_81 : ab_fetch ab_c156 81 = some (.invokevirtual 387, 3, 117, 0) := rfl
theorem k156_84 : ab_fetch ab_c156 84 = some (.iconst 1, 1, 0, 0) := rfl
theorem k156_85 : ab_fetch ab_c156 85 = some (.ireturn, 1, 0, 0) := rfl
theorem k156_86 : ab_fetch ab_c156 86 = some (.aload_n 0, 1, 0, 0) := rfl
theorem k156_87 : ab_fetch ab_c156 87 = some (.getfield 421, 3, 6, 40) := rfl
theorem k156_90 : ab_fetch ab_c156 90 = some (.ifCond .le 28, 3, 118, 0) := rfl
theorem k156_93 : ab_fetch ab_c156 93 = some (.aload_n 0, 1, 0, 0) := rfl
theorem k156_94 : ab_fetch ab_c156 94 = some (.getfield 288, 3, 6, 43) := rfl
theorem k156_97 : ab_fetch ab_c156 97 = some (.aload_n 0, 1, 0, 0) := rfl
theorem k156_98 : ab_fetch ab_c156 98 = some (.getfield 421, 3, 6, 40) := rfl
theorem k156_101 : ab_fetch ab_c156 101 = some (.iconst 1, 1, 0, 0) := rfl
theorem k156_102 : ab_fetch ab_c156 102 = some (.isub, 1, 0, 0) := rfl
theorem k156_103 : ab_fetch ab_c156 103 = some (.iaload, 1, 0, 0) := rfl
theorem k156_104 : ab_fetch ab_c156 104 = some (.invokestatic 424, 3, 150, 1) := rfl
theorem k156_107 : ab_fetch ab_c156 107 = some (.ifCond .le 11, 3, 118, 0) := rfl
theorem k156_110 : ab_fetch ab_c156 110 = some (.aload_n 0, 1, 0, 0) := rfl
theorem k156_111 : ab_fetch ab_c156 111 = some (.iload_n 1, 1, 0, 0) := rfl
theorem k156_112 : ab_fetch ab_c156 112 = some (.invokevirtual 437, 3, 151, 1) := rfl
theorem k156_115 : ab_fetch ab_c156 115 = some (.goto (-29), 3, 86, 0) := rfl
theorem k156_118 : ab_fetch ab_c156 118 = some (.iconst 0, 1, 0, 0) := rfl
theorem k156_119 : ab_fetch ab_c156 119 = some (.ireturn, 1, 0, 0) := rfl
/- CodeSmithModel goesOn(I)Z -/
def f156_86 : Nat → mS → Int32 → Option (Int32 × mS)
  | 0, _, _ => none
  | u + 1, s, x1 => (if (s.1 40) ≤ 0 then some ((0 : Int32), s) else if ib ((s.1 40) - (1 : Int32)) 160 then (if (f150 ((s.2 43) ((s.1 40) - (1 : Int32)).toNatClampNeg)) ≤ 0 then some ((0 : Int32), s) else ((f151 s x1).bind fun r1 => f156_86 u r1 x1)) else none)
theorem t156_86 {d n : Nat} {Z : Nat → ab_C} (hn : 42 ≤ n) : ∀ u : Nat, ∀ (s : mS) (l : ab_L) (x1 : Int32) (h0 : ab_get l 0 = some (.ref 22)) (h1 : ab_get l 1 = some (.int x1)) (r : Int32 × mS) (e : f156_86 u s x1 = some r), ab_Rn (d + 4) 156 86 l [] (ab_hl n (mm_F s Z)) (.inl (some (.int r.1))) (ab_hl n (mm_F r.2 Z)) := by
  intro u
  induction u with
  | zero => intro s l x1 h0 h1 r e; rw [f156_86] at e; cases e
  | succ u ih =>
    intro s l x1 h0 h1 r e
    rw [f156_86] at e
    refine r_aload_n (pc := 86) p156 k156_86 h0 ?_
    refine m_get hn (pc := 87) p156 k156_87 (v := .int (s.1 40)) rfl ?_
    refine r_if_le (pc := 90) p156 k156_90 (fun c => ?_) (fun c => ?_)
    · have e := (if_pos c).symm.trans e
      refine r_iconst (pc := 118) p156 k156_118 (v := (0 : Int32)) rfl ?_
      cases e
      exact r_retZ (pc := 119) p156 k156_119 rfl (Or.inl rfl)
    · have e := (if_neg c).symm.trans e
      refine r_aload_n (pc := 93) p156 k156_93 h0 ?_
      refine m_get hn (pc := 94) p156 k156_94 (v := .ref 37) rfl ?_
      refine r_aload_n (pc := 97) p156 k156_97 h0 ?_
      refine m_get hn (pc := 98) p156 k156_98 (v := .int (s.1 40)) rfl ?_
      refine r_iconst (pc := 101) p156 k156_101 (v := (1 : Int32)) rfl ?_
      refine r_isub (pc := 102) p156 k156_102 ?_
      obtain ⟨c, e⟩ := of_if e
      refine r_iald (pc := 103) p156 k156_103 (m_lt hn rfl) (f := (s.2 43)) rfl c ?_
      refine r_csv (pc := 104) p156 k156_104 rfl rfl p150 (r := []) rfl rfl rfl rfl (t150 ((s.2 43) ((s.1 40) - (1 : Int32)).toNatClampNeg) _ rfl) (w := [.int (f150 ((s.2 43) ((s.1 40) - (1 : Int32)).toNatClampNeg))]) rfl ?_
      refine r_if_le (pc := 107) p156 k156_107 (fun c => ?_) (fun c => ?_)
      · have e := (if_pos c).symm.trans e
        refine r_iconst (pc := 118) p156 k156_118 (v := (0 : Int32)) rfl ?_
        cases e
        exact r_retZ (pc := 119) p156 k156_119 rfl (Or.inl rfl)
      · have e := (if_neg c).symm.trans e
        refine r_aload_n (pc := 110) p156 k156_110 h0 ?_
        refine r_iload_n (pc := 111) p156 k156_111 h1 ?_
        obtain ⟨r1, er1, e⟩ := of_bind e
        refine m_cv hn (pc := 112) p156 k156_112 rfl p151 (r := []) rfl rfl rfl rfl rfl (t151 hn s x1 r1 er1) (w := []) rfl ?_
        refine r_goto (pc := 115) p156 k156_115 ?_
        exact ih r1 l x1 h0 h1 r e
def f156_68 (s : mS) : Option (Int32 × mS) := ((f154 s (s.1 22) (s.1 21)).bind fun r1 => ((f117 r1).bind fun r2 => some ((1 : Int32), r2)))
theorem t156_68 {d n : Nat} {Z : Nat → ab_C} (hn : 42 ≤ n) : ∀ (s : mS) (l : ab_L)  (h0 : ab_get l 0 = some (.ref 22)) (r : Int32 × mS) (e : f156_68 s  = some r), ab_Rn (d + 4) 156 68 l [] (ab_hl n (mm_F s Z)) (.inl (some (.int r.1))) (ab_hl n (mm_F r.2 Z)) := by
  intro s l h0 r e
  unfold f156_68 at e
  refine r_aload_n (pc := 68) p156 k156_68 h0 ?_
  refine r_aload_n (pc := 69) p156 k156_69 h0 ?_
  refine m_get hn (pc := 70) p156 k156_70 (v := .int (s.1 22)) rfl ?_
  refine r_aload_n (pc := 73) p156 k156_73 h0 ?_
  refine m_get hn (pc := 74) p156 k156_74 (v := .int (s.1 21)) rfl ?_
  obtain ⟨r1, er1, e⟩ := of_bind e
  refine m_cv hn (pc := 77) p156 k156_77 rfl p154 (r := []) rfl rfl rfl rfl rfl (t154 hn s (s.1 22) (s.1 21) r1 er1) (w := []) rfl ?_
  refine r_aload_n (pc := 80) p156 k156_80 h0 ?_
  obtain ⟨r2, er2, e⟩ := of_bind e
  refine m_cv hn (pc := 81) p156 k156_81 rfl p117 (r := []) rfl rfl rfl rfl rfl (t117 hn r1 r2 er2) (w := []) rfl ?_
  refine r_iconst (pc := 84) p156 k156_84 (v := (1 : Int32)) rfl ?_
  cases e
  exact r_retZ (pc := 85) p156 k156_85 rfl (Or.inr rfl)
def f156_35 : Nat → mS → Int32 → Int32 → Option (Int32 × mS)
  | 0, _, _, _ => none
  | u + 1, s, x1, x2 => (if (s.1 40) ≤ 0 then f156_68 s else if ib ((s.1 40) - (1 : Int32)) 160 then (if (f150 ((s.2 43) ((s.1 40) - (1 : Int32)).toNatClampNeg)) < x2 then f156_68 s else ((f151 s x1).bind fun r1 => f156_35 u r1 x1 x2)) else none)
theorem t156_35 {d n : Nat} {Z : Nat → ab_C} (hn : 42 ≤ n) : ∀ u : Nat, ∀ (s : mS) (l : ab_L) (x1 : Int32) (x2 : Int32) (h0 : ab_get l 0 = some (.ref 22)) (h1 : ab_get l 1 = some (.int x1)) (h2 : ab_get l 2 = some (.int x2)) (r : Int32 × mS) (e : f156_35 u s x1 x2 = some r), ab_Rn (d + 4) 156 35 l [] (ab_hl n (mm_F s Z)) (.inl (some (.int r.1))) (ab_hl n (mm_F r.2 Z)) := by
  intro u
  induction u with
  | zero => intro s l x1 x2 h0 h1 h2 r e; rw [f156_35] at e; cases e
  | succ u ih =>
    intro s l x1 x2 h0 h1 h2 r e
    rw [f156_35] at e
    refine r_aload_n (pc := 35) p156 k156_35 h0 ?_
    refine m_get hn (pc := 36) p156 k156_36 (v := .int (s.1 40)) rfl ?_
    refine r_if_le (pc := 39) p156 k156_39 (fun c => ?_) (fun c => ?_)
    · have e := (if_pos c).symm.trans e
      exact t156_68 hn s l h0 r e
    · have e := (if_neg c).symm.trans e
      refine r_aload_n (pc := 42) p156 k156_42 h0 ?_
      refine m_get hn (pc := 43) p156 k156_43 (v := .ref 37) rfl ?_
      refine r_aload_n (pc := 46) p156 k156_46 h0 ?_
      refine m_get hn (pc := 47) p156 k156_47 (v := .int (s.1 40)) rfl ?_
      refine r_iconst (pc := 50) p156 k156_50 (v := (1 : Int32)) rfl ?_
      refine r_isub (pc := 51) p156 k156_51 ?_
      obtain ⟨c, e⟩ := of_if e
      refine r_iald (pc := 52) p156 k156_52 (m_lt hn rfl) (f := (s.2 43)) rfl c ?_
      refine r_csv (pc := 53) p156 k156_53 rfl rfl p150 (r := []) rfl rfl rfl rfl (t150 ((s.2 43) ((s.1 40) - (1 : Int32)).toNatClampNeg) _ rfl) (w := [.int (f150 ((s.2 43) ((s.1 40) - (1 : Int32)).toNatClampNeg))]) rfl ?_
      refine r_iload_n (pc := 56) p156 k156_56 h2 ?_
      refine r_ic_lt (pc := 57) p156 k156_57 (fun c => ?_) (fun c => ?_)
      · have e := (if_pos c).symm.trans e
        exact t156_68 hn s l h0 r e
      · have e := (if_neg c).symm.trans e
        refine r_aload_n (pc := 60) p156 k156_60 h0 ?_
        refine r_iload_n (pc := 61) p156 k156_61 h1 ?_
        obtain ⟨r1, er1, e⟩ := of_bind e
        refine m_cv hn (pc := 62) p156 k156_62 rfl p151 (r := []) rfl rfl rfl rfl rfl (t151 hn s x1 r1 er1) (w := []) rfl ?_
        refine r_goto (pc := 65) p156 k156_65 ?_
        exact ih r1 l x1 x2 h0 h1 h2 r e
def f156_26 (s : mS) (x1 : Int32) (y0 : Int32) : Option (Int32 × mS) := (if y0 ≤ 0 then f156_86 mm_U s x1 else ((f130 s).bind fun r1 => f156_35 mm_U r1 x1 y0))
theorem t156_26 {d n : Nat} {Z : Nat → ab_C} (hn : 42 ≤ n) : ∀ (s : mS) (l : ab_L) (x1 : Int32) (y0 : Int32) (h0 : ab_get l 0 = some (.ref 22)) (h1 : ab_get l 1 = some (.int x1)) (r : Int32 × mS) (e : f156_26 s x1 y0 = some r), ab_Rn (d + 4) 156 26 l [.int y0] (ab_hl n (mm_F s Z)) (.inl (some (.int r.1))) (ab_hl n (mm_F r.2 Z)) := by
  intro s l x1 y0 h0 h1 r e
  unfold f156_26 at e
  refine r_istore_n (pc := 26) p156 k156_26 (by decide) (fun l g h2 => ?_)
  have h0 := g 0 _ (by decide) h0 (Or.inl rfl)
  have h1 := g 1 _ (by decide) h1 (Or.inl rfl)
  refine r_iload_n (pc := 27) p156 k156_27 h2 ?_
  refine r_if_le (pc := 28) p156 k156_28 (fun c => ?_) (fun c => ?_)
  · have e := (if_pos c).symm.trans e
    exact t156_86 hn mm_U s l x1 h0 h1 r e
  · have e := (if_neg c).symm.trans e
    refine r_aload_n (pc := 31) p156 k156_31 h0 ?_
    obtain ⟨r1, er1, e⟩ := of_bind e
    refine m_cv hn (pc := 32) p156 k156_32 rfl p130 (r := []) rfl rfl rfl rfl rfl (t130 hn s r1 er1) (w := []) rfl ?_
    exact t156_35 hn mm_U r1 l x1 y0 h0 h1 h2 r e
def f156_25 (s : mS) (x1 : Int32) : Option (Int32 × mS) := f156_26 s x1 (0 : Int32)
theorem t156_25 {d n : Nat} {Z : Nat → ab_C} (hn : 42 ≤ n) : ∀ (s : mS) (l : ab_L) (x1 : Int32) (h0 : ab_get l 0 = some (.ref 22)) (h1 : ab_get l 1 = some (.int x1)) (r : Int32 × mS) (e : f156_25 s x1 = some r), ab_Rn (d + 4) 156 25 l [] (ab_hl n (mm_F s Z)) (.inl (some (.int r.1))) (ab_hl n (mm_F r.2 Z)) := by
  intro s l x1 h0 h1 r e
  unfold f156_25 at e
  refine r_iconst (pc := 25) p156 k156_25 (v := (0 : Int32)) rfl ?_
  exact t156_26 hn s l x1 (0 : Int32) h0 h1 r e
def f156 (s : mS) (x1 : Int32) : Option (Int32 × mS) := (if (s.1 20) = (4 : Int32) then (if (s.1 11) = 0 then f156_26 s x1 (f150 (s.1 22)) else f156_25 s x1) else f156_25 s x1)
theorem t156 {d n : Nat} {Z : Nat → ab_C} (hn : 42 ≤ n) (s : mS) (x1 : Int32) (r : Int32 × mS) (e : f156 s x1 = some r) : ab_Rn (d + 4) 156 0 (lv_args 0 [.ref 22, .int x1]) [] (ab_hl n (mm_F s Z)) (.inl (some (.int r.1))) (ab_hl n (mm_F r.2 Z)) := by
  unfold f156 at e
  obtain ⟨l, hl⟩ : ∃ l, l = (lv_args 0 [.ref 22, .int x1]) := ⟨_, rfl⟩
  rw [← hl]
  have h0 : ab_get l 0 = some (.ref 22) := by rw [hl]; rfl
  have h1 : ab_get l 1 = some (.int x1) := by rw [hl]; rfl
  refine r_aload_n (pc := 0) p156 k156_0 h0 ?_
  refine m_get hn (pc := 1) p156 k156_1 (v := .int (s.1 20)) rfl ?_
  refine r_iconst (pc := 4) p156 k156_4 (v := (4 : Int32)) rfl ?_
  refine r_ic_ne (pc := 5) p156 k156_5 (fun c => ?_) (fun c => ?_)
  · have e := (if_neg c).symm.trans e
    exact t156_25 hn s l x1 h0 h1 r e
  · have e := (if_pos c).symm.trans e
    refine r_aload_n (pc := 8) p156 k156_8 h0 ?_
    refine m_get hn (pc := 9) p156 k156_9 (v := .int (s.1 11)) rfl ?_
    refine r_if_ne (pc := 12) p156 k156_12 (fun c => ?_) (fun c => ?_)
    · have e := (if_neg c).symm.trans e
      exact t156_25 hn s l x1 h0 h1 r e
    · have e := (if_pos c).symm.trans e
      refine r_aload_n (pc := 15) p156 k156_15 h0 ?_
      refine m_get hn (pc := 16) p156 k156_16 (v := .int (s.1 22)) rfl ?_
      refine r_csv (pc := 19) p156 k156_19 rfl rfl p150 (r := []) rfl rfl rfl rfl (t150 (s.1 22) _ rfl) (w := [.int (f150 (s.1 22))]) rfl ?_
      refine r_goto (pc := 22) p156 k156_22 ?_
      exact t156_26 hn s l x1 (f150 (s.1 22)) h0 h1 r e

theorem p158 : ab_prog[158]? = some (ab_m158, ab_c158) := rfl
theorem k158_0 : ab_fetch ab_c158 0 = some (.iload_n 0, 1, 0, 0) := rfl
theorem k158_1 : ab_fetch ab_c158 1 = some (.sipush 4095, 3, 0, 0) := rfl
theorem k158_4 : ab_fetch ab_c158 4 = some (.iand, 1, 0, 0) := rfl
theorem k158_5 : ab_fetch ab_c158 5 = some (.sipush 2047, 3, 0, 0) := rfl
theorem k158_8 : ab_fetch ab_c158 8 = some (.if_icmp .le 15, 3, 23, 0) := rfl
theorem k158_11 : ab_fetch ab_c158 11 = some (.iload_n 0, 1, 0, 0) := rfl
theorem k158_12 : ab_fetch ab_c158 12 = some (.sipush 4095, 3, 0, 0) := rfl
theorem k158_15 : ab_fetch ab_c158 15 = some (.iand, 1, 0, 0) := rfl
theorem k158_16 : ab_fetch ab_c158 16 = some (.sipush 4096, 3, 0, 0) := rfl
theorem k158_19 : ab_fetch ab_c158 19 = some (.isub, 1, 0, 0) := rfl
theorem k158_20 : ab_fetch ab_c158 20 = some (.goto 8, 3, 28, 0) := rfl
theorem k158_23 : ab_fetch ab_c158 23 = some (.iload_n 0, 1, 0, 0) := rfl
theorem k158_24 : ab_fetch ab_c158 24 = some (.sipush 4095, 3, 0, 0) := rfl
theorem k158_27 : ab_fetch ab_c158 27 = some (.iand, 1, 0, 0) := rfl
theorem k158_28 : ab_fetch ab_c158 28 = some (.ireturn, 1, 0, 0) := rfl
/- CodeSmithModel low(I)I -/
def f158 (x0 : Int32) : Int32 := (if (x0 &&& (4095 : Int32)) ≤ (2047 : Int32) then (x0 &&& (4095 : Int32)) else ((x0 &&& (4095 : Int32)) - (4096 : Int32)))
theorem t158 {d : Nat} {h : ab_H} (x0 : Int32) (r : Int32) (e : f158 x0 = r) : ab_Rn d 158 0 (lv_args 0 [.int x0]) [] h (.inl (some (.int r))) h := by
  unfold f158 at e
  obtain ⟨l, hl⟩ : ∃ l, l = (lv_args 0 [.int x0]) := ⟨_, rfl⟩
  rw [← hl]
  have h0 : ab_get l 0 = some (.int x0) := by rw [hl]; rfl
  refine r_iload_n (pc := 0) p158 k158_0 h0 ?_
  refine r_sipush (pc := 1) p158 k158_1 (v := (4095 : Int32)) rfl ?_
  refine r_iand (pc := 4) p158 k158_4 ?_
  refine r_sipush (pc := 5) p158 k158_5 (v := (2047 : Int32)) rfl ?_
  refine r_ic_le (pc := 8) p158 k158_8 (fun c => ?_) (fun c => ?_)
  · have e := (if_pos c).symm.trans e
    refine r_iload_n (pc := 23) p158 k158_23 h0 ?_
    refine r_sipush (pc := 24) p158 k158_24 (v := (4095 : Int32)) rfl ?_
    refine r_iand (pc := 27) p158 k158_27 ?_
    subst e
    exact r_retI (pc := 28) p158 k158_28 rfl
  · have e := (if_neg c).symm.trans e
    refine r_iload_n (pc := 11) p158 k158_11 h0 ?_
    refine r_sipush (pc := 12) p158 k158_12 (v := (4095 : Int32)) rfl ?_
    refine r_iand (pc := 15) p158 k158_15 ?_
    refine r_sipush (pc := 16) p158 k158_16 (v := (4096 : Int32)) rfl ?_
    refine r_isub (pc := 19) p158 k158_19 ?_
    refine r_goto (pc := 20) p158 k158_20 ?_
    subst e
    exact r_retI (pc := 28) p158 k158_28 rfl

theorem p157 : ab_prog[157]? = some (ab_m157, ab_c157) := rfl
theorem k157_0 : ab_fetch ab_c157 0 = some (.iload_n 0, 1, 0, 0) := rfl
theorem k157_1 : ab_fetch ab_c157 1 = some (.iload_n 0, 1, 0, 0) := rfl
theorem k157_2 : ab_fetch ab_c157 2 = some (.invokestatic 427, 3, 158, 1) := rfl
theorem k157_5 : ab_fetch ab_c157 5 = some (.isub, 1, 0, 0) := rfl
theorem k157_6 : ab_fetch ab_c157 6 = some (.bipush 12, 2, 0, 0) := rfl
theorem k157_8 : ab_fetch ab_c157 8 = some (.iushr, 1, 0, 0) := rfl
theorem k157_9 : ab_fetch ab_c157 9 = some (.ireturn, 1, 0, 0) := rfl
/- CodeSmithModel high(I)I -/
def f157 (x0 : Int32) : Int32 := (((x0 - (f158 x0)).toUInt32 >>> ((12 : Int32).toUInt32 &&& Int32.toUInt32 31)).toInt32)
theorem t157 {d : Nat} {h : ab_H} (x0 : Int32) (r : Int32) (e : f157 x0 = r) : ab_Rn (d + 1) 157 0 (lv_args 0 [.int x0]) [] h (.inl (some (.int r))) h := by
  unfold f157 at e
  obtain ⟨l, hl⟩ : ∃ l, l = (lv_args 0 [.int x0]) := ⟨_, rfl⟩
  rw [← hl]
  have h0 : ab_get l 0 = some (.int x0) := by rw [hl]; rfl
  refine r_iload_n (pc := 0) p157 k157_0 h0 ?_
  refine r_iload_n (pc := 1) p157 k157_1 h0 ?_
  refine r_csv (pc := 2) p157 k157_2 rfl rfl p158 (r := [.int x0]) rfl rfl rfl rfl (t158 x0 _ rfl) (w := [.int (f158 x0), .int x0]) rfl ?_
  refine r_isub (pc := 5) p157 k157_5 ?_
  refine r_bipush (pc := 6) p157 k157_6 (v := (12 : Int32)) rfl ?_
  refine r_iushr (pc := 8) p157 k157_8 ?_
  subst e
  exact r_retI (pc := 9) p157 k157_9 rfl

theorem p146 : ab_prog[146]? = some (ab_m146, ab_c146) := rfl
theorem k146_0 : ab_fetch ab_c146 0 = some (.aload_n 0, 1, 0, 0) := rfl
theorem k146_1 : ab_fetch ab_c146 1 = some (.iconst 0, 1, 0, 0) := rfl
theorem k146_2 : ab_fetch ab_c146 2 = some (.putfield 430, 3, 6, 39) := rfl
theorem k146_5 : ab_fetch ab_c146 5 = some (.aload_n 0, 1, 0, 0) := rfl
theorem k146_6 : ab_fetch ab_c146 6 = some (.iconst 0, 1, 0, 0) := rfl
theorem k146_7 : ab_fetch ab_c146 7 = some (.putfield 421, 3, 6, 40) := rfl
theorem k146_10 : ab_fetch ab_c146 10 = some (.aload_n 0, 1, 0, 0) := rfl
theorem k146_11 : ab_fetch ab_c146 11 = some (.iconst 0, 1, 0, 0) := rfl
theorem k146_12 : ab_fetch ab_c146 12 = some (.putfield 443, 3, 6, 41) := rfl
theorem k146_15 : ab_fetch ab_c146 15 = some (.iconst 0, 1, 0, 0) := rfl
theorem k146_16 : ab_fetch ab_c146 16 = some (.istore_n 2, 1, 0, 0) := rfl
theorem k146_17 : ab_fetch ab_c146 17 = some (.iconst 1, 1, 0, 0) := rfl
theorem k146_18 : ab_fetch ab_c146 18 = some (.istore_n 3, 1, 0, 0) := rfl
theorem k146_19 : ab_fetch ab_c146 19 = some (.iload_n 3, 1, 0, 0) := rfl
theorem k146_20 : ab_fetch ab_c146 20 = some (.ifCond .eq 195, 3, 215, 0) := rfl
theorem k146_23 : ab_fetch ab_c146 23 = some (.aload_n 0, 1, 0, 0) := rfl
theorem k146_24 : ab_fetch ab_c146 24 = some (.getfield 307, 3, 6, 11) := rfl
theorem k146_27 : ab_fetch ab_c146 27 = some (.ifCond .ne 188, 3, 215, 0) := rfl
theorem k146_30 : ab_fetch ab_c146 30 = some (.iload_n 2, 1, 0, 0) := rfl
theorem k146_31 : ab_fetch ab_c146 31 = some (.ifCond .ne 27, 3, 58, 0) := rfl
theorem k146_34 : ab_fetch ab_c146 34 = some (.aload_n 0, 1, 0, 0) := rfl
theorem k146_35 : ab_fetch ab_c146 35 = some (.iload_n 1, 1, 0, 0) := rfl
theorem k146_36 : ab_fetch ab_c146 36 = some (.invokevirtual 464, 3, 147, 1) := rfl
theorem k146_39 : ab_fetch ab_c146 39 = some (.istore_n 2, 1, 0, 0) := rfl
theorem k146_40 : ab_fetch ab_c146 40 = some (.iload_n 2, 1, 0, 0) := rfl
theorem k146_41 : ab_fetch ab_c146 41 = some (.ifCond .eq (-22), 3, 19, 0) := rfl
theorem k146_44 : ab_fetch ab_c146 44 = some (.aload_n 0, 1, 0, 0) := rfl
theorem k146_45 : ab_fetch ab_c146 45 = some (.getfield 307, 3, 6, 11) := rfl
theorem k146_48 : ab_fetch ab_c146 48 = some (.ifCond .ne (-29), 3, 19, 0) := rfl
theorem k146_51 : ab_fetch ab_c146 51 = some (.aload_n 0, 1, 0, 0) := rfl
theorem k146_52 : ab_fetch ab_c146 52 = some (.invokevirtual 387, 3, 117, 0) := rfl
theorem k146_55 : ab_fetch ab_c146 55 = some (.goto (-36), 3, 19, 0) := rfl
theorem k146_58 : ab_fetch ab_c146 58 = some (.aload_n 0, 1, 0, 0) := rfl
theorem k146_59 : ab_fetch ab_c146 59 = some (.iload_n 1, 1, 0, 0) := rfl
theorem k146_60 : ab_fetch ab_c146 60 = some (.invokevirtual 467, 3, 156, 1) := rfl
theorem k146_63 : ab_fetch ab_c146 63 = some (.ifCond .eq 8, 3, 71, 0) := rfl
theorem k146_66 : ab_fetch ab_c146 66 = some (.iconst 0, 1, 0, 0) := rfl
theorem k146_67 : ab_fetch ab_c146 67 = some (.istore_n 2, 1, 0, 0) := rfl
theorem k146_68 : ab_fetch ab_c146 68 = some (.goto (-49), 3, 19, 0) := rfl
theorem k146_71 : ab_fetch ab_c146 71 = some (.aload_n 0, 1, 0, 0) := rfl
theorem k146_72 : ab_fetch ab_c146 72 = some (.getfield 443, 3, 6, 41) := rfl
theorem k146_75 : ab_fetch ab_c146 75 = some (.ifCond .le 119, 3, 194, 0) := rfl
theorem k146_78 : ab_fetch ab_c146 78 = some (.aload_n 0, 1, 0, 0) := rfl
theorem k146_79 : ab_fetch ab_c146 79 = some (.bipush 41, 2, 0, 0) := rfl
theorem k146_81 : ab_fetch ab_c146 81 = some (.invokevirtual 384, 3, 142, 1) := rfl
theorem k146_84 : ab_fetch ab_c146 84 = some (.ifCond .eq 110, 3, 194, 0) := rfl
theorem k146_87 : ab_fetch ab_c146 87 = some (.aload_n 0, 1, 0, 0) := rfl
theorem k146_88 : ab_fetch ab_c146 88 = some (.dup, 1, 0, 0) := rfl
theorem k146_89 : ab_fetch ab_c146 89 = some (.getfield 443, 3, 6, 41) := rfl
theorem k146_92 : ab_fetch ab_c146 92 = some (.iconst 1, 1, 0, 0) := rfl
theorem k146_93 : ab_fetch ab_c146 93 = some (.isub, 1, 0, 0) := rfl
theorem k146_94 : ab_fetch ab_c146 94 = some (.putfield 443, 3, 6, 41) := rfl
theorem k146_97 : ab_fetch ab_c146 97 = some (.aload_n 0, 1, 0, 0) := rfl
theorem k146_98 : ab_fetch ab_c146 98 = some (.dup, 1, 0, 0) := rfl
theorem k146_99 : ab_fetch ab_c146 99 = some (.getfield 421, 3, 6, 40) := rfl
theorem k146_102 : ab_fetch ab_c146 102 = some (.iconst 1, 1, 0, 0) := rfl
theorem k146_103 : ab_fetch ab_c146 103 = some (.isub, 1, 0, 0) := rfl
theorem k146_104 : ab_fetch ab_c146 104 = some (.putfield 421, 3, 6, 40) := rfl
theorem k146_107 : ab_fetch ab_c146 107 = some (.aload_n 0, 1, 0, 0) := rfl
theorem k146_108 : ab_fetch ab_c146 108 = some (.getfield 285, 3, 6, 42) := rfl
theorem k146_111 : ab_fetch ab_c146 111 = some (.aload_n 0, 1, 0, 0) := rfl
theorem k146_112 : ab_fetch ab_c146 112 = some (.getfield 430, 3, 6, 39) := rfl
theorem k146_115 : ab_fetch ab_c146 115 = some (.iconst 1, 1, 0, 0) := rfl
theorem k146_116 : ab_fetch ab_c146 116 = some (.isub, 1, 0, 0) := rfl
theorem k146_117 : ab_fetch ab_c146 117 = some (.iaload, 1, 0, 0) := rfl
theorem k146_118 : ab_fetch ab_c146 118 = some (.istore 4, 2, 0, 0) := rfl
theorem k146_120 : ab_fetch ab_c146 120 = some (.aload_n 0, 1, 0, 0) := rfl
theorem k146_121 : ab_fetch ab_c146 121 = some (.getfield 285, 3, 6, 42) := rfl
theorem k146_124 : ab_fetch ab_c146 124 = some (.aload_n 0, 1, 0, 0) := rfl
theorem k146_125 : ab_fetch ab_c146 125 = some (.getfield 430, 3, 6, 39) := rfl
theorem k146_128 : ab_fetch ab_c146 128 = some (.iconst 1, 1, 0, 0) := rfl
theorem k146_129 : ab_fetch ab_c146 129 = some (.isub, 1, 0, 0) := rfl
theorem k146_130 : ab_fetch ab_c146 130 = some (.aload_n 0, 1, 0, 0) := rfl
theorem k146_131 : ab_fetch ab_c146 131 = some (.getfield 288, 3, 6, 43) := rfl
theorem k146_134 : ab_fetch ab_c146 134 = some (.aload_n 0, 1, 0, 0) := rfl
theorem k146_135 : ab_fetch ab_c146 135 = some (.getfield 421, 3, 6, 40) := rfl
theorem k146_138 : ab_fetch ab_c146 138 = some (.iaload, 1, 0, 0) := rfl
theorem k146_139 : ab_fetch ab_c146 139 = some (.iconst 2, 1, 0, 0) := rfl
theorem k146_140 : ab_fetch ab_c146 140 = some (.if_icmp .ne 11, 3, 151, 0) := rfl
theorem k146_143 : ab_fetch ab_c146 143 = some (.iload 4, 2, 0, 0) := rfl
theorem k146_145 : ab_fetch ab_c146 145 = some (.invokestatic 470, 3, 157, 1) := rfl
theorem k146_148 : ab_fetch ab_c146 148 = some (.goto 26, 3, 174, 0) := rfl
theorem k146_151 : ab_fetch ab_c146 151 = some (.aload_n 0, 1, 0, 0) := rfl
theorem k146_152 : ab_fetch ab_c146 152 = some (.getfield 288, 3, 6, 43) := rfl
theorem k146_155 : ab_fetch ab_c146 155 = some (.aload_n 0, 1, 0, 0) := rfl
theorem k146_156 : ab_fetch ab_c146 156 = some (.getfield 421, 3, 6, 40) := rfl
theorem k146_159 : ab_fetch ab_c146 159 = some (.iaload, 1, 0, 0) := rfl
theorem k146_160 : ab_fetch ab_c146 160 = some (.iconst 3, 1, 0, 0) := rfl
theorem k146_161 : ab_fetch ab_c146 161 = some (.if_icmp .ne 11, 3, 172, 0) := rfl
theorem k146_164 : ab_fetch ab_c146 164 = some (.iload 4, 2, 0, 0) := rfl
theorem k146_166 : ab_fetch ab_c146 166 = some (.invokestatic 427, 3, 158, 1) := rfl
theorem k146_169 : ab_fetch ab_c146 169 = some (.goto 5, 3, 174, 0) := rfl
theorem k146_172 : ab_fetch ab_c146 172 = some (.iload 4, 2, 0, 0) := rfl
theorem k146_174 : ab_fetch ab_c146 174 = some (.iastore, 1, 0, 0) := rfl
theorem k146_175 : ab_fetch ab_c146 175 = some (.aload_n 0, 1, 0, 0) := rfl
theorem k146_176 : ab_fetch ab_c146 176 = some (.iload_n 1, 1, 0, 0) := rfl
theorem k146_177 : ab_fetch ab_c146 177 = some (.invokevirtual 451, 3, 149, 1) := rfl
theorem k146_180 : ab_fetch ab_c146 180 = some (.aload_n 0, 1, 0, 0) := rfl
theorem k146_181 : ab_fetch ab_c146 181 = some (.getfield 307, 3, 6, 11) := rfl
theorem k146_184 : ab_fetch ab_c146 184 = some (.ifCond .ne 7, 3, 191, 0) := rfl
theorem k146_187 : ab_fetch ab_c146 187 = some (.aload_n 0, 1, 0, 0) := rfl
theorem k146_188 : ab_fetch ab_c146 188 = some (.invokevirtual 387, 3, 117, 0) := rfl
theorem k146_191 : ab_fetch ab_c146 191 = some (.goto (-172), 3, 19, 0) := rfl
theorem k146_194 : ab_fetch ab_c146 194 = some (.iconst 0, 1, 0, 0) := rfl
theorem k146_195 : ab_fetch ab_c146 195 = some (.istore_n 3, 1, 0, 0) := rfl
theorem k146_196 : ab_fetch ab_c146 196 = some (.aload_n 0, 1, 0, 0) := rfl
theorem k146_197 : ab_fetch ab_c146 197 = some (.getfield 443, 3, 6, 41) := rfl
theorem k146_200 : ab_fetch ab_c146 200 = some (.ifCond .le (-181), 3, 19, 0) := rfl
theorem k146_203 : ab_fetch ab_c146 203 = some (.aload_n 0, 1, 0, 0) := rfl
theorem k146_204 : ab_fetch ab_c146 204 = some (.iconst 1, 1, 0, 0) := rfl
theorem k146_205 : ab_fetch ab_c146 205 = some (.aload_n 0, 1, 0, 0) := rfl
theorem k146_206 : ab_fetch ab_c146 206 = some (.getfield 349, 3, 6, 21) := rfl
theorem k146_209 : ab_fetch ab_c146 209 = some (.invokevirtual 342, 3, 131, 2) := rfl
theorem k146_212 : ab_fetch ab_c146 212 = some (.goto (-193), 3, 19, 0) := rfl
theorem k146_215 : ab_fetch ab_c146 215 = some (.aload_n 0, 1, 0, 0) := rfl
theorem k146_216 : ab_fetch ab_c146 216 = some (.getfield 307, 3, 6, 11) := rfl
theorem k146_219 : ab_fetch ab_c146 219 = some (.ifCond .ne 12, 3, 231, 0) := rfl
theorem k146_222 : ab_fetch ab_c146 222 = some (.aload_n 0, 1, 0, 0) := rfl
theorem k146_223 : ab_fetch ab_c146 223 = some (.getfield 285, 3, 6, 42) := rfl
theorem k146_226 : ab_fetch ab_c146 226 = some (.iconst 0, 1, 0, 0) := rfl
theorem k146_227 : ab_fetch ab_c146 227 = some (.iaload, 1, 0, 0) := rfl
theorem k146_228 : ab_fetch ab_c146 228 = some (.goto 4, 3, 232, 0) := rfl
theorem k146_231 : ab_fetch ab_c146 231 = some (.iconst 0, 1, 0, 0) := rfl
theorem k146_232 : ab_fetch ab_c146 232 = some (.ireturn, 1, 0, 0) := rfl
/- CodeSmithModel expression(I)I -/
def f146_215 (s : mS) : Option (Int32 × mS) := (if (s.1 11) = 0 then if ib (0 : Int32) 160 then some (((s.2 42) (0 : Int32).toNatClampNeg), s) else none else some ((0 : Int32), s))
theorem t146_215 {d n : Nat} {Z : Nat → ab_C} (hn : 42 ≤ n) : ∀ (s : mS) (l : ab_L)  (h0 : ab_get l 0 = some (.ref 22)) (r : Int32 × mS) (e : f146_215 s  = some r), ab_Rn (d + 6) 146 215 l [] (ab_hl n (mm_F s Z)) (.inl (some (.int r.1))) (ab_hl n (mm_F r.2 Z)) := by
  intro s l h0 r e
  unfold f146_215 at e
  refine r_aload_n (pc := 215) p146 k146_215 h0 ?_
  refine m_get hn (pc := 216) p146 k146_216 (v := .int (s.1 11)) rfl ?_
  refine r_if_ne (pc := 219) p146 k146_219 (fun c => ?_) (fun c => ?_)
  · have e := (if_neg c).symm.trans e
    refine r_iconst (pc := 231) p146 k146_231 (v := (0 : Int32)) rfl ?_
    cases e
    exact r_retI (pc := 232) p146 k146_232 rfl
  · have e := (if_pos c).symm.trans e
    refine r_aload_n (pc := 222) p146 k146_222 h0 ?_
    refine m_get hn (pc := 223) p146 k146_223 (v := .ref 36) rfl ?_
    refine r_iconst (pc := 226) p146 k146_226 (v := (0 : Int32)) rfl ?_
    obtain ⟨c, e⟩ := of_if e
    refine r_iald (pc := 227) p146 k146_227 (m_lt hn rfl) (f := (s.2 42)) rfl c ?_
    refine r_goto (pc := 228) p146 k146_228 ?_
    cases e
    exact r_retI (pc := 232) p146 k146_232 rfl
def f146_194 (q19 : mS → Int32 → Int32 → Int32 → Option (Int32 × mS)) (s : mS) (x1 : Int32) (x2 : Int32) : Option (Int32 × mS) := (if (s.1 41) ≤ 0 then q19 s x1 x2 (0 : Int32) else ((f131 s (1 : Int32) (s.1 21)).bind fun r1 => q19 r1 x1 x2 (0 : Int32)))
theorem t146_194 {d n : Nat} {Z : Nat → ab_C} (hn : 42 ≤ n) (q19 : mS → Int32 → Int32 → Int32 → Option (Int32 × mS)) (hq19 : ∀ (s : mS) (l : ab_L) (x1 : Int32) (x2 : Int32) (x3 : Int32) (h0 : ab_get l 0 = some (.ref 22)) (h1 : ab_get l 1 = some (.int x1)) (h2 : ab_get l 2 = some (.int x2)) (h3 : ab_get l 3 = some (.int x3)) (r : Int32 × mS) (e : q19 s x1 x2 x3 = some r), ab_Rn (d + 6) 146 19 l [] (ab_hl n (mm_F s Z)) (.inl (some (.int r.1))) (ab_hl n (mm_F r.2 Z))) : ∀ (s : mS) (l : ab_L) (x1 : Int32) (x2 : Int32) (h0 : ab_get l 0 = some (.ref 22)) (h1 : ab_get l 1 = some (.int x1)) (h2 : ab_get l 2 = some (.int x2)) (r : Int32 × mS) (e : f146_194 q19 s x1 x2 = some r), ab_Rn (d + 6) 146 194 l [] (ab_hl n (mm_F s Z)) (.inl (some (.int r.1))) (ab_hl n (mm_F r.2 Z)) := by
  intro s l x1 x2 h0 h1 h2 r e
  unfold f146_194 at e
  refine r_iconst (pc := 194) p146 k146_194 (v := (0 : Int32)) rfl ?_
  refine r_istore_n (pc := 195) p146 k146_195 (by decide) (fun l g h3 => ?_)
  have h0 := g 0 _ (by decide) h0 (Or.inl rfl)
  have h1 := g 1 _ (by decide) h1 (Or.inl rfl)
  have h2 := g 2 _ (by decide) h2 (Or.inl rfl)
  refine r_aload_n (pc := 196) p146 k146_196 h0 ?_
  refine m_get hn (pc := 197) p146 k146_197 (v := .int (s.1 41)) rfl ?_
  refine r_if_le (pc := 200) p146 k146_200 (fun c => ?_) (fun c => ?_)
  · have e := (if_pos c).symm.trans e
    exact hq19 s l x1 x2 (0 : Int32) h0 h1 h2 h3 r e
  · have e := (if_neg c).symm.trans e
    refine r_aload_n (pc := 203) p146 k146_203 h0 ?_
    refine r_iconst (pc := 204) p146 k146_204 (v := (1 : Int32)) rfl ?_
    refine r_aload_n (pc := 205) p146 k146_205 h0 ?_
    refine m_get hn (pc := 206) p146 k146_206 (v := .int (s.1 21)) rfl ?_
    obtain ⟨r1, er1, e⟩ := of_bind e
    refine m_cv hn (pc := 209) p146 k146_209 rfl p131 (r := []) rfl rfl rfl rfl rfl (t131 hn s (1 : Int32) (s.1 21) r1 er1) (w := []) rfl ?_
    refine r_goto (pc := 212) p146 k146_212 ?_
    exact hq19 r1 l x1 x2 (0 : Int32) h0 h1 h2 h3 r e
def f146_191 (q19 : mS → Int32 → Int32 → Int32 → Option (Int32 × mS)) (s : mS) (x1 : Int32) (x2 : Int32) (x3 : Int32) : Option (Int32 × mS) := q19 s x1 x2 x3
theorem t146_191 {d n : Nat} {Z : Nat → ab_C} (hn : 42 ≤ n) (q19 : mS → Int32 → Int32 → Int32 → Option (Int32 × mS)) (hq19 : ∀ (s : mS) (l : ab_L) (x1 : Int32) (x2 : Int32) (x3 : Int32) (h0 : ab_get l 0 = some (.ref 22)) (h1 : ab_get l 1 = some (.int x1)) (h2 : ab_get l 2 = some (.int x2)) (h3 : ab_get l 3 = some (.int x3)) (r : Int32 × mS) (e : q19 s x1 x2 x3 = some r), ab_Rn (d + 6) 146 19 l [] (ab_hl n (mm_F s Z)) (.inl (some (.int r.1))) (ab_hl n (mm_F r.2 Z))) : ∀ (s : mS) (l : ab_L) (x1 : Int32) (x2 : Int32) (x3 : Int32) (h0 : ab_get l 0 = some (.ref 22)) (h1 : ab_get l 1 = some (.int x1)) (h2 : ab_get l 2 = some (.int x2)) (h3 : ab_get l 3 = some (.int x3)) (r : Int32 × mS) (e : f146_191 q19 s x1 x2 x3 = some r), ab_Rn (d + 6) 146 191 l [] (ab_hl n (mm_F s Z)) (.inl (some (.int r.1))) (ab_hl n (mm_F r.2 Z)) := by
  intro s l x1 x2 x3 h0 h1 h2 h3 r e
  unfold f146_191 at e
  refine r_goto (pc := 191) p146 k146_191 ?_
  exact hq19 s l x1 x2 x3 h0 h1 h2 h3 r e
def f146_174 (q19 : mS → Int32 → Int32 → Int32 → Option (Int32 × mS)) (s : mS) (x1 : Int32) (x2 : Int32) (x3 : Int32) (y0 : Int32) (y1 : Int32) : Option (Int32 × mS) := if ib y1 160 then ((f149 (mb s 42 y1 y0) x1).bind fun r1 => (if (r1.1 11) = 0 then ((f117 r1).bind fun r2 => f146_191 q19 r2 x1 x2 x3) else f146_191 q19 r1 x1 x2 x3)) else none
theorem t146_174 {d n : Nat} {Z : Nat → ab_C} (hn : 42 ≤ n) (q19 : mS → Int32 → Int32 → Int32 → Option (Int32 × mS)) (hq19 : ∀ (s : mS) (l : ab_L) (x1 : Int32) (x2 : Int32) (x3 : Int32) (h0 : ab_get l 0 = some (.ref 22)) (h1 : ab_get l 1 = some (.int x1)) (h2 : ab_get l 2 = some (.int x2)) (h3 : ab_get l 3 = some (.int x3)) (r : Int32 × mS) (e : q19 s x1 x2 x3 = some r), ab_Rn (d + 6) 146 19 l [] (ab_hl n (mm_F s Z)) (.inl (some (.int r.1))) (ab_hl n (mm_F r.2 Z))) : ∀ (s : mS) (l : ab_L) (x1 : Int32) (x2 : Int32) (x3 : Int32) (y0 : Int32) (y1 : Int32) (h0 : ab_get l 0 = some (.ref 22)) (h1 : ab_get l 1 = some (.int x1)) (h2 : ab_get l 2 = some (.int x2)) (h3 : ab_get l 3 = some (.int x3)) (r : Int32 × mS) (e : f146_174 q19 s x1 x2 x3 y0 y1 = some r), ab_Rn (d + 6) 146 174 l [.int y0, .int y1, .ref 36] (ab_hl n (mm_F s Z)) (.inl (some (.int r.1))) (ab_hl n (mm_F r.2 Z)) := by
  intro s l x1 x2 x3 y0 y1 h0 h1 h2 h3 r e
  unfold f146_174 at e
  obtain ⟨c, e⟩ := of_if e
  refine m_ast hn rfl (pc := 174) p146 k146_174 (k := 42) rfl (mm_arr42 _ Z) c ?_
  refine r_aload_n (pc := 175) p146 k146_175 h0 ?_
  refine r_iload_n (pc := 176) p146 k146_176 h1 ?_
  obtain ⟨r1, er1, e⟩ := of_bind e
  refine m_cv hn (pc := 177) p146 k146_177 rfl p149 (r := []) rfl rfl rfl rfl rfl (t149 hn (mb s 42 y1 y0) x1 r1 er1) (w := []) rfl ?_
  refine r_aload_n (pc := 180) p146 k146_180 h0 ?_
  refine m_get hn (pc := 181) p146 k146_181 (v := .int (r1.1 11)) rfl ?_
  refine r_if_ne (pc := 184) p146 k146_184 (fun c => ?_) (fun c => ?_)
  · have e := (if_neg c).symm.trans e
    exact t146_191 hn q19 hq19 r1 l x1 x2 x3 h0 h1 h2 h3 r e
  · have e := (if_pos c).symm.trans e
    refine r_aload_n (pc := 187) p146 k146_187 h0 ?_
    obtain ⟨r2, er2, e⟩ := of_bind e
    refine m_cv hn (pc := 188) p146 k146_188 rfl p117 (r := []) rfl rfl rfl rfl rfl (t117 hn r1 r2 er2) (w := []) rfl ?_
    exact t146_191 hn q19 hq19 r2 l x1 x2 x3 h0 h1 h2 h3 r e
def f146_19 : Nat → mS → Int32 → Int32 → Int32 → Option (Int32 × mS)
  | 0, _, _, _, _ => none
  | u + 1, s, x1, x2, x3 => (if x3 = 0 then f146_215 s else (if (s.1 11) = 0 then (if x2 = 0 then ((f147 s x1).bind fun r1 => (if r1.1 = 0 then f146_19 u r1.2 x1 r1.1 x3 else (if (r1.2.1 11) = 0 then ((f117 r1.2).bind fun r2 => f146_19 u r2 x1 r1.1 x3) else f146_19 u r1.2 x1 r1.1 x3))) else ((f156 s x1).bind fun r1 => (if r1.1 = 0 then (if (r1.2.1 41) ≤ 0 then f146_194 (f146_19 u) r1.2 x1 x2 else (if (f142 r1.2 (41 : Int32)) = 0 then f146_194 (f146_19 u) r1.2 x1 x2 else if ib ((r1.2.1 39) - (1 : Int32)) 160 then if ib ((r1.2.1 40) - (1 : Int32)) 160 then (if ((r1.2.2 43) ((r1.2.1 40) - (1 : Int32)).toNatClampNeg) = (2 : Int32) then f146_174 (f146_19 u) (mg (mg r1.2 41 ((r1.2.1 41) - (1 : Int32))) 40 ((r1.2.1 40) - (1 : Int32))) x1 x2 x3 (f157 ((r1.2.2 42) ((r1.2.1 39) - (1 : Int32)).toNatClampNeg)) ((r1.2.1 39) - (1 : Int32)) else if ib ((r1.2.1 40) - (1 : Int32)) 160 then (if ((r1.2.2 43) ((r1.2.1 40) - (1 : Int32)).toNatClampNeg) = (3 : Int32) then f146_174 (f146_19 u) (mg (mg r1.2 41 ((r1.2.1 41) - (1 : Int32))) 40 ((r1.2.1 40) - (1 : Int32))) x1 x2 x3 (f158 ((r1.2.2 42) ((r1.2.1 39) - (1 : Int32)).toNatClampNeg)) ((r1.2.1 39) - (1 : Int32)) else f146_174 (f146_19 u) (mg (mg r1.2 41 ((r1.2.1 41) - (1 : Int32))) 40 ((r1.2.1 40) - (1 : Int32))) x1 x2 x3 ((r1.2.2 42) ((r1.2.1 39) - (1 : Int32)).toNatClampNeg) ((r1.2.1 39) - (1 : Int32))) else none) else none else none)) else f146_19 u r1.2 x1 (0 : Int32) x3))) else f146_215 s))
theorem t146_19 {d n : Nat} {Z : Nat → ab_C} (hn : 42 ≤ n) : ∀ u : Nat, ∀ (s : mS) (l : ab_L) (x1 : Int32) (x2 : Int32) (x3 : Int32) (h0 : ab_get l 0 = some (.ref 22)) (h1 : ab_get l 1 = some (.int x1)) (h2 : ab_get l 2 = some (.int x2)) (h3 : ab_get l 3 = some (.int x3)) (r : Int32 × mS) (e : f146_19 u s x1 x2 x3 = some r), ab_Rn (d + 6) 146 19 l [] (ab_hl n (mm_F s Z)) (.inl (some (.int r.1))) (ab_hl n (mm_F r.2 Z)) := by
  intro u
  induction u with
  | zero => intro s l x1 x2 x3 h0 h1 h2 h3 r e; rw [f146_19] at e; cases e
  | succ u ih =>
    intro s l x1 x2 x3 h0 h1 h2 h3 r e
    rw [f146_19] at e
    refine r_iload_n (pc := 19) p146 k146_19 h3 ?_
    refine r_if_eq (pc := 20) p146 k146_20 (fun c => ?_) (fun c => ?_)
    · have e := (if_pos c).symm.trans e
      exact t146_215 hn s l h0 r e
    · have e := (if_neg c).symm.trans e
      refine r_aload_n (pc := 23) p146 k146_23 h0 ?_
      refine m_get hn (pc := 24) p146 k146_24 (v := .int (s.1 11)) rfl ?_
      refine r_if_ne (pc := 27) p146 k146_27 (fun c => ?_) (fun c => ?_)
      · have e := (if_neg c).symm.trans e
        exact t146_215 hn s l h0 r e
      · have e := (if_pos c).symm.trans e
        refine r_iload_n (pc := 30) p146 k146_30 h2 ?_
        refine r_if_ne (pc := 31) p146 k146_31 (fun c => ?_) (fun c => ?_)
        · have e := (if_neg c).symm.trans e
          refine r_aload_n (pc := 58) p146 k146_58 h0 ?_
          refine r_iload_n (pc := 59) p146 k146_59 h1 ?_
          obtain ⟨r1, er1, e⟩ := of_bind e
          refine m_cv hn (pc := 60) p146 k146_60 rfl p156 (r := []) rfl rfl rfl rfl rfl (t156 hn s x1 r1 er1) (w := [.int r1.1]) rfl ?_
          refine r_if_eq (pc := 63) p146 k146_63 (fun c => ?_) (fun c => ?_)
          · have e := (if_pos c).symm.trans e
            refine r_aload_n (pc := 71) p146 k146_71 h0 ?_
            refine m_get hn (pc := 72) p146 k146_72 (v := .int (r1.2.1 41)) rfl ?_
            refine r_if_le (pc := 75) p146 k146_75 (fun c => ?_) (fun c => ?_)
            · have e := (if_pos c).symm.trans e
              exact t146_194 hn (f146_19 u) ih r1.2 l x1 x2 h0 h1 h2 r e
            · have e := (if_neg c).symm.trans e
              refine r_aload_n (pc := 78) p146 k146_78 h0 ?_
              refine r_bipush (pc := 79) p146 k146_79 (v := (41 : Int32)) rfl ?_
              refine m_cv hn (pc := 81) p146 k146_81 rfl p142 (r := []) rfl rfl rfl rfl rfl (t142 hn r1.2 (41 : Int32) _ rfl) (w := [.int (f142 r1.2 (41 : Int32))]) rfl ?_
              refine r_if_eq (pc := 84) p146 k146_84 (fun c => ?_) (fun c => ?_)
              · have e := (if_pos c).symm.trans e
                exact t146_194 hn (f146_19 u) ih r1.2 l x1 x2 h0 h1 h2 r e
              · have e := (if_neg c).symm.trans e
                refine r_aload_n (pc := 87) p146 k146_87 h0 ?_
                refine r_dup (pc := 88) p146 k146_88 rfl ?_
                refine m_get hn (pc := 89) p146 k146_89 (v := .int (r1.2.1 41)) rfl ?_
                refine r_iconst (pc := 92) p146 k146_92 (v := (1 : Int32)) rfl ?_
                refine r_isub (pc := 93) p146 k146_93 ?_
                refine m_put hn (pc := 94) p146 k146_94 rfl rfl rfl rfl ?_
                refine r_aload_n (pc := 97) p146 k146_97 h0 ?_
                refine r_dup (pc := 98) p146 k146_98 rfl ?_
                refine m_get hn (pc := 99) p146 k146_99 (v := .int (r1.2.1 40)) rfl ?_
                refine r_iconst (pc := 102) p146 k146_102 (v := (1 : Int32)) rfl ?_
                refine r_isub (pc := 103) p146 k146_103 ?_
                refine m_put hn (pc := 104) p146 k146_104 rfl rfl rfl rfl ?_
                refine r_aload_n (pc := 107) p146 k146_107 h0 ?_
                refine m_get hn (pc := 108) p146 k146_108 (v := .ref 36) rfl ?_
                refine r_aload_n (pc := 111) p146 k146_111 h0 ?_
                refine m_get hn (pc := 112) p146 k146_112 (v := .int (r1.2.1 39)) rfl ?_
                refine r_iconst (pc := 115) p146 k146_115 (v := (1 : Int32)) rfl ?_
                refine r_isub (pc := 116) p146 k146_116 ?_
                obtain ⟨c, e⟩ := of_if e
                refine r_iald (pc := 117) p146 k146_117 (m_lt hn rfl) (f := (r1.2.2 42)) rfl c ?_
                refine r_istore (pc := 118) p146 k146_118 (by decide) (fun l g h4 => ?_)
                have h0 := g 0 _ (by decide) h0 (Or.inl rfl)
                have h1 := g 1 _ (by decide) h1 (Or.inl rfl)
                have h2 := g 2 _ (by decide) h2 (Or.inl rfl)
                have h3 := g 3 _ (by decide) h3 (Or.inl rfl)
                refine r_aload_n (pc := 120) p146 k146_120 h0 ?_
                refine m_get hn (pc := 121) p146 k146_121 (v := .ref 36) rfl ?_
                refine r_aload_n (pc := 124) p146 k146_124 h0 ?_
                refine m_get hn (pc := 125) p146 k146_125 (v := .int (r1.2.1 39)) rfl ?_
                refine r_iconst (pc := 128) p146 k146_128 (v := (1 : Int32)) rfl ?_
                refine r_isub (pc := 129) p146 k146_129 ?_
                refine r_aload_n (pc := 130) p146 k146_130 h0 ?_
                refine m_get hn (pc := 131) p146 k146_131 (v := .ref 37) rfl ?_
                refine r_aload_n (pc := 134) p146 k146_134 h0 ?_
                refine m_get hn (pc := 135) p146 k146_135 (v := .int ((r1.2.1 40) - (1 : Int32))) rfl ?_
                obtain ⟨c, e⟩ := of_if e
                refine r_iald (pc := 138) p146 k146_138 (m_lt hn rfl) (f := (r1.2.2 43)) rfl c ?_
                refine r_iconst (pc := 139) p146 k146_139 (v := (2 : Int32)) rfl ?_
                refine r_ic_ne (pc := 140) p146 k146_140 (fun c => ?_) (fun c => ?_)
                · have e := (if_neg c).symm.trans e
                  refine r_aload_n (pc := 151) p146 k146_151 h0 ?_
                  refine m_get hn (pc := 152) p146 k146_152 (v := .ref 37) rfl ?_
                  refine r_aload_n (pc := 155) p146 k146_155 h0 ?_
                  refine m_get hn (pc := 156) p146 k146_156 (v := .int ((r1.2.1 40) - (1 : Int32))) rfl ?_
                  obtain ⟨c, e⟩ := of_if e
                  refine r_iald (pc := 159) p146 k146_159 (m_lt hn rfl) (f := (r1.2.2 43)) rfl c ?_
                  refine r_iconst (pc := 160) p146 k146_160 (v := (3 : Int32)) rfl ?_
                  refine r_ic_ne (pc := 161) p146 k146_161 (fun c => ?_) (fun c => ?_)
                  · have e := (if_neg c).symm.trans e
                    refine r_iload (pc := 172) p146 k146_172 h4 ?_
                    exact t146_174 hn (f146_19 u) ih (mg (mg r1.2 41 ((r1.2.1 41) - (1 : Int32))) 40 ((r1.2.1 40) - (1 : Int32))) l x1 x2 x3 ((r1.2.2 42) ((r1.2.1 39) - (1 : Int32)).toNatClampNeg) ((r1.2.1 39) - (1 : Int32)) h0 h1 h2 h3 r e
                  · have e := (if_pos c).symm.trans e
                    refine r_iload (pc := 164) p146 k146_164 h4 ?_
                    refine r_csv (pc := 166) p146 k146_166 rfl rfl p158 (r := [.int ((r1.2.1 39) - (1 : Int32)), .ref 36]) rfl rfl rfl rfl (t158 ((r1.2.2 42) ((r1.2.1 39) - (1 : Int32)).toNatClampNeg) _ rfl) (w := [.int (f158 ((r1.2.2 42) ((r1.2.1 39) - (1 : Int32)).toNatClampNeg)), .int ((r1.2.1 39) - (1 : Int32)), .ref 36]) rfl ?_
                    refine r_goto (pc := 169) p146 k146_169 ?_
                    exact t146_174 hn (f146_19 u) ih (mg (mg r1.2 41 ((r1.2.1 41) - (1 : Int32))) 40 ((r1.2.1 40) - (1 : Int32))) l x1 x2 x3 (f158 ((r1.2.2 42) ((r1.2.1 39) - (1 : Int32)).toNatClampNeg)) ((r1.2.1 39) - (1 : Int32)) h0 h1 h2 h3 r e
                · have e := (if_pos c).symm.trans e
                  refine r_iload (pc := 143) p146 k146_143 h4 ?_
                  refine r_csv (pc := 145) p146 k146_145 rfl rfl p157 (r := [.int ((r1.2.1 39) - (1 : Int32)), .ref 36]) rfl rfl rfl rfl (t157 ((r1.2.2 42) ((r1.2.1 39) - (1 : Int32)).toNatClampNeg) _ rfl) (w := [.int (f157 ((r1.2.2 42) ((r1.2.1 39) - (1 : Int32)).toNatClampNeg)), .int ((r1.2.1 39) - (1 : Int32)), .ref 36]) rfl ?_
                  refine r_goto (pc := 148) p146 k146_148 ?_
                  exact t146_174 hn (f146_19 u) ih (mg (mg r1.2 41 ((r1.2.1 41) - (1 : Int32))) 40 ((r1.2.1 40) - (1 : Int32))) l x1 x2 x3 (f157 ((r1.2.2 42) ((r1.2.1 39) - (1 : Int32)).toNatClampNeg)) ((r1.2.1 39) - (1 : Int32)) h0 h1 h2 h3 r e
          · have e := (if_neg c).symm.trans e
            refine r_iconst (pc := 66) p146 k146_66 (v := (0 : Int32)) rfl ?_
            refine r_istore_n (pc := 67) p146 k146_67 (by decide) (fun l g h2 => ?_)
            have h0 := g 0 _ (by decide) h0 (Or.inl rfl)
            have h1 := g 1 _ (by decide) h1 (Or.inl rfl)
            have h3 := g 3 _ (by decide) h3 (Or.inl rfl)
            refine r_goto (pc := 68) p146 k146_68 ?_
            exact ih r1.2 l x1 (0 : Int32) x3 h0 h1 h2 h3 r e
        · have e := (if_pos c).symm.trans e
          refine r_aload_n (pc := 34) p146 k146_34 h0 ?_
          refine r_iload_n (pc := 35) p146 k146_35 h1 ?_
          obtain ⟨r1, er1, e⟩ := of_bind e
          refine m_cv hn (pc := 36) p146 k146_36 rfl p147 (r := []) rfl rfl rfl rfl rfl (t147 hn s x1 r1 er1) (w := [.int r1.1]) rfl ?_
          refine r_istore_n (pc := 39) p146 k146_39 (by decide) (fun l g h2 => ?_)
          have h0 := g 0 _ (by decide) h0 (Or.inl rfl)
          have h1 := g 1 _ (by decide) h1 (Or.inl rfl)
          have h3 := g 3 _ (by decide) h3 (Or.inl rfl)
          refine r_iload_n (pc := 40) p146 k146_40 h2 ?_
          refine r_if_eq (pc := 41) p146 k146_41 (fun c => ?_) (fun c => ?_)
          · have e := (if_pos c).symm.trans e
            exact ih r1.2 l x1 r1.1 x3 h0 h1 h2 h3 r e
          · have e := (if_neg c).symm.trans e
            refine r_aload_n (pc := 44) p146 k146_44 h0 ?_
            refine m_get hn (pc := 45) p146 k146_45 (v := .int (r1.2.1 11)) rfl ?_
            refine r_if_ne (pc := 48) p146 k146_48 (fun c => ?_) (fun c => ?_)
            · have e := (if_neg c).symm.trans e
              exact ih r1.2 l x1 r1.1 x3 h0 h1 h2 h3 r e
            · have e := (if_pos c).symm.trans e
              refine r_aload_n (pc := 51) p146 k146_51 h0 ?_
              obtain ⟨r2, er2, e⟩ := of_bind e
              refine m_cv hn (pc := 52) p146 k146_52 rfl p117 (r := []) rfl rfl rfl rfl rfl (t117 hn r1.2 r2 er2) (w := []) rfl ?_
              refine r_goto (pc := 55) p146 k146_55 ?_
              exact ih r2 l x1 r1.1 x3 h0 h1 h2 h3 r e
def f146 (s : mS) (x1 : Int32) : Option (Int32 × mS) := f146_19 mm_U (mg (mg (mg s 39 (0 : Int32)) 40 (0 : Int32)) 41 (0 : Int32)) x1 (0 : Int32) (1 : Int32)
theorem t146 {d n : Nat} {Z : Nat → ab_C} (hn : 42 ≤ n) (s : mS) (x1 : Int32) (r : Int32 × mS) (e : f146 s x1 = some r) : ab_Rn (d + 6) 146 0 (lv_args 0 [.ref 22, .int x1]) [] (ab_hl n (mm_F s Z)) (.inl (some (.int r.1))) (ab_hl n (mm_F r.2 Z)) := by
  unfold f146 at e
  obtain ⟨l, hl⟩ : ∃ l, l = (lv_args 0 [.ref 22, .int x1]) := ⟨_, rfl⟩
  rw [← hl]
  have h0 : ab_get l 0 = some (.ref 22) := by rw [hl]; rfl
  have h1 : ab_get l 1 = some (.int x1) := by rw [hl]; rfl
  refine r_aload_n (pc := 0) p146 k146_0 h0 ?_
  refine r_iconst (pc := 1) p146 k146_1 (v := (0 : Int32)) rfl ?_
  refine m_put hn (pc := 2) p146 k146_2 rfl rfl rfl rfl ?_
  refine r_aload_n (pc := 5) p146 k146_5 h0 ?_
  refine r_iconst (pc := 6) p146 k146_6 (v := (0 : Int32)) rfl ?_
  refine m_put hn (pc := 7) p146 k146_7 rfl rfl rfl rfl ?_
  refine r_aload_n (pc := 10) p146 k146_10 h0 ?_
  refine r_iconst (pc := 11) p146 k146_11 (v := (0 : Int32)) rfl ?_
  refine m_put hn (pc := 12) p146 k146_12 rfl rfl rfl rfl ?_
  refine r_iconst (pc := 15) p146 k146_15 (v := (0 : Int32)) rfl ?_
  refine r_istore_n (pc := 16) p146 k146_16 (by decide) (fun l g h2 => ?_)
  have h0 := g 0 _ (by decide) h0 (Or.inl rfl)
  have h1 := g 1 _ (by decide) h1 (Or.inl rfl)
  refine r_iconst (pc := 17) p146 k146_17 (v := (1 : Int32)) rfl ?_
  refine r_istore_n (pc := 18) p146 k146_18 (by decide) (fun l g h3 => ?_)
  have h0 := g 0 _ (by decide) h0 (Or.inl rfl)
  have h1 := g 1 _ (by decide) h1 (Or.inl rfl)
  have h2 := g 2 _ (by decide) h2 (Or.inl rfl)
  exact t146_19 hn mm_U (mg (mg (mg s 39 (0 : Int32)) 40 (0 : Int32)) 41 (0 : Int32)) l x1 (0 : Int32) (1 : Int32) h0 h1 h2 h3 r e

theorem p145 : ab_prog[145]? = some (ab_m145, ab_c145) := rfl
theorem k145_0 : ab_fetch ab_c145 0 = some (.aload_n 0, 1, 0, 0) := rfl
theorem k145_1 : ab_fetch ab_c145 1 = some (.aload_n 0, 1, 0, 0) := rfl
theorem k145_2 : ab_fetch ab_c145 2 = some (.getfield 408, 3, 6, 19) := rfl
theorem k145_5 : ab_fetch ab_c145 5 = some (.ifCond .eq 7, 3, 12, 0) := rfl
theorem k145_8 : ab_fetch ab_c145 8 = some (.iconst 2, 1, 0, 0) := rfl
theorem k145_9 : ab_fetch ab_c145 9 = some (.goto 4, 3, 13, 0) := rfl
theorem k145_12 : ab_fetch ab_c145 12 = some (.iconst 1, 1, 0, 0) := rfl
theorem k145_13 : ab_fetch ab_c145 13 = some (.invokevirtual 473, 3, 146, 1) := rfl
theorem k145_16 : ab_fetch ab_c145 16 = some (.ireturn, 1, 0, 0) := rfl
/- CodeSmithModel later()I -/
def f145_13 (s : mS) (y0 : Int32) : Option (Int32 × mS) := ((f146 s y0).bind fun r1 => some (r1.1, r1.2))
theorem t145_13 {d n : Nat} {Z : Nat → ab_C} (hn : 42 ≤ n) : ∀ (s : mS) (l : ab_L) (y0 : Int32)  (r : Int32 × mS) (e : f145_13 s y0 = some r), ab_Rn (d + 7) 145 13 l [.int y0, .ref 22] (ab_hl n (mm_F s Z)) (.inl (some (.int r.1))) (ab_hl n (mm_F r.2 Z)) := by
  intro s l y0 r e
  unfold f145_13 at e
  obtain ⟨r1, er1, e⟩ := of_bind e
  refine m_cv hn (pc := 13) p145 k145_13 rfl p146 (r := []) rfl rfl rfl rfl rfl (t146 hn s y0 r1 er1) (w := [.int r1.1]) rfl ?_
  cases e
  exact r_retI (pc := 16) p145 k145_16 rfl
def f145 (s : mS) : Option (Int32 × mS) := (if (s.1 19) = 0 then f145_13 s (1 : Int32) else f145_13 s (2 : Int32))
theorem t145 {d n : Nat} {Z : Nat → ab_C} (hn : 42 ≤ n) (s : mS) (r : Int32 × mS) (e : f145 s = some r) : ab_Rn (d + 7) 145 0 (lv_args 0 [.ref 22]) [] (ab_hl n (mm_F s Z)) (.inl (some (.int r.1))) (ab_hl n (mm_F r.2 Z)) := by
  unfold f145 at e
  obtain ⟨l, hl⟩ : ∃ l, l = (lv_args 0 [.ref 22]) := ⟨_, rfl⟩
  rw [← hl]
  have h0 : ab_get l 0 = some (.ref 22) := by rw [hl]; rfl
  refine r_aload_n (pc := 0) p145 k145_0 h0 ?_
  refine r_aload_n (pc := 1) p145 k145_1 h0 ?_
  refine m_get hn (pc := 2) p145 k145_2 (v := .int (s.1 19)) rfl ?_
  refine r_if_eq (pc := 5) p145 k145_5 (fun c => ?_) (fun c => ?_)
  · have e := (if_pos c).symm.trans e
    refine r_iconst (pc := 12) p145 k145_12 (v := (1 : Int32)) rfl ?_
    exact t145_13 hn s l (1 : Int32) r e
  · have e := (if_neg c).symm.trans e
    refine r_iconst (pc := 8) p145 k145_8 (v := (2 : Int32)) rfl ?_
    refine r_goto (pc := 9) p145 k145_9 ?_
    exact t145_13 hn s l (2 : Int32) r e

theorem p159 : ab_prog[159]? = some (ab_m159, ab_c159) := rfl
theorem k159_0 : ab_fetch ab_c159 0 = some (.aload_n 0, 1, 0, 0) := rfl
theorem k159_1 : ab_fetch ab_c159 1 = some (.aload_n 0, 1, 0, 0) := rfl
theorem k159_2 : ab_fetch ab_c159 2 = some (.getfield 480, 3, 6, 37) := rfl
theorem k159_5 : ab_fetch ab_c159 5 = some (.ifCond .ne 20, 3, 25, 0) := rfl
theorem k159_8 : ab_fetch ab_c159 8 = some (.aload_n 0, 1, 0, 0) := rfl
theorem k159_9 : ab_fetch ab_c159 9 = some (.getfield 408, 3, 6, 19) := rfl
theorem k159_12 : ab_fetch ab_c159 12 = some (.ifCond .eq 17, 3, 29, 0) := rfl
theorem k159_15 : ab_fetch ab_c159 15 = some (.iload_n 1, 1, 0, 0) := rfl
theorem k159_16 : ab_fetch ab_c159 16 = some (.iload_n 2, 1, 0, 0) := rfl
theorem k159_17 : ab_fetch ab_c159 17 = some (.if_icmp .lt 8, 3, 25, 0) := rfl
theorem k159_20 : ab_fetch ab_c159 20 = some (.iload_n 1, 1, 0, 0) := rfl
theorem k159_21 : ab_fetch ab_c159 21 = some (.iload_n 3, 1, 0, 0) := rfl
theorem k159_22 : ab_fetch ab_c159 22 = some (.if_icmp .le 7, 3, 29, 0) := rfl
theorem k159_25 : ab_fetch ab_c159 25 = some (.iconst 1, 1, 0, 0) := rfl
theorem k159_26 : ab_fetch ab_c159 26 = some (.goto 4, 3, 30, 0) := rfl
theorem k159_29 : ab_fetch ab_c159 29 = some (.iconst 0, 1, 0, 0) := rfl
theorem k159_30 : ab_fetch ab_c159 30 = some (.putfield 480, 3, 6, 37) := rfl
theorem k159_33 : ab_fetch ab_c159 33 = some (.iload_n 1, 1, 0, 0) := rfl
theorem k159_34 : ab_fetch ab_c159 34 = some (.ireturn, 1, 0, 0) := rfl
/- CodeSmithModel within(III)I -/
def f159_30 (s : mS) (x1 : Int32) (y0 : Int32) : Option (Int32 × mS) := if bz y0 then some (x1, (mg s 37 y0)) else none
theorem t159_30 {d n : Nat} {Z : Nat → ab_C} (hn : 42 ≤ n) : ∀ (s : mS) (l : ab_L) (x1 : Int32) (y0 : Int32) (h1 : ab_get l 1 = some (.int x1)) (r : Int32 × mS) (e : f159_30 s x1 y0 = some r), ab_Rn d 159 30 l [.int y0, .ref 22] (ab_hl n (mm_F s Z)) (.inl (some (.int r.1))) (ab_hl n (mm_F r.2 Z)) := by
  intro s l x1 y0 h1 r e
  unfold f159_30 at e
  obtain ⟨c, e⟩ := of_if e
  refine m_put hn (pc := 30) p159 k159_30 rfl rfl (bz_fit c) rfl ?_
  refine r_iload_n (pc := 33) p159 k159_33 h1 ?_
  cases e
  exact r_retI (pc := 34) p159 k159_34 rfl
def f159_25 (s : mS) (x1 : Int32) : Option (Int32 × mS) := f159_30 s x1 (1 : Int32)
theorem t159_25 {d n : Nat} {Z : Nat → ab_C} (hn : 42 ≤ n) : ∀ (s : mS) (l : ab_L) (x1 : Int32) (h1 : ab_get l 1 = some (.int x1)) (r : Int32 × mS) (e : f159_25 s x1 = some r), ab_Rn d 159 25 l [.ref 22] (ab_hl n (mm_F s Z)) (.inl (some (.int r.1))) (ab_hl n (mm_F r.2 Z)) := by
  intro s l x1 h1 r e
  unfold f159_25 at e
  refine r_iconst (pc := 25) p159 k159_25 (v := (1 : Int32)) rfl ?_
  refine r_goto (pc := 26) p159 k159_26 ?_
  exact t159_30 hn s l x1 (1 : Int32) h1 r e
def f159_29 (s : mS) (x1 : Int32) : Option (Int32 × mS) := f159_30 s x1 (0 : Int32)
theorem t159_29 {d n : Nat} {Z : Nat → ab_C} (hn : 42 ≤ n) : ∀ (s : mS) (l : ab_L) (x1 : Int32) (h1 : ab_get l 1 = some (.int x1)) (r : Int32 × mS) (e : f159_29 s x1 = some r), ab_Rn d 159 29 l [.ref 22] (ab_hl n (mm_F s Z)) (.inl (some (.int r.1))) (ab_hl n (mm_F r.2 Z)) := by
  intro s l x1 h1 r e
  unfold f159_29 at e
  refine r_iconst (pc := 29) p159 k159_29 (v := (0 : Int32)) rfl ?_
  exact t159_30 hn s l x1 (0 : Int32) h1 r e
def f159 (s : mS) (x1 : Int32) (x2 : Int32) (x3 : Int32) : Option (Int32 × mS) := (if (s.1 37) = 0 then (if (s.1 19) = 0 then f159_29 s x1 else (if x1 < x2 then f159_25 s x1 else (if x1 ≤ x3 then f159_29 s x1 else f159_25 s x1))) else f159_25 s x1)
theorem t159 {d n : Nat} {Z : Nat → ab_C} (hn : 42 ≤ n) (s : mS) (x1 : Int32) (x2 : Int32) (x3 : Int32) (r : Int32 × mS) (e : f159 s x1 x2 x3 = some r) : ab_Rn d 159 0 (lv_args 0 [.ref 22, .int x1, .int x2, .int x3]) [] (ab_hl n (mm_F s Z)) (.inl (some (.int r.1))) (ab_hl n (mm_F r.2 Z)) := by
  unfold f159 at e
  obtain ⟨l, hl⟩ : ∃ l, l = (lv_args 0 [.ref 22, .int x1, .int x2, .int x3]) := ⟨_, rfl⟩
  rw [← hl]
  have h0 : ab_get l 0 = some (.ref 22) := by rw [hl]; rfl
  have h1 : ab_get l 1 = some (.int x1) := by rw [hl]; rfl
  have h2 : ab_get l 2 = some (.int x2) := by rw [hl]; rfl
  have h3 : ab_get l 3 = some (.int x3) := by rw [hl]; rfl
  refine r_aload_n (pc := 0) p159 k159_0 h0 ?_
  refine r_aload_n (pc := 1) p159 k159_1 h0 ?_
  refine m_get hn (pc := 2) p159 k159_2 (v := .int (s.1 37)) rfl ?_
  refine r_if_ne (pc := 5) p159 k159_5 (fun c => ?_) (fun c => ?_)
  · have e := (if_neg c).symm.trans e
    exact t159_25 hn s l x1 h1 r e
  · have e := (if_pos c).symm.trans e
    refine r_aload_n (pc := 8) p159 k159_8 h0 ?_
    refine m_get hn (pc := 9) p159 k159_9 (v := .int (s.1 19)) rfl ?_
    refine r_if_eq (pc := 12) p159 k159_12 (fun c => ?_) (fun c => ?_)
    · have e := (if_pos c).symm.trans e
      exact t159_29 hn s l x1 h1 r e
    · have e := (if_neg c).symm.trans e
      refine r_iload_n (pc := 15) p159 k159_15 h1 ?_
      refine r_iload_n (pc := 16) p159 k159_16 h2 ?_
      refine r_ic_lt (pc := 17) p159 k159_17 (fun c => ?_) (fun c => ?_)
      · have e := (if_pos c).symm.trans e
        exact t159_25 hn s l x1 h1 r e
      · have e := (if_neg c).symm.trans e
        refine r_iload_n (pc := 20) p159 k159_20 h1 ?_
        refine r_iload_n (pc := 21) p159 k159_21 h3 ?_
        refine r_ic_le (pc := 22) p159 k159_22 (fun c => ?_) (fun c => ?_)
        · have e := (if_pos c).symm.trans e
          exact t159_29 hn s l x1 h1 r e
        · have e := (if_neg c).symm.trans e
          exact t159_25 hn s l x1 h1 r e

theorem p160 : ab_prog[160]? = some (ab_m160, ab_c160) := rfl
theorem k160_0 : ab_fetch ab_c160 0 = some (.iload_n 0, 1, 0, 0) := rfl
theorem k160_1 : ab_fetch ab_c160 1 = some (.bipush 20, 2, 0, 0) := rfl
theorem k160_3 : ab_fetch ab_c160 3 = some (.ishl, 1, 0, 0) := rfl
theorem k160_4 : ab_fetch ab_c160 4 = some (.iload_n 1, 1, 0, 0) := rfl
theorem k160_5 : ab_fetch ab_c160 5 = some (.bipush 15, 2, 0, 0) := rfl
theorem k160_7 : ab_fetch ab_c160 7 = some (.ishl, 1, 0, 0) := rfl
theorem k160_8 : ab_fetch ab_c160 8 = some (.ior, 1, 0, 0) := rfl
theorem k160_9 : ab_fetch ab_c160 9 = some (.iload_n 2, 1, 0, 0) := rfl
theorem k160_10 : ab_fetch ab_c160 10 = some (.bipush 12, 2, 0, 0) := rfl
theorem k160_12 : ab_fetch ab_c160 12 = some (.ishl, 1, 0, 0) := rfl
theorem k160_13 : ab_fetch ab_c160 13 = some (.ior, 1, 0, 0) := rfl
theorem k160_14 : ab_fetch ab_c160 14 = some (.iload_n 3, 1, 0, 0) := rfl
theorem k160_15 : ab_fetch ab_c160 15 = some (.bipush 7, 2, 0, 0) := rfl
theorem k160_17 : ab_fetch ab_c160 17 = some (.ishl, 1, 0, 0) := rfl
theorem k160_18 : ab_fetch ab_c160 18 = some (.ior, 1, 0, 0) := rfl
theorem k160_19 : ab_fetch ab_c160 19 = some (.iload 4, 2, 0, 0) := rfl
theorem k160_21 : ab_fetch ab_c160 21 = some (.ior, 1, 0, 0) := rfl
theorem k160_22 : ab_fetch ab_c160 22 = some (.ireturn, 1, 0, 0) := rfl
/- CodeSmithModel immediate(IIIII)I -/
def f160 (x0 : Int32) (x1 : Int32) (x2 : Int32) (x3 : Int32) (x4 : Int32) : Int32 := (((((x0 <<< ((20 : Int32) &&& 31)) ||| (x1 <<< ((15 : Int32) &&& 31))) ||| (x2 <<< ((12 : Int32) &&& 31))) ||| (x3 <<< ((7 : Int32) &&& 31))) ||| x4)
theorem t160 {d : Nat} {h : ab_H} (x0 : Int32) (x1 : Int32) (x2 : Int32) (x3 : Int32) (x4 : Int32) (r : Int32) (e : f160 x0 x1 x2 x3 x4 = r) : ab_Rn d 160 0 (lv_args 0 [.int x0, .int x1, .int x2, .int x3, .int x4]) [] h (.inl (some (.int r))) h := by
  unfold f160 at e
  obtain ⟨l, hl⟩ : ∃ l, l = (lv_args 0 [.int x0, .int x1, .int x2, .int x3, .int x4]) := ⟨_, rfl⟩
  rw [← hl]
  have h0 : ab_get l 0 = some (.int x0) := by rw [hl]; rfl
  have h1 : ab_get l 1 = some (.int x1) := by rw [hl]; rfl
  have h2 : ab_get l 2 = some (.int x2) := by rw [hl]; rfl
  have h3 : ab_get l 3 = some (.int x3) := by rw [hl]; rfl
  have h4 : ab_get l 4 = some (.int x4) := by rw [hl]; rfl
  refine r_iload_n (pc := 0) p160 k160_0 h0 ?_
  refine r_bipush (pc := 1) p160 k160_1 (v := (20 : Int32)) rfl ?_
  refine r_ishl (pc := 3) p160 k160_3 ?_
  refine r_iload_n (pc := 4) p160 k160_4 h1 ?_
  refine r_bipush (pc := 5) p160 k160_5 (v := (15 : Int32)) rfl ?_
  refine r_ishl (pc := 7) p160 k160_7 ?_
  refine r_ior (pc := 8) p160 k160_8 ?_
  refine r_iload_n (pc := 9) p160 k160_9 h2 ?_
  refine r_bipush (pc := 10) p160 k160_10 (v := (12 : Int32)) rfl ?_
  refine r_ishl (pc := 12) p160 k160_12 ?_
  refine r_ior (pc := 13) p160 k160_13 ?_
  refine r_iload_n (pc := 14) p160 k160_14 h3 ?_
  refine r_bipush (pc := 15) p160 k160_15 (v := (7 : Int32)) rfl ?_
  refine r_ishl (pc := 17) p160 k160_17 ?_
  refine r_ior (pc := 18) p160 k160_18 ?_
  refine r_iload (pc := 19) p160 k160_19 h4 ?_
  refine r_ior (pc := 21) p160 k160_21 ?_
  subst e
  exact r_retI (pc := 22) p160 k160_22 rfl

theorem p162 : ab_prog[162]? = some (ab_m162, ab_c162) := rfl
theorem k162_0 : ab_fetch ab_c162 0 = some (.aload_n 0, 1, 0, 0) := rfl
theorem k162_1 : ab_fetch ab_c162 1 = some (.getfield 322, 3, 6, 18) := rfl
theorem k162_4 : ab_fetch ab_c162 4 = some (.istore_n 1, 1, 0, 0) := rfl
theorem k162_5 : ab_fetch ab_c162 5 = some (.aload_n 0, 1, 0, 0) := rfl
theorem k162_6 : ab_fetch ab_c162 6 = some (.invokevirtual 346, 3, 118, 0) := rfl
theorem k162_9 : ab_fetch ab_c162 9 = some (.iconst 0, 1, 0, 0) := rfl
theorem k162_10 : ab_fetch ab_c162 10 = some (.istore_n 2, 1, 0, 0) := rfl
theorem k162_11 : ab_fetch ab_c162 11 = some (.aload_n 0, 1, 0, 0) := rfl
theorem k162_12 : ab_fetch ab_c162 12 = some (.iconst 0, 1, 0, 0) := rfl
theorem k162_13 : ab_fetch ab_c162 13 = some (.invokevirtual 335, 3, 119, 1) := rfl
theorem k162_16 : ab_fetch ab_c162 16 = some (.invokestatic 328, 3, 120, 1) := rfl
theorem k162_19 : ab_fetch ab_c162 19 = some (.ifCond .eq 20, 3, 39, 0) := rfl
theorem k162_22 : ab_fetch ab_c162 22 = some (.aload_n 0, 1, 0, 0) := rfl
theorem k162_23 : ab_fetch ab_c162 23 = some (.iload_n 2, 1, 0, 0) := rfl
theorem k162_24 : ab_fetch ab_c162 24 = some (.invokevirtual 335, 3, 119, 1) := rfl
theorem k162_27 : ab_fetch ab_c162 27 = some (.invokestatic 355, 3, 121, 1) := rfl
theorem k162_30 : ab_fetch ab_c162 30 = some (.ifCond .eq 9, 3, 39, 0) := rfl
theorem k162_33 : ab_fetch ab_c162 33 = some (.iinc 2 1, 3, 0, 0) := rfl
theorem k162_36 : ab_fetch ab_c162 36 = some (.goto (-25), 3, 11, 0) := rfl
theorem k162_39 : ab_fetch ab_c162 39 = some (.iload_n 2, 1, 0, 0) := rfl
theorem k162_40 : ab_fetch ab_c162 40 = some (.ifCond .le 24, 3, 64, 0) := rfl
theorem k162_43 : ab_fetch ab_c162 43 = some (.iload_n 2, 1, 0, 0) := rfl
theorem k162_44 : ab_fetch ab_c162 44 = some (.iconst 5, 1, 0, 0) := rfl
theorem k162_45 : ab_fetch ab_c162 45 = some (.if_icmp .ge 19, 3, 64, 0) := rfl
theorem k162_48 : ab_fetch ab_c162 48 = some (.aload_n 0, 1, 0, 0) := rfl
theorem k162_49 : ab_fetch ab_c162 49 = some (.aload_n 0, 1, 0, 0) := rfl
theorem k162_50 : ab_fetch ab_c162 50 = some (.getfield 322, 3, 6, 18) := rfl
theorem k162_53 : ab_fetch ab_c162 53 = some (.iload_n 2, 1, 0, 0) := rfl
theorem k162_54 : ab_fetch ab_c162 54 = some (.invokevirtual 401, 3, 134, 2) := rfl
theorem k162_57 : ab_fetch ab_c162 57 = some (.ifCond .lt 7, 3, 64, 0) := rfl
theorem k162_60 : ab_fetch ab_c162 60 = some (.iconst 1, 1, 0, 0) := rfl
theorem k162_61 : ab_fetch ab_c162 61 = some (.goto 4, 3, 65, 0) := rfl
theorem k162_64 : ab_fetch ab_c162 64 = some (.iconst 0, 1, 0, 0) := rfl
theorem k162_65 : ab_fetch ab_c162 65 = some (.istore_n 3, 1, 0, 0) := rfl
theorem k162_66 : ab_fetch ab_c162 66 = some (.aload_n 0, 1, 0, 0) := rfl
theorem k162_67 : ab_fetch ab_c162 67 = some (.iload_n 1, 1, 0, 0) := rfl
theorem k162_68 : ab_fetch ab_c162 68 = some (.putfield 322, 3, 6, 18) := rfl
theorem k162_71 : ab_fetch ab_c162 71 = some (.iload_n 3, 1, 0, 0) := rfl
theorem k162_72 : ab_fetch ab_c162 72 = some (.ireturn, 1, 0, 0) := rfl
/- CodeSmithModel registerFollows()Z -/
def f162_65 (s : mS) (x1 : Int32) (y0 : Int32) : Option (Int32 × mS) := if bz y0 then some (y0, (mg s 18 x1)) else none
theorem t162_65 {d n : Nat} {Z : Nat → ab_C} (hn : 42 ≤ n) : ∀ (s : mS) (l : ab_L) (x1 : Int32) (y0 : Int32) (h0 : ab_get l 0 = some (.ref 22)) (h1 : ab_get l 1 = some (.int x1)) (r : Int32 × mS) (e : f162_65 s x1 y0 = some r), ab_Rn (d + 3) 162 65 l [.int y0] (ab_hl n (mm_F s Z)) (.inl (some (.int r.1))) (ab_hl n (mm_F r.2 Z)) := by
  intro s l x1 y0 h0 h1 r e
  unfold f162_65 at e
  refine r_istore_n (pc := 65) p162 k162_65 (by decide) (fun l g h3 => ?_)
  have h0 := g 0 _ (by decide) h0 (Or.inl rfl)
  have h1 := g 1 _ (by decide) h1 (Or.inl rfl)
  refine r_aload_n (pc := 66) p162 k162_66 h0 ?_
  refine r_iload_n (pc := 67) p162 k162_67 h1 ?_
  refine m_put hn (pc := 68) p162 k162_68 rfl rfl rfl rfl ?_
  refine r_iload_n (pc := 71) p162 k162_71 h3 ?_
  obtain ⟨c, e⟩ := of_if e
  cases e
  exact r_retZ (pc := 72) p162 k162_72 rfl c
def f162_64 (s : mS) (x1 : Int32) : Option (Int32 × mS) := f162_65 s x1 (0 : Int32)
theorem t162_64 {d n : Nat} {Z : Nat → ab_C} (hn : 42 ≤ n) : ∀ (s : mS) (l : ab_L) (x1 : Int32) (h0 : ab_get l 0 = some (.ref 22)) (h1 : ab_get l 1 = some (.int x1)) (r : Int32 × mS) (e : f162_64 s x1 = some r), ab_Rn (d + 3) 162 64 l [] (ab_hl n (mm_F s Z)) (.inl (some (.int r.1))) (ab_hl n (mm_F r.2 Z)) := by
  intro s l x1 h0 h1 r e
  unfold f162_64 at e
  refine r_iconst (pc := 64) p162 k162_64 (v := (0 : Int32)) rfl ?_
  exact t162_65 hn s l x1 (0 : Int32) h0 h1 r e
def f162_39 (s : mS) (x1 : Int32) (x2 : Int32) : Option (Int32 × mS) := (if x2 ≤ 0 then f162_64 s x1 else (if (5 : Int32) ≤ x2 then f162_64 s x1 else ((f134 s (s.1 18) x2).bind fun r1 => (if r1 < 0 then f162_64 s x1 else f162_65 s x1 (1 : Int32)))))
theorem t162_39 {d n : Nat} {Z : Nat → ab_C} (hn : 42 ≤ n) : ∀ (s : mS) (l : ab_L) (x1 : Int32) (x2 : Int32) (h0 : ab_get l 0 = some (.ref 22)) (h1 : ab_get l 1 = some (.int x1)) (h2 : ab_get l 2 = some (.int x2)) (r : Int32 × mS) (e : f162_39 s x1 x2 = some r), ab_Rn (d + 3) 162 39 l [] (ab_hl n (mm_F s Z)) (.inl (some (.int r.1))) (ab_hl n (mm_F r.2 Z)) := by
  intro s l x1 x2 h0 h1 h2 r e
  unfold f162_39 at e
  refine r_iload_n (pc := 39) p162 k162_39 h2 ?_
  refine r_if_le (pc := 40) p162 k162_40 (fun c => ?_) (fun c => ?_)
  · have e := (if_pos c).symm.trans e
    exact t162_64 hn s l x1 h0 h1 r e
  · have e := (if_neg c).symm.trans e
    refine r_iload_n (pc := 43) p162 k162_43 h2 ?_
    refine r_iconst (pc := 44) p162 k162_44 (v := (5 : Int32)) rfl ?_
    refine r_ic_ge (pc := 45) p162 k162_45 (fun c => ?_) (fun c => ?_)
    · have e := (if_pos c).symm.trans e
      exact t162_64 hn s l x1 h0 h1 r e
    · have e := (if_neg c).symm.trans e
      refine r_aload_n (pc := 48) p162 k162_48 h0 ?_
      refine r_aload_n (pc := 49) p162 k162_49 h0 ?_
      refine m_get hn (pc := 50) p162 k162_50 (v := .int (s.1 18)) rfl ?_
      refine r_iload_n (pc := 53) p162 k162_53 h2 ?_
      obtain ⟨r1, er1, e⟩ := of_bind e
      refine m_cv hn (pc := 54) p162 k162_54 rfl p134 (r := []) rfl rfl rfl rfl rfl (t134 hn s (s.1 18) x2 r1 er1) (w := [.int r1]) rfl ?_
      refine r_if_lt (pc := 57) p162 k162_57 (fun c => ?_) (fun c => ?_)
      · have e := (if_pos c).symm.trans e
        exact t162_64 hn s l x1 h0 h1 r e
      · have e := (if_neg c).symm.trans e
        refine r_iconst (pc := 60) p162 k162_60 (v := (1 : Int32)) rfl ?_
        refine r_goto (pc := 61) p162 k162_61 ?_
        exact t162_65 hn s l x1 (1 : Int32) h0 h1 r e
def f162_11 : Nat → mS → Int32 → Int32 → Option (Int32 × mS)
  | 0, _, _, _ => none
  | u + 1, s, x1, x2 => ((f119 s (0 : Int32)).bind fun r1 => (if (f120 r1) = 0 then f162_39 s x1 x2 else ((f119 s x2).bind fun r2 => (if (f121 r2) = 0 then f162_39 s x1 x2 else f162_11 u s x1 (x2 + (1 : Int32))))))
theorem t162_11 {d n : Nat} {Z : Nat → ab_C} (hn : 42 ≤ n) : ∀ u : Nat, ∀ (s : mS) (l : ab_L) (x1 : Int32) (x2 : Int32) (h0 : ab_get l 0 = some (.ref 22)) (h1 : ab_get l 1 = some (.int x1)) (h2 : ab_get l 2 = some (.int x2)) (r : Int32 × mS) (e : f162_11 u s x1 x2 = some r), ab_Rn (d + 3) 162 11 l [] (ab_hl n (mm_F s Z)) (.inl (some (.int r.1))) (ab_hl n (mm_F r.2 Z)) := by
  intro u
  induction u with
  | zero => intro s l x1 x2 h0 h1 h2 r e; rw [f162_11] at e; cases e
  | succ u ih =>
    intro s l x1 x2 h0 h1 h2 r e
    rw [f162_11] at e
    refine r_aload_n (pc := 11) p162 k162_11 h0 ?_
    refine r_iconst (pc := 12) p162 k162_12 (v := (0 : Int32)) rfl ?_
    obtain ⟨r1, er1, e⟩ := of_bind e
    refine m_cv hn (pc := 13) p162 k162_13 rfl p119 (r := []) rfl rfl rfl rfl rfl (t119 hn s (0 : Int32) r1 er1) (w := [.int r1]) rfl ?_
    refine r_csv (pc := 16) p162 k162_16 rfl rfl p120 (r := []) rfl rfl rfl rfl (t120 r1 _ rfl) (w := [.int (f120 r1)]) rfl ?_
    refine r_if_eq (pc := 19) p162 k162_19 (fun c => ?_) (fun c => ?_)
    · have e := (if_pos c).symm.trans e
      exact t162_39 hn s l x1 x2 h0 h1 h2 r e
    · have e := (if_neg c).symm.trans e
      refine r_aload_n (pc := 22) p162 k162_22 h0 ?_
      refine r_iload_n (pc := 23) p162 k162_23 h2 ?_
      obtain ⟨r2, er2, e⟩ := of_bind e
      refine m_cv hn (pc := 24) p162 k162_24 rfl p119 (r := []) rfl rfl rfl rfl rfl (t119 hn s x2 r2 er2) (w := [.int r2]) rfl ?_
      refine r_csv (pc := 27) p162 k162_27 rfl rfl p121 (r := []) rfl rfl rfl rfl (t121 r2 _ rfl) (w := [.int (f121 r2)]) rfl ?_
      refine r_if_eq (pc := 30) p162 k162_30 (fun c => ?_) (fun c => ?_)
      · have e := (if_pos c).symm.trans e
        exact t162_39 hn s l x1 x2 h0 h1 h2 r e
      · have e := (if_neg c).symm.trans e
        refine r_iinc (pc := 33) p162 k162_33 h2 (by decide) (v := (x2 + (1 : Int32))) rfl (fun l g h2 => ?_)
        have h0 := g 0 _ (by decide) h0 (Or.inl rfl)
        have h1 := g 1 _ (by decide) h1 (Or.inl rfl)
        refine r_goto (pc := 36) p162 k162_36 ?_
        exact ih s l x1 (x2 + (1 : Int32)) h0 h1 h2 r e
def f162 (s : mS) : Option (Int32 × mS) := ((f118 s).bind fun r1 => f162_11 mm_U r1 (s.1 18) (0 : Int32))
theorem t162 {d n : Nat} {Z : Nat → ab_C} (hn : 42 ≤ n) (s : mS) (r : Int32 × mS) (e : f162 s = some r) : ab_Rn (d + 3) 162 0 (lv_args 0 [.ref 22]) [] (ab_hl n (mm_F s Z)) (.inl (some (.int r.1))) (ab_hl n (mm_F r.2 Z)) := by
  unfold f162 at e
  obtain ⟨l, hl⟩ : ∃ l, l = (lv_args 0 [.ref 22]) := ⟨_, rfl⟩
  rw [← hl]
  have h0 : ab_get l 0 = some (.ref 22) := by rw [hl]; rfl
  refine r_aload_n (pc := 0) p162 k162_0 h0 ?_
  refine m_get hn (pc := 1) p162 k162_1 (v := .int (s.1 18)) rfl ?_
  refine r_istore_n (pc := 4) p162 k162_4 (by decide) (fun l g h1 => ?_)
  have h0 := g 0 _ (by decide) h0 (Or.inl rfl)
  refine r_aload_n (pc := 5) p162 k162_5 h0 ?_
  obtain ⟨r1, er1, e⟩ := of_bind e
  refine m_cv hn (pc := 6) p162 k162_6 rfl p118 (r := []) rfl rfl rfl rfl rfl (t118 hn s r1 er1) (w := []) rfl ?_
  refine r_iconst (pc := 9) p162 k162_9 (v := (0 : Int32)) rfl ?_
  refine r_istore_n (pc := 10) p162 k162_10 (by decide) (fun l g h2 => ?_)
  have h0 := g 0 _ (by decide) h0 (Or.inl rfl)
  have h1 := g 1 _ (by decide) h1 (Or.inl rfl)
  exact t162_11 hn mm_U r1 l (s.1 18) (0 : Int32) h0 h1 h2 r e

theorem p161 : ab_prog[161]? = some (ab_m161, ab_c161) := rfl
theorem k161_0 : ab_fetch ab_c161 0 = some (.aload_n 0, 1, 0, 0) := rfl
theorem k161_1 : ab_fetch ab_c161 1 = some (.bipush 40, 2, 0, 0) := rfl
theorem k161_3 : ab_fetch ab_c161 3 = some (.invokevirtual 384, 3, 142, 1) := rfl
theorem k161_6 : ab_fetch ab_c161 6 = some (.ifCond .eq 14, 3, 20, 0) := rfl
theorem k161_9 : ab_fetch ab_c161 9 = some (.aload_n 0, 1, 0, 0) := rfl
theorem k161_10 : ab_fetch ab_c161 10 = some (.invokevirtual 498, 3, 162, 0) := rfl
theorem k161_13 : ab_fetch ab_c161 13 = some (.ifCond .eq 7, 3, 20, 0) := rfl
theorem k161_16 : ab_fetch ab_c161 16 = some (.iconst 0, 1, 0, 0) := rfl
theorem k161_17 : ab_fetch ab_c161 17 = some (.goto 17, 3, 34, 0) := rfl
theorem k161_20 : ab_fetch ab_c161 20 = some (.aload_n 0, 1, 0, 0) := rfl
theorem k161_21 : ab_fetch ab_c161 21 = some (.aload_n 0, 1, 0, 0) := rfl
theorem k161_22 : ab_fetch ab_c161 22 = some (.invokevirtual 502, 3, 145, 0) := rfl
theorem k161_25 : ab_fetch ab_c161 25 = some (.sipush (-2048), 3, 0, 0) := rfl
theorem k161_28 : ab_fetch ab_c161 28 = some (.sipush 2047, 3, 0, 0) := rfl
theorem k161_31 : ab_fetch ab_c161 31 = some (.invokevirtual 483, 3, 159, 3) := rfl
theorem k161_34 : ab_fetch ab_c161 34 = some (.istore_n 1, 1, 0, 0) := rfl
theorem k161_35 : ab_fetch ab_c161 35 = some (.aload_n 0, 1, 0, 0) := rfl
theorem k161_36 : ab_fetch ab_c161 36 = some (.bipush 40, 2, 0, 0) := rfl
theorem k161_38 : ab_fetch ab_c161 38 = some (.invokevirtual 495, 3, 141, 1) := rfl
theorem k161_41 : ab_fetch ab_c161 41 = some (.aload_n 0, 1, 0, 0) := rfl
theorem k161_42 : ab_fetch ab_c161 42 = some (.aload_n 0, 1, 0, 0) := rfl
theorem k161_43 : ab_fetch ab_c161 43 = some (.invokevirtual 491, 3, 140, 0) := rfl
theorem k161_46 : ab_fetch ab_c161 46 = some (.putfield 505, 3, 6, 47) := rfl
theorem k161_49 : ab_fetch ab_c161 49 = some (.aload_n 0, 1, 0, 0) := rfl
theorem k161_50 : ab_fetch ab_c161 50 = some (.bipush 41, 2, 0, 0) := rfl
theorem k161_52 : ab_fetch ab_c161 52 = some (.invokevirtual 495, 3, 141, 1) := rfl
theorem k161_55 : ab_fetch ab_c161 55 = some (.iload_n 1, 1, 0, 0) := rfl
theorem k161_56 : ab_fetch ab_c161 56 = some (.ireturn, 1, 0, 0) := rfl
/- CodeSmithModel memory()I -/
def f161_34 (s : mS) (y0 : Int32) : Option (Int32 × mS) := ((f141 s (40 : Int32)).bind fun r1 => ((f140 r1).bind fun r2 => ((f141 (mg r2.2 47 r2.1) (41 : Int32)).bind fun r3 => some (y0, r3))))
theorem t161_34 {d n : Nat} {Z : Nat → ab_C} (hn : 42 ≤ n) : ∀ (s : mS) (l : ab_L) (y0 : Int32) (h0 : ab_get l 0 = some (.ref 22)) (r : Int32 × mS) (e : f161_34 s y0 = some r), ab_Rn (d + 8) 161 34 l [.int y0] (ab_hl n (mm_F s Z)) (.inl (some (.int r.1))) (ab_hl n (mm_F r.2 Z)) := by
  intro s l y0 h0 r e
  unfold f161_34 at e
  refine r_istore_n (pc := 34) p161 k161_34 (by decide) (fun l g h1 => ?_)
  have h0 := g 0 _ (by decide) h0 (Or.inl rfl)
  refine r_aload_n (pc := 35) p161 k161_35 h0 ?_
  refine r_bipush (pc := 36) p161 k161_36 (v := (40 : Int32)) rfl ?_
  obtain ⟨r1, er1, e⟩ := of_bind e
  refine m_cv hn (pc := 38) p161 k161_38 rfl p141 (r := []) rfl rfl rfl rfl rfl (t141 hn s (40 : Int32) r1 er1) (w := []) rfl ?_
  refine r_aload_n (pc := 41) p161 k161_41 h0 ?_
  refine r_aload_n (pc := 42) p161 k161_42 h0 ?_
  obtain ⟨r2, er2, e⟩ := of_bind e
  refine m_cv hn (pc := 43) p161 k161_43 rfl p140 (r := [.ref 22]) rfl rfl rfl rfl rfl (t140 hn r1 r2 er2) (w := [.int r2.1, .ref 22]) rfl ?_
  refine m_put hn (pc := 46) p161 k161_46 rfl rfl rfl rfl ?_
  refine r_aload_n (pc := 49) p161 k161_49 h0 ?_
  refine r_bipush (pc := 50) p161 k161_50 (v := (41 : Int32)) rfl ?_
  obtain ⟨r3, er3, e⟩ := of_bind e
  refine m_cv hn (pc := 52) p161 k161_52 rfl p141 (r := []) rfl rfl rfl rfl rfl (t141 hn (mg r2.2 47 r2.1) (41 : Int32) r3 er3) (w := []) rfl ?_
  refine r_iload_n (pc := 55) p161 k161_55 h1 ?_
  cases e
  exact r_retI (pc := 56) p161 k161_56 rfl
def f161_20 (s : mS) : Option (Int32 × mS) := ((f145 s).bind fun r1 => ((f159 r1.2 r1.1 (-2048 : Int32) (2047 : Int32)).bind fun r2 => f161_34 r2.2 r2.1))
theorem t161_20 {d n : Nat} {Z : Nat → ab_C} (hn : 42 ≤ n) : ∀ (s : mS) (l : ab_L)  (h0 : ab_get l 0 = some (.ref 22)) (r : Int32 × mS) (e : f161_20 s  = some r), ab_Rn (d + 8) 161 20 l [] (ab_hl n (mm_F s Z)) (.inl (some (.int r.1))) (ab_hl n (mm_F r.2 Z)) := by
  intro s l h0 r e
  unfold f161_20 at e
  refine r_aload_n (pc := 20) p161 k161_20 h0 ?_
  refine r_aload_n (pc := 21) p161 k161_21 h0 ?_
  obtain ⟨r1, er1, e⟩ := of_bind e
  refine m_cv hn (pc := 22) p161 k161_22 rfl p145 (r := [.ref 22]) rfl rfl rfl rfl rfl (t145 hn s r1 er1) (w := [.int r1.1, .ref 22]) rfl ?_
  refine r_sipush (pc := 25) p161 k161_25 (v := (-2048 : Int32)) rfl ?_
  refine r_sipush (pc := 28) p161 k161_28 (v := (2047 : Int32)) rfl ?_
  obtain ⟨r2, er2, e⟩ := of_bind e
  refine m_cv hn (pc := 31) p161 k161_31 rfl p159 (r := []) rfl rfl rfl rfl rfl (t159 hn r1.2 r1.1 (-2048 : Int32) (2047 : Int32) r2 er2) (w := [.int r2.1]) rfl ?_
  exact t161_34 hn r2.2 l r2.1 h0 r e
def f161 (s : mS) : Option (Int32 × mS) := (if (f142 s (40 : Int32)) = 0 then f161_20 s else ((f162 s).bind fun r1 => (if r1.1 = 0 then f161_20 r1.2 else f161_34 r1.2 (0 : Int32))))
theorem t161 {d n : Nat} {Z : Nat → ab_C} (hn : 42 ≤ n) (s : mS) (r : Int32 × mS) (e : f161 s = some r) : ab_Rn (d + 8) 161 0 (lv_args 0 [.ref 22]) [] (ab_hl n (mm_F s Z)) (.inl (some (.int r.1))) (ab_hl n (mm_F r.2 Z)) := by
  unfold f161 at e
  obtain ⟨l, hl⟩ : ∃ l, l = (lv_args 0 [.ref 22]) := ⟨_, rfl⟩
  rw [← hl]
  have h0 : ab_get l 0 = some (.ref 22) := by rw [hl]; rfl
  refine r_aload_n (pc := 0) p161 k161_0 h0 ?_
  refine r_bipush (pc := 1) p161 k161_1 (v := (40 : Int32)) rfl ?_
  refine m_cv hn (pc := 3) p161 k161_3 rfl p142 (r := []) rfl rfl rfl rfl rfl (t142 hn s (40 : Int32) _ rfl) (w := [.int (f142 s (40 : Int32))]) rfl ?_
  refine r_if_eq (pc := 6) p161 k161_6 (fun c => ?_) (fun c => ?_)
  · have e := (if_pos c).symm.trans e
    exact t161_20 hn s l h0 r e
  · have e := (if_neg c).symm.trans e
    refine r_aload_n (pc := 9) p161 k161_9 h0 ?_
    obtain ⟨r1, er1, e⟩ := of_bind e
    refine m_cv hn (pc := 10) p161 k161_10 rfl p162 (r := []) rfl rfl rfl rfl rfl (t162 hn s r1 er1) (w := [.int r1.1]) rfl ?_
    refine r_if_eq (pc := 13) p161 k161_13 (fun c => ?_) (fun c => ?_)
    · have e := (if_pos c).symm.trans e
      exact t161_20 hn r1.2 l h0 r e
    · have e := (if_neg c).symm.trans e
      refine r_iconst (pc := 16) p161 k161_16 (v := (0 : Int32)) rfl ?_
      refine r_goto (pc := 17) p161 k161_17 ?_
      exact t161_34 hn r1.2 l (0 : Int32) h0 r e
