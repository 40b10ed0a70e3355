theorem p151 : ab_prog[151]? = some (ab_m151, ab_c151) := rfl
theorem k151_0 : ab_fetch ab_c151 0 = some (.aload_n 0, 1, 0, 0) := rfl
theorem k151_1 : ab_fetch ab_c151 1 = some (.dup, 1, 0, 0) := rfl
theorem k151_2 : ab_fetch ab_c151 2 = some (.getfield 421, 3, 6, 40) := rfl
theorem k151_5 : ab_fetch ab_c151 5 = some (.iconst 1, 1, 0, 0) := rfl
theorem k151_6 : ab_fetch ab_c151 6 = some (.isub, 1, 0, 0) := rfl
theorem k151_7 : ab_fetch ab_c151 7 = some (.putfield 421, 3, 6, 40) := rfl
theorem k151_10 : ab_fetch ab_c151 10 = some (.aload_n 0, 1, 0, 0) := rfl
theorem k151_11 : ab_fetch ab_c151 11 = some (.dup, 1, 0, 0) := rfl
theorem k151_12 : ab_fetch ab_c151 12 = some (.getfield 430, 3, 6, 39) := rfl
theorem k151_15 : ab_fetch ab_c151 15 = some (.iconst 1, 1, 0, 0) := rfl
theorem k151_16 : ab_fetch ab_c151 16 = some (.isub, 1, 0, 0) := rfl
theorem k151_17 : ab_fetch ab_c151 17 = some (.putfield 430, 3, 6, 39) := rfl
theorem k151_20 : ab_fetch ab_c151 20 = some (.aload_n 0, 1, 0, 0) := rfl
theorem k151_21 : ab_fetch ab_c151 21 = some (.getfield 288, 3, 6, 43) := rfl
theorem k151_24 : ab_fetch ab_c151 24 = some (.aload_n 0, 1, 0, 0) := rfl
theorem k151_25 : ab_fetch ab_c151 25 = some (.getfield 421, 3, 6, 40) := rfl
theorem k151_28 : ab_fetch ab_c151 28 = some (.iaload, 1, 0, 0) := rfl
theorem k151_29 : ab_fetch ab_c151 29 = some (.istore_n 2, 1, 0, 0) := rfl
theorem k151_30 : ab_fetch ab_c151 30 = some (.iload_n 2, 1, 0, 0) := rfl
theorem k151_31 : ab_fetch ab_c151 31 = some (.bipush 47, 2, 0, 0) := rfl
theorem k151_33 : ab_fetch ab_c151 33 = some (.if_icmp .eq 9, 3, 42, 0) := rfl
theorem k151_36 : ab_fetch ab_c151 36 = some (.iload_n 2, 1, 0, 0) := rfl
theorem k151_37 : ab_fetch ab_c151 37 = some (.bipush 37, 2, 0, 0) := rfl
theorem k151_39 : ab_fetch ab_c151 39 = some (.if_icmp .ne 19, 3, 58, 0) := rfl
theorem k151_42 : ab_fetch ab_c151 42 = some (.aload_n 0, 1, 0, 0) := rfl
theorem k151_43 : ab_fetch ab_c151 43 = some (.getfield 285, 3, 6, 42) := rfl
theorem k151_46 : ab_fetch ab_c151 46 = some (.aload_n 0, 1, 0, 0) := rfl
theorem k151_47 : ab_fetch ab_c151 47 = some (.getfield 430, 3, 6, 39) := rfl
theorem k151_50 : ab_fetch ab_c151 50 = some (.iaload, 1, 0, 0) := rfl
theorem k151_51 : ab_fetch ab_c151 51 = some (.ifCond .ne 7, 3, 58, 0) := rfl
theorem k151_54 : ab_fetch ab_c151 54 = some (.iconst 1, 1, 0, 0) := rfl
theorem k151_55 : ab_fetch ab_c151 55 = some (.goto 4, 3, 59, 0) := rfl
theorem k151_58 : ab_fetch ab_c151 58 = some (.iconst 0, 1, 0, 0) := rfl
theorem k151_59 : ab_fetch ab_c151 59 = some (.istore_n 3, 1, 0, 0) := rfl
theorem k151_60 : ab_fetch ab_c151 60 = some (.aload_n 0, 1, 0, 0) := rfl
theorem k151_61 : ab_fetch ab_c151 61 = some (.aload_n 0, 1, 0, 0) := rfl
theorem k151_62 : ab_fetch ab_c151 62 = some (.getfield 415, 3, 6, 38) := rfl
theorem k151_65 : ab_fetch ab_c151 65 = some (.ifCond .ne 7, 3, 72, 0) := rfl
theorem k151_68 : ab_fetch ab_c151 68 = some (.iload_n 3, 1, 0, 0) := rfl
theorem k151_69 : ab_fetch ab_c151 69 = some (.ifCond .eq 7, 3, 76, 0) := rfl
theorem k151_72 : ab_fetch ab_c151 72 = some (.iconst 1, 1, 0, 0) := rfl
theorem k151_73 : ab_fetch ab_c151 73 = some (.goto 4, 3, 77, 0) := rfl
theorem k151_76 : ab_fetch ab_c151 76 = some (.iconst 0, 1, 0, 0) := rfl
theorem k151_77 : ab_fetch ab_c151 77 = some (.putfield 415, 3, 6, 38) := rfl
theorem k151_80 : ab_fetch ab_c151 80 = some (.iload_n 3, 1, 0, 0) := rfl
theorem k151_81 : ab_fetch ab_c151 81 = some (.ifCond .eq 36, 3, 117, 0) := rfl
theorem k151_84 : ab_fetch ab_c151 84 = some (.iload_n 1, 1, 0, 0) := rfl
theorem k151_85 : ab_fetch ab_c151 85 = some (.iconst 1, 1, 0, 0) := rfl
theorem k151_86 : ab_fetch ab_c151 86 = some (.if_icmp .eq 31, 3, 117, 0) := rfl
theorem k151_89 : ab_fetch ab_c151 89 = some (.iload_n 1, 1, 0, 0) := rfl
theorem k151_90 : ab_fetch ab_c151 90 = some (.iconst 3, 1, 0, 0) := rfl
theorem k151_91 : ab_fetch ab_c151 91 = some (.if_icmp .eq 26, 3, 117, 0) := rfl
theorem k151_94 : ab_fetch ab_c151 94 = some (.aload_n 0, 1, 0, 0) := rfl
theorem k151_95 : ab_fetch ab_c151 95 = some (.iload_n 1, 1, 0, 0) := rfl
theorem k151_96 : ab_fetch ab_c151 96 = some (.ifCond .ne 7, 3, 103, 0) := rfl
theorem k151_99 : ab_fetch ab_c151 99 = some (.iconst 5, 1, 0, 0) := rfl
theorem k151_100 : ab_fetch ab_c151 100 = some (.goto 5, 3, 105, 0) := rfl
theorem k151_103 : ab_fetch ab_c151 103 = some (.bipush 9, 2, 0, 0) := rfl
theorem k151_105 : ab_fetch ab_c151 105 = some (.aload_n 0, 1, 0, 0) := rfl
theorem k151_106 : ab_fetch ab_c151 106 = some (.getfield 291, 3, 6, 44) := rfl
theorem k151_109 : ab_fetch ab_c151 109 = some (.aload_n 0, 1, 0, 0) := rfl
theorem k151_110 : ab_fetch ab_c151 110 = some (.getfield 421, 3, 6, 40) := rfl
theorem k151_113 : ab_fetch ab_c151 113 = some (.iaload, 1, 0, 0) := rfl
theorem k151_114 : ab_fetch ab_c151 114 = some (.invokevirtual 342, 3, 131, 2) := rfl
theorem k151_117 : ab_fetch ab_c151 117 = some (.aload_n 0, 1, 0, 0) := rfl
theorem k151_118 : ab_fetch ab_c151 118 = some (.getfield 285, 3, 6, 42) := rfl
theorem k151_121 : ab_fetch ab_c151 121 = some (.aload_n 0, 1, 0, 0) := rfl
theorem k151_122 : ab_fetch ab_c151 122 = some (.getfield 430, 3, 6, 39) := rfl
theorem k151_125 : ab_fetch ab_c151 125 = some (.iconst 1, 1, 0, 0) := rfl
theorem k151_126 : ab_fetch ab_c151 126 = some (.isub, 1, 0, 0) := rfl
theorem k151_127 : ab_fetch ab_c151 127 = some (.iload_n 3, 1, 0, 0) := rfl
theorem k151_128 : ab_fetch ab_c151 128 = some (.ifCond .eq 7, 3, 135, 0) := rfl
theorem k151_131 : ab_fetch ab_c151 131 = some (.iconst 0, 1, 0, 0) := rfl
theorem k151_132 : ab_fetch ab_c151 132 = some (.goto 27, 3, 159, 0) := rfl
theorem k151_135 : ab_fetch ab_c151 135 = some (.iload_n 2, 1, 0, 0) := rfl
theorem k151_136 : ab_fetch ab_c151 136 = some (.aload_n 0, 1, 0, 0) := rfl
theorem k151_137 : ab_fetch ab_c151 137 = some (.getfield 285, 3, 6, 42) := rfl
theorem k151_140 : ab_fetch ab_c151 140 = some (.aload_n 0, 1, 0, 0) := rfl
theorem k151_141 : ab_fetch ab_c151 141 = some (.getfield 430, 3, 6, 39) := rfl
theorem k151_144 : ab_fetch ab_c151 144 = some (.iconst 1, 1, 0, 0) := rfl
theorem k151_145 : ab_fetch ab_c151 145 = some (.isub, 1, 0, 0) := rfl
theorem k151_146 : ab_fetch ab_c151 146 = some (.iaload, 1, 0, 0) := rfl
theorem k151_147 : ab_fetch ab_c151 147 = some (.aload_n 0, 1, 0, 0) := rfl
theorem k151_148 : ab_fetch ab_c151 148 = some (.getfield 285, 3, 6, 42) := rfl
theorem k151_151 : ab_fetch ab_c151 151 = some (.aload_n 0, 1, 0, 0) := rfl
theorem k151_152 : ab_fetch ab_c151 152 = some (.getfield 430, 3, 6, 39) := rfl
theorem k151_155 : ab_fetch ab_c151 155 = some (.iaload, 1, 0, 0) := rfl
theorem k151_156 : ab_fetch ab_c151 156 = some (.invokestatic 433, 3, 152, 3) := rfl
theorem k151_159 : ab_fetch ab_c151 159 = some (.iastore, 1, 0, 0) := rfl
theorem k151_160 : ab_fetch ab_c151 160 = some (.return_, 1, 0, 0) := rfl
/- CodeSmithModel reduce(I)V -/
def f151_159 (s : mS) (y0 : Int32) (y1 : Int32) : Option mS := if ib y1 160 then some (mb s 42 y1 y0) else none
theorem t151_159 {d n : Nat} {Z : Nat → ab_C} (hn : 42 ≤ n) : ∀ (s : mS) (l : ab_L) (y0 : Int32) (y1 : Int32)  (r : mS) (e : f151_159 s y0 y1 = some r), ab_Rn (d + 2) 151 159 l [.int y0, .int y1, .ref 36] (ab_hl n (mm_F s Z)) (.inl none) (ab_hl n (mm_F r Z)) := by
  intro s l y0 y1 r e
  unfold f151_159 at e
  obtain ⟨c, e⟩ := of_if e
  refine m_ast hn rfl (pc := 159) p151 k151_159 (k := 42) rfl (mm_arr42 _ Z) c ?_
  cases e
  exact r_retV (pc := 160) p151 k151_160 rfl
def f151_117 (s : mS) (x2 : Int32) (x3 : Int32) : Option mS := (if x3 = 0 then if ib ((s.1 39) - (1 : Int32)) 160 then if ib (s.1 39) 160 then ((f152 x2 ((s.2 42) ((s.1 39) - (1 : Int32)).toNatClampNeg) ((s.2 42) (s.1 39).toNatClampNeg)).bind fun r1 => f151_159 s r1 ((s.1 39) - (1 : Int32))) else none else none else f151_159 s (0 : Int32) ((s.1 39) - (1 : Int32)))
theorem t151_117 {d n : Nat} {Z : Nat → ab_C} (hn : 42 ≤ n) : ∀ (s : mS) (l : ab_L) (x2 : Int32) (x3 : Int32) (h0 : ab_get l 0 = some (.ref 22)) (h2 : ab_get l 2 = some (.int x2)) (h3 : ab_get l 3 = some (.int x3)) (r : mS) (e : f151_117 s x2 x3 = some r), ab_Rn (d + 2) 151 117 l [] (ab_hl n (mm_F s Z)) (.inl none) (ab_hl n (mm_F r Z)) := by
  intro s l x2 x3 h0 h2 h3 r e
  unfold f151_117 at e
  refine r_aload_n (pc := 117) p151 k151_117 h0 ?_
  refine m_get hn (pc := 118) p151 k151_118 (v := .ref 36) rfl ?_
  refine r_aload_n (pc := 121) p151 k151_121 h0 ?_
  refine m_get hn (pc := 122) p151 k151_122 (v := .int (s.1 39)) rfl ?_
  refine r_iconst (pc := 125) p151 k151_125 (v := (1 : Int32)) rfl ?_
  refine r_isub (pc := 126) p151 k151_126 ?_
  refine r_iload_n (pc := 127) p151 k151_127 h3 ?_
  refine r_if_eq (pc := 128) p151 k151_128 (fun c => ?_) (fun c => ?_)
  · have e := (if_pos c).symm.trans e
    refine r_iload_n (pc := 135) p151 k151_135 h2 ?_
    refine r_aload_n (pc := 136) p151 k151_136 h0 ?_
    refine m_get hn (pc := 137) p151 k151_137 (v := .ref 36) rfl ?_
    refine r_aload_n (pc := 140) p151 k151_140 h0 ?_
    refine m_get hn (pc := 141) p151 k151_141 (v := .int (s.1 39)) rfl ?_
    refine r_iconst (pc := 144) p151 k151_144 (v := (1 : Int32)) rfl ?_
    refine r_isub (pc := 145) p151 k151_145 ?_
    obtain ⟨c, e⟩ := of_if e
    refine r_iald (pc := 146) p151 k151_146 (m_lt hn rfl) (f := (s.2 42)) rfl c ?_
    refine r_aload_n (pc := 147) p151 k151_147 h0 ?_
    refine m_get hn (pc := 148) p151 k151_148 (v := .ref 36) rfl ?_
    refine r_aload_n (pc := 151) p151 k151_151 h0 ?_
    refine m_get hn (pc := 152) p151 k151_152 (v := .int (s.1 39)) rfl ?_
    obtain ⟨c, e⟩ := of_if e
    refine r_iald (pc := 155) p151 k151_155 (m_lt hn rfl) (f := (s.2 42)) rfl c ?_
    obtain ⟨r1, er1, e⟩ := of_bind e
    refine r_csv (pc := 156) p151 k151_156 rfl rfl p152 (r := [.int ((s.1 39) - (1 : Int32)), .ref 36]) rfl rfl rfl rfl (t152 x2 ((s.2 42) ((s.1 39) - (1 : Int32)).toNatClampNeg) ((s.2 42) (s.1 39).toNatClampNeg) r1 er1) (w := [.int r1, .int ((s.1 39) - (1 : Int32)), .ref 36]) rfl ?_
    exact t151_159 hn s l r1 ((s.1 39) - (1 : Int32)) r e
  · have e := (if_neg c).symm.trans e
    refine r_iconst (pc := 131) p151 k151_131 (v := (0 : Int32)) rfl ?_
    refine r_goto (pc := 132) p151 k151_132 ?_
    exact t151_159 hn s l (0 : Int32) ((s.1 39) - (1 : Int32)) r e
def f151_105 (s : mS) (x2 : Int32) (x3 : Int32) (y0 : Int32) : Option mS := if ib (s.1 40) 160 then ((f131 s y0 ((s.2 44) (s.1 40).toNatClampNeg)).bind fun r1 => f151_117 r1 x2 x3) else none
theorem t151_105 {d n : Nat} {Z : Nat → ab_C} (hn : 42 ≤ n) : ∀ (s : mS) (l : ab_L) (x2 : Int32) (x3 : Int32) (y0 : Int32) (h0 : ab_get l 0 = some (.ref 22)) (h2 : ab_get l 2 = some (.int x2)) (h3 : ab_get l 3 = some (.int x3)) (r : mS) (e : f151_105 s x2 x3 y0 = some r), ab_Rn (d + 2) 151 105 l [.int y0, .ref 22] (ab_hl n (mm_F s Z)) (.inl none) (ab_hl n (mm_F r Z)) := by
  intro s l x2 x3 y0 h0 h2 h3 r e
  unfold f151_105 at e
  refine r_aload_n (pc := 105) p151 k151_105 h0 ?_
  refine m_get hn (pc := 106) p151 k151_106 (v := .ref 38) rfl ?_
  refine r_aload_n (pc := 109) p151 k151_109 h0 ?_
  refine m_get hn (pc := 110) p151 k151_110 (v := .int (s.1 40)) rfl ?_
  obtain ⟨c, e⟩ := of_if e
  refine r_iald (pc := 113) p151 k151_113 (m_lt hn rfl) (f := (s.2 44)) rfl c ?_
  obtain ⟨r1, er1, e⟩ := of_bind e
  refine m_cv hn (pc := 114) p151 k151_114 rfl p131 (r := []) rfl rfl rfl rfl rfl (t131 hn s y0 ((s.2 44) (s.1 40).toNatClampNeg) r1 er1) (w := []) rfl ?_
  exact t151_117 hn r1 l x2 x3 h0 h2 h3 r e
def f151_77 (s : mS) (x1 : Int32) (x2 : Int32) (x3 : Int32) (y0 : Int32) : Option mS := if bz y0 then (if x3 = 0 then f151_117 (mg s 38 y0) x2 x3 else (if x1 = (1 : Int32) then f151_117 (mg s 38 y0) x2 x3 else (if x1 = (3 : Int32) then f151_117 (mg s 38 y0) x2 x3 else (if x1 = 0 then f151_105 (mg s 38 y0) x2 x3 (5 : Int32) else f151_105 (mg s 38 y0) x2 x3 (9 : Int32))))) else none
theorem t151_77 {d n : Nat} {Z : Nat → ab_C} (hn : 42 ≤ n) : ∀ (s : mS) (l : ab_L) (x1 : Int32) (x2 : Int32) (x3 : Int32) (y0 : Int32) (h0 : ab_get l 0 = some (.ref 22)) (h1 : ab_get l 1 = some (.int x1)) (h2 : ab_get l 2 = some (.int x2)) (h3 : ab_get l 3 = some (.int x3)) (r : mS) (e : f151_77 s x1 x2 x3 y0 = some r), ab_Rn (d + 2) 151 77 l [.int y0, .ref 22] (ab_hl n (mm_F s Z)) (.inl none) (ab_hl n (mm_F r Z)) := by
  intro s l x1 x2 x3 y0 h0 h1 h2 h3 r e
  unfold f151_77 at e
  obtain ⟨c, e⟩ := of_if e
  refine m_put hn (pc := 77) p151 k151_77 rfl rfl (bz_fit c) rfl ?_
  refine r_iload_n (pc := 80) p151 k151_80 h3 ?_
  refine r_if_eq (pc := 81) p151 k151_81 (fun c => ?_) (fun c => ?_)
  · have e := (if_pos c).symm.trans e
    exact t151_117 hn (mg s 38 y0) l x2 x3 h0 h2 h3 r e
  · have e := (if_neg c).symm.trans e
    refine r_iload_n (pc := 84) p151 k151_84 h1 ?_
    refine r_iconst (pc := 85) p151 k151_85 (v := (1 : Int32)) rfl ?_
    refine r_ic_eq (pc := 86) p151 k151_86 (fun c => ?_) (fun c => ?_)
    · have e := (if_pos c).symm.trans e
      exact t151_117 hn (mg s 38 y0) l x2 x3 h0 h2 h3 r e
    · have e := (if_neg c).symm.trans e
      refine r_iload_n (pc := 89) p151 k151_89 h1 ?_
      refine r_iconst (pc := 90) p151 k151_90 (v := (3 : Int32)) rfl ?_
      refine r_ic_eq (pc := 91) p151 k151_91 (fun c => ?_) (fun c => ?_)
      · have e := (if_pos c).symm.trans e
        exact t151_117 hn (mg s 38 y0) l x2 x3 h0 h2 h3 r e
      · have e := (if_neg c).symm.trans e
        refine r_aload_n (pc := 94) p151 k151_94 h0 ?_
        refine r_iload_n (pc := 95) p151 k151_95 h1 ?_
        refine r_if_ne (pc := 96) p151 k151_96 (fun c => ?_) (fun c => ?_)
        · have e := (if_neg c).symm.trans e
          refine r_bipush (pc := 103) p151 k151_103 (v := (9 : Int32)) rfl ?_
          exact t151_105 hn (mg s 38 y0) l x2 x3 (9 : Int32) h0 h2 h3 r e
        · have e := (if_pos c).symm.trans e
          refine r_iconst (pc := 99) p151 k151_99 (v := (5 : Int32)) rfl ?_
          refine r_goto (pc := 100) p151 k151_100 ?_
          exact t151_105 hn (mg s 38 y0) l x2 x3 (5 : Int32) h0 h2 h3 r e
def f151_72 (s : mS) (x1 : Int32) (x2 : Int32) (x3 : Int32) : Option mS := f151_77 s x1 x2 x3 (1 : Int32)
theorem t151_72 {d n : Nat} {Z : Nat → ab_C} (hn : 42 ≤ n) : ∀ (s : mS) (l : ab_L) (x1 : Int32) (x2 : Int32) (x3 : Int32) (h0 : ab_get l 0 = some (.ref 22)) (h1 : ab_get l 1 = some (.int x1)) (h2 : ab_get l 2 = some (.int x2)) (h3 : ab_get l 3 = some (.int x3)) (r : mS) (e : f151_72 s x1 x2 x3 = some r), ab_Rn (d + 2) 151 72 l [.ref 22] (ab_hl n (mm_F s Z)) (.inl none) (ab_hl n (mm_F r Z)) := by
  intro s l x1 x2 x3 h0 h1 h2 h3 r e
  unfold f151_72 at e
  refine r_iconst (pc := 72) p151 k151_72 (v := (1 : Int32)) rfl ?_
  refine r_goto (pc := 73) p151 k151_73 ?_
  exact t151_77 hn s l x1 x2 x3 (1 : Int32) h0 h1 h2 h3 r e
def f151_59 (s : mS) (x1 : Int32) (x2 : Int32) (y0 : Int32) : Option mS := (if (s.1 38) = 0 then (if y0 = 0 then f151_77 s x1 x2 y0 (0 : Int32) else f151_72 s x1 x2 y0) else f151_72 s x1 x2 y0)
theorem t151_59 {d n : Nat} {Z : Nat → ab_C} (hn : 42 ≤ n) : ∀ (s : mS) (l : ab_L) (x1 : Int32) (x2 : Int32) (y0 : Int32) (h0 : ab_get l 0 = some (.ref 22)) (h1 : ab_get l 1 = some (.int x1)) (h2 : ab_get l 2 = some (.int x2)) (r : mS) (e : f151_59 s x1 x2 y0 = some r), ab_Rn (d + 2) 151 59 l [.int y0] (ab_hl n (mm_F s Z)) (.inl none) (ab_hl n (mm_F r Z)) := by
  intro s l x1 x2 y0 h0 h1 h2 r e
  unfold f151_59 at e
  refine r_istore_n (pc := 59) p151 k151_59 (by decide) (fun l g h3 => ?_)
  have h0 := g 0 _ (by decide) h0 (Or.inl rfl)
  have h1 := g 1 _ (by decide) h1 (Or.inl rfl)
  have h2 := g 2 _ (by decide) h2 (Or.inl rfl)
  refine r_aload_n (pc := 60) p151 k151_60 h0 ?_
  refine r_aload_n (pc := 61) p151 k151_61 h0 ?_
  refine m_get hn (pc := 62) p151 k151_62 (v := .int (s.1 38)) rfl ?_
  refine r_if_ne (pc := 65) p151 k151_65 (fun c => ?_) (fun c => ?_)
  · have e := (if_neg c).symm.trans e
    exact t151_72 hn s l x1 x2 y0 h0 h1 h2 h3 r e
  · have e := (if_pos c).symm.trans e
    refine r_iload_n (pc := 68) p151 k151_68 h3 ?_
    refine r_if_eq (pc := 69) p151 k151_69 (fun c => ?_) (fun c => ?_)
    · have e := (if_pos c).symm.trans e
      refine r_iconst (pc := 76) p151 k151_76 (v := (0 : Int32)) rfl ?_
      exact t151_77 hn s l x1 x2 y0 (0 : Int32) h0 h1 h2 h3 r e
    · have e := (if_neg c).symm.trans e
      exact t151_72 hn s l x1 x2 y0 h0 h1 h2 h3 r e
def f151_58 (s : mS) (x1 : Int32) (x2 : Int32) : Option mS := f151_59 s x1 x2 (0 : Int32)
theorem t151_58 {d n : Nat} {Z : Nat → ab_C} (hn : 42 ≤ n) : ∀ (s : mS) (l : ab_L) (x1 : Int32) (x2 : Int32) (h0 : ab_get l 0 = some (.ref 22)) (h1 : ab_get l 1 = some (.int x1)) (h2 : ab_get l 2 = some (.int x2)) (r : mS) (e : f151_58 s x1 x2 = some r), ab_Rn (d + 2) 151 58 l [] (ab_hl n (mm_F s Z)) (.inl none) (ab_hl n (mm_F r Z)) := by
  intro s l x1 x2 h0 h1 h2 r e
  unfold f151_58 at e
  refine r_iconst (pc := 58) p151 k151_58 (v := (0 : Int32)) rfl ?_
  exact t151_59 hn s l x1 x2 (0 : Int32) h0 h1 h2 r e
def f151_42 (s : mS) (x1 : Int32) (x2 : Int32) : Option mS := if ib (s.1 39) 160 then (if ((s.2 42) (s.1 39).toNatClampNeg) = 0 then f151_59 s x1 x2 (1 : Int32) else f151_58 s x1 x2) else none
theorem t151_42 {d n : Nat} {Z : Nat → ab_C} (hn : 42 ≤ n) : ∀ (s : mS) (l : ab_L) (x1 : Int32) (x2 : Int32) (h0 : ab_get l 0 = some (.ref 22)) (h1 : ab_get l 1 = some (.int x1)) (h2 : ab_get l 2 = some (.int x2)) (r : mS) (e : f151_42 s x1 x2 = some r), ab_Rn (d + 2) 151 42 l [] (ab_hl n (mm_F s Z)) (.inl none) (ab_hl n (mm_F r Z)) := by
  intro s l x1 x2 h0 h1 h2 r e
  unfold f151_42 at e
  refine r_aload_n (pc := 42) p151 k151_42 h0 ?_
  refine m_get hn (pc := 43) p151 k151_43 (v := .ref 36) rfl ?_
  refine r_aload_n (pc := 46) p151 k151_46 h0 ?_
  refine m_get hn (pc := 47) p151 k151_47 (v := .int (s.1 39)) rfl ?_
  obtain ⟨c, e⟩ := of_if e
  refine r_iald (pc := 50) p151 k151_50 (m_lt hn rfl) (f := (s.2 42)) rfl c ?_
  refine r_if_ne (pc := 51) p151 k151_51 (fun c => ?_) (fun c => ?_)
  · have e := (if_neg c).symm.trans e
    exact t151_58 hn s l x1 x2 h0 h1 h2 r e
  · have e := (if_pos c).symm.trans e
    refine r_iconst (pc := 54) p151 k151_54 (v := (1 : Int32)) rfl ?_
    refine r_goto (pc := 55) p151 k151_55 ?_
    exact t151_59 hn s l x1 x2 (1 : Int32) h0 h1 h2 r e
def f151 (s : mS) (x1 : Int32) : Option mS := if ib ((s.1 40) - (1 : Int32)) 160 then (if ((s.2 43) ((s.1 40) - (1 : Int32)).toNatClampNeg) = (47 : Int32) then f151_42 (mg (mg s 40 ((s.1 40) - (1 : Int32))) 39 ((s.1 39) - (1 : Int32))) x1 ((s.2 43) ((s.1 40) - (1 : Int32)).toNatClampNeg) else (if ((s.2 43) ((s.1 40) - (1 : Int32)).toNatClampNeg) = (37 : Int32) then f151_42 (mg (mg s 40 ((s.1 40) - (1 : Int32))) 39 ((s.1 39) - (1 : Int32))) x1 ((s.2 43) ((s.1 40) - (1 : Int32)).toNatClampNeg) else f151_58 (mg (mg s 40 ((s.1 40) - (1 : Int32))) 39 ((s.1 39) - (1 : Int32))) x1 ((s.2 43) ((s.1 40) - (1 : Int32)).toNatClampNeg))) else none
theorem t151 {d n : Nat} {Z : Nat → ab_C} (hn : 42 ≤ n) (s : mS) (x1 : Int32) (r : mS) (e : f151 s x1 = some r) : ab_Rn (d + 2) 151 0 (lv_args 0 [.ref 22, .int x1]) [] (ab_hl n (mm_F s Z)) (.inl none) (ab_hl n (mm_F r Z)) := by
  unfold f151 at e
  obtain ⟨l, hl⟩ : ∃ l, l = (lv_args 0 [.ref 22, .int x1]) := ⟨_, rfl⟩
  rw [← hl]
  have h0 : ab_get l 0 = some (.ref 22) := by rw [hl]; rfl
  have h1 : ab_get l 1 = some (.int x1) := by rw [hl]; rfl
  refine r_aload_n (pc := 0) p151 k151_0 h0 ?_
  refine r_dup (pc := 1) p151 k151_1 rfl ?_
  refine m_get hn (pc := 2) p151 k151_2 (v := .int (s.1 40)) rfl ?_
  refine r_iconst (pc := 5) p151 k151_5 (v := (1 : Int32)) rfl ?_
  refine r_isub (pc := 6) p151 k151_6 ?_
  refine m_put hn (pc := 7) p151 k151_7 rfl rfl rfl rfl ?_
  refine r_aload_n (pc := 10) p151 k151_10 h0 ?_
  refine r_dup (pc := 11) p151 k151_11 rfl ?_
  refine m_get hn (pc := 12) p151 k151_12 (v := .int (s.1 39)) rfl ?_
  refine r_iconst (pc := 15) p151 k151_15 (v := (1 : Int32)) rfl ?_
  refine r_isub (pc := 16) p151 k151_16 ?_
  refine m_put hn (pc := 17) p151 k151_17 rfl rfl rfl rfl ?_
  refine r_aload_n (pc := 20) p151 k151_20 h0 ?_
  refine m_get hn (pc := 21) p151 k151_21 (v := .ref 37) rfl ?_
  refine r_aload_n (pc := 24) p151 k151_24 h0 ?_
  refine m_get hn (pc := 25) p151 k151_25 (v := .int ((s.1 40) - (1 : Int32))) rfl ?_
  obtain ⟨c, e⟩ := of_if e
  refine r_iald (pc := 28) p151 k151_28 (m_lt hn rfl) (f := (s.2 43)) rfl c ?_
  refine r_istore_n (pc := 29) p151 k151_29 (by decide) (fun l g h2 => ?_)
  have h0 := g 0 _ (by decide) h0 (Or.inl rfl)
  have h1 := g 1 _ (by decide) h1 (Or.inl rfl)
  refine r_iload_n (pc := 30) p151 k151_30 h2 ?_
  refine r_bipush (pc := 31) p151 k151_31 (v := (47 : Int32)) rfl ?_
  refine r_ic_eq (pc := 33) p151 k151_33 (fun c => ?_) (fun c => ?_)
  · have e := (if_pos c).symm.trans e
    exact t151_42 hn (mg (mg s 40 ((s.1 40) - (1 : Int32))) 39 ((s.1 39) - (1 : Int32))) l x1 ((s.2 43) ((s.1 40) - (1 : Int32)).toNatClampNeg) h0 h1 h2 r e
  · have e := (if_neg c).symm.trans e
    refine r_iload_n (pc := 36) p151 k151_36 h2 ?_
    refine r_bipush (pc := 37) p151 k151_37 (v := (37 : Int32)) rfl ?_
    refine r_ic_ne (pc := 39) p151 k151_39 (fun c => ?_) (fun c => ?_)
    · have e := (if_neg c).symm.trans e
      exact t151_58 hn (mg (mg s 40 ((s.1 40) - (1 : Int32))) 39 ((s.1 39) - (1 : Int32))) l x1 ((s.2 43) ((s.1 40) - (1 : Int32)).toNatClampNeg) h0 h1 h2 r e
    · have e := (if_pos c).symm.trans e
      exact t151_42 hn (mg (mg s 40 ((s.1 40) - (1 : Int32))) 39 ((s.1 39) - (1 : Int32))) l x1 ((s.2 43) ((s.1 40) - (1 : Int32)).toNatClampNeg) h0 h1 h2 r e

theorem p149 : ab_prog[149]? = some (ab_m149, ab_c149) := rfl
theorem k149_0 : ab_fetch ab_c149 0 = some (.aload_n 0, 1, 0, 0) := rfl
theorem k149_1 : ab_fetch ab_c149 1 = some (.getfield 421, 3, 6, 40) := rfl
theorem k149_4 : ab_fetch ab_c149 4 = some (.ifCond .le 70, 3, 74, 0) := rfl
theorem k149_7 : ab_fetch ab_c149 7 = some (.aload_n 0, 1, 0, 0) := rfl
theorem k149_8 : ab_fetch ab_c149 8 = some (.getfield 288, 3, 6, 43) := rfl
theorem k149_11 : ab_fetch ab_c149 11 = some (.aload_n 0, 1, 0, 0) := rfl
theorem k149_12 : ab_fetch ab_c149 12 = some (.getfield 421, 3, 6, 40) := rfl
theorem k149_15 : ab_fetch ab_c149 15 = some (.iconst 1, 1, 0, 0) := rfl
theorem k149_16 : ab_fetch ab_c149 16 = some (.isub, 1, 0, 0) := rfl
theorem k149_17 : ab_fetch ab_c149 17 = some (.iaload, 1, 0, 0) := rfl
theorem k149_18 : ab_fetch ab_c149 18 = some (.iconst 4, 1, 0, 0) := rfl
theorem k149_19 : ab_fetch ab_c149 19 = some (.if_icmp .ne 55, 3, 74, 0) := rfl
theorem k149_22 : ab_fetch ab_c149 22 = some (.aload_n 0, 1, 0, 0) := rfl
theorem k149_23 : ab_fetch ab_c149 23 = some (.dup, 1, 0, 0) := rfl
theorem k149_24 : ab_fetch ab_c149 24 = some (.getfield 421, 3, 6, 40) := rfl
theorem k149_27 : ab_fetch ab_c149 27 = some (.iconst 1, 1, 0, 0) := rfl
theorem k149_28 : ab_fetch ab_c149 28 = some (.isub, 1, 0, 0) := rfl
theorem k149_29 : ab_fetch ab_c149 29 = some (.putfield 421, 3, 6, 40) := rfl
theorem k149_32 : ab_fetch ab_c149 32 = some (.aload_n 0, 1, 0, 0) := rfl
theorem k149_33 : ab_fetch ab_c149 33 = some (.getfield 285, 3, 6, 42) := rfl
theorem k149_36 : ab_fetch ab_c149 36 = some (.aload_n 0, 1, 0, 0) := rfl
theorem k149_37 : ab_fetch ab_c149 37 = some (.getfield 430, 3, 6, 39) := rfl
theorem k149_40 : ab_fetch ab_c149 40 = some (.iconst 1, 1, 0, 0) := rfl
theorem k149_41 : ab_fetch ab_c149 41 = some (.isub, 1, 0, 0) := rfl
theorem k149_42 : ab_fetch ab_c149 42 = some (.aload_n 0, 1, 0, 0) := rfl
theorem k149_43 : ab_fetch ab_c149 43 = some (.getfield 294, 3, 6, 45) := rfl
theorem k149_46 : ab_fetch ab_c149 46 = some (.aload_n 0, 1, 0, 0) := rfl
theorem k149_47 : ab_fetch ab_c149 47 = some (.getfield 421, 3, 6, 40) := rfl
theorem k149_50 : ab_fetch ab_c149 50 = some (.iaload, 1, 0, 0) := rfl
theorem k149_51 : ab_fetch ab_c149 51 = some (.aload_n 0, 1, 0, 0) := rfl
theorem k149_52 : ab_fetch ab_c149 52 = some (.getfield 285, 3, 6, 42) := rfl
theorem k149_55 : ab_fetch ab_c149 55 = some (.aload_n 0, 1, 0, 0) := rfl
theorem k149_56 : ab_fetch ab_c149 56 = some (.getfield 430, 3, 6, 39) := rfl
theorem k149_59 : ab_fetch ab_c149 59 = some (.iconst 1, 1, 0, 0) := rfl
theorem k149_60 : ab_fetch ab_c149 60 = some (.isub, 1, 0, 0) := rfl
theorem k149_61 : ab_fetch ab_c149 61 = some (.iaload, 1, 0, 0) := rfl
theorem k149_62 : ab_fetch ab_c149 62 = some (.imul, 1, 0, 0) := rfl
theorem k149_63 : ab_fetch ab_c149 63 = some (.aload_n 0, 1, 0, 0) := rfl
theorem k149_64 : ab_fetch ab_c149 64 = some (.getfield 297, 3, 6, 46) := rfl
theorem k149_67 : ab_fetch ab_c149 67 = some (.aload_n 0, 1, 0, 0) := rfl
theorem k149_68 : ab_fetch ab_c149 68 = some (.getfield 421, 3, 6, 40) := rfl
theorem k149_71 : ab_fetch ab_c149 71 = some (.iaload, 1, 0, 0) := rfl
theorem k149_72 : ab_fetch ab_c149 72 = some (.iadd, 1, 0, 0) := rfl
theorem k149_73 : ab_fetch ab_c149 73 = some (.iastore, 1, 0, 0) := rfl
theorem k149_74 : ab_fetch ab_c149 74 = some (.aload_n 0, 1, 0, 0) := rfl
theorem k149_75 : ab_fetch ab_c149 75 = some (.getfield 421, 3, 6, 40) := rfl
theorem k149_78 : ab_fetch ab_c149 78 = some (.ifCond .le 27, 3, 105, 0) := rfl
theorem k149_81 : ab_fetch ab_c149 81 = some (.aload_n 0, 1, 0, 0) := rfl
theorem k149_82 : ab_fetch ab_c149 82 = some (.getfield 288, 3, 6, 43) := rfl
theorem k149_85 : ab_fetch ab_c149 85 = some (.aload_n 0, 1, 0, 0) := rfl
theorem k149_86 : ab_fetch ab_c149 86 = some (.getfield 421, 3, 6, 40) := rfl
theorem k149_89 : ab_fetch ab_c149 89 = some (.iconst 1, 1, 0, 0) := rfl
theorem k149_90 : ab_fetch ab_c149 90 = some (.isub, 1, 0, 0) := rfl
theorem k149_91 : ab_fetch ab_c149 91 = some (.iaload, 1, 0, 0) := rfl
theorem k149_92 : ab_fetch ab_c149 92 = some (.invokestatic 424, 3, 150, 1) := rfl
theorem k149_95 : ab_fetch ab_c149 95 = some (.bipush 6, 2, 0, 0) := rfl
theorem k149_97 : ab_fetch ab_c149 97 = some (.if_icmp .ne 8, 3, 105, 0) := rfl
theorem k149_100 : ab_fetch ab_c149 100 = some (.aload_n 0, 1, 0, 0) := rfl
theorem k149_101 : ab_fetch ab_c149 101 = some (.iload_n 1, 1, 0, 0) := rfl
theorem k149_102 : ab_fetch ab_c149 102 = some (.invokevirtual 437, 3, 151, 1) := rfl
theorem k149_105 : ab_fetch ab_c149 105 = some (.return_, 1, 0, 0) := rfl
/- CodeSmithModel operand(I)V -/
def f149_74 (s : mS) (x1 : Int32) : Option mS := (if (s.1 40) ≤ 0 then some s else if ib ((s.1 40) - (1 : Int32)) 160 then (if (f150 ((s.2 43) ((s.1 40) - (1 : Int32)).toNatClampNeg)) = (6 : Int32) then ((f151 s x1).bind fun r1 => some r1) else some s) else none)
theorem t149_74 {d n : Nat} {Z : Nat → ab_C} (hn : 42 ≤ n) : ∀ (s : mS) (l : ab_L) (x1 : Int32) (h0 : ab_get l 0 = some (.ref 22)) (h1 : ab_get l 1 = some (.int x1)) (r : mS) (e : f149_74 s x1 = some r), ab_Rn (d + 3) 149 74 l [] (ab_hl n (mm_F s Z)) (.inl none) (ab_hl n (mm_F r Z)) := by
  intro s l x1 h0 h1 r e
  unfold f149_74 at e
  refine r_aload_n (pc := 74) p149 k149_74 h0 ?_
  refine m_get hn (pc := 75) p149 k149_75 (v := .int (s.1 40)) rfl ?_
  refine r_if_le (pc := 78) p149 k149_78 (fun c => ?_) (fun c => ?_)
  · have e := (if_pos c).symm.trans e
    cases e
    exact r_retV (pc := 105) p149 k149_105 rfl
  · have e := (if_neg c).symm.trans e
    refine r_aload_n (pc := 81) p149 k149_81 h0 ?_
    refine m_get hn (pc := 82) p149 k149_82 (v := .ref 37) rfl ?_
    refine r_aload_n (pc := 85) p149 k149_85 h0 ?_
    refine m_get hn (pc := 86) p149 k149_86 (v := .int (s.1 40)) rfl ?_
    refine r_iconst (pc := 89) p149 k149_89 (v := (1 : Int32)) rfl ?_
    refine r_isub (pc := 90) p149 k149_90 ?_
    obtain ⟨c, e⟩ := of_if e
    refine r_iald (pc := 91) p149 k149_91 (m_lt hn rfl) (f := (s.2 43)) rfl c ?_
    refine r_csv (pc := 92) p149 k149_92 rfl rfl p150 (r := []) rfl rfl rfl rfl (t150 ((s.2 43) ((s.1 40) - (1 : Int32)).toNatClampNeg) _ rfl) (w := [.int (f150 ((s.2 43) ((s.1 40) - (1 : Int32)).toNatClampNeg))]) rfl ?_
    refine r_bipush (pc := 95) p149 k149_95 (v := (6 : Int32)) rfl ?_
    refine r_ic_ne (pc := 97) p149 k149_97 (fun c => ?_) (fun c => ?_)
    · have e := (if_neg c).symm.trans e
      cases e
      exact r_retV (pc := 105) p149 k149_105 rfl
    · have e := (if_pos c).symm.trans e
      refine r_aload_n (pc := 100) p149 k149_100 h0 ?_
      refine r_iload_n (pc := 101) p149 k149_101 h1 ?_
      obtain ⟨r1, er1, e⟩ := of_bind e
      refine m_cv hn (pc := 102) p149 k149_102 rfl p151 (r := []) rfl rfl rfl rfl rfl (t151 hn s x1 r1 er1) (w := []) rfl ?_
      cases e
      exact r_retV (pc := 105) p149 k149_105 rfl
def f149 (s : mS) (x1 : Int32) : Option mS := (if (s.1 40) ≤ 0 then f149_74 s x1 else if ib ((s.1 40) - (1 : Int32)) 160 then (if ((s.2 43) ((s.1 40) - (1 : Int32)).toNatClampNeg) = (4 : Int32) then if ib ((s.1 40) - (1 : Int32)) 160 then if ib ((s.1 39) - (1 : Int32)) 160 then if ib ((s.1 40) - (1 : Int32)) 160 then if ib ((s.1 39) - (1 : Int32)) 160 then f149_74 (mb (mg s 40 ((s.1 40) - (1 : Int32))) 42 ((s.1 39) - (1 : Int32)) ((((s.2 45) ((s.1 40) - (1 : Int32)).toNatClampNeg) * ((s.2 42) ((s.1 39) - (1 : Int32)).toNatClampNeg)) + ((s.2 46) ((s.1 40) - (1 : Int32)).toNatClampNeg))) x1 else none else none else none else none else f149_74 s x1) else none)
theorem t149 {d n : Nat} {Z : Nat → ab_C} (hn : 42 ≤ n) (s : mS) (x1 : Int32) (r : mS) (e : f149 s x1 = some r) : ab_Rn (d + 3) 149 0 (lv_args 0 [.ref 22, .int x1]) [] (ab_hl n (mm_F s Z)) (.inl none) (ab_hl n (mm_F r Z)) := by
  unfold f149 at e
  obtain ⟨l, hl⟩ : ∃ l, l = (lv_args 0 [.ref 22, .int x1]) := ⟨_, rfl⟩
  rw [← hl]
  have h0 : ab_get l 0 = some (.ref 22) := by rw [hl]; rfl
  have h1 : ab_get l 1 = some (.int x1) := by rw [hl]; rfl
  refine r_aload_n (pc := 0) p149 k149_0 h0 ?_
  refine m_get hn (pc := 1) p149 k149_1 (v := .int (s.1 40)) rfl ?_
  refine r_if_le (pc := 4) p149 k149_4 (fun c => ?_) (fun c => ?_)
  · have e := (if_pos c).symm.trans e
    exact t149_74 hn s l x1 h0 h1 r e
  · have e := (if_neg c).symm.trans e
    refine r_aload_n (pc := 7) p149 k149_7 h0 ?_
    refine m_get hn (pc := 8) p149 k149_8 (v := .ref 37) rfl ?_
    refine r_aload_n (pc := 11) p149 k149_11 h0 ?_
    refine m_get hn (pc := 12) p149 k149_12 (v := .int (s.1 40)) rfl ?_
    refine r_iconst (pc := 15) p149 k149_15 (v := (1 : Int32)) rfl ?_
    refine r_isub (pc := 16) p149 k149_16 ?_
    obtain ⟨c, e⟩ := of_if e
    refine r_iald (pc := 17) p149 k149_17 (m_lt hn rfl) (f := (s.2 43)) rfl c ?_
    refine r_iconst (pc := 18) p149 k149_18 (v := (4 : Int32)) rfl ?_
    refine r_ic_ne (pc := 19) p149 k149_19 (fun c => ?_) (fun c => ?_)
    · have e := (if_neg c).symm.trans e
      exact t149_74 hn s l x1 h0 h1 r e
    · have e := (if_pos c).symm.trans e
      refine r_aload_n (pc := 22) p149 k149_22 h0 ?_
      refine r_dup (pc := 23) p149 k149_23 rfl ?_
      refine m_get hn (pc := 24) p149 k149_24 (v := .int (s.1 40)) rfl ?_
      refine r_iconst (pc := 27) p149 k149_27 (v := (1 : Int32)) rfl ?_
      refine r_isub (pc := 28) p149 k149_28 ?_
      refine m_put hn (pc := 29) p149 k149_29 rfl rfl rfl rfl ?_
      refine r_aload_n (pc := 32) p149 k149_32 h0 ?_
      refine m_get hn (pc := 33) p149 k149_33 (v := .ref 36) rfl ?_
      refine r_aload_n (pc := 36) p149 k149_36 h0 ?_
      refine m_get hn (pc := 37) p149 k149_37 (v := .int (s.1 39)) rfl ?_
      refine r_iconst (pc := 40) p149 k149_40 (v := (1 : Int32)) rfl ?_
      refine r_isub (pc := 41) p149 k149_41 ?_
      refine r_aload_n (pc := 42) p149 k149_42 h0 ?_
      refine m_get hn (pc := 43) p149 k149_43 (v := .ref 39) rfl ?_
      refine r_aload_n (pc := 46) p149 k149_46 h0 ?_
      refine m_get hn (pc := 47) p149 k149_47 (v := .int ((s.1 40) - (1 : Int32))) rfl ?_
      obtain ⟨c, e⟩ := of_if e
      refine r_iald (pc := 50) p149 k149_50 (m_lt hn rfl) (f := (s.2 45)) rfl c ?_
      refine r_aload_n (pc := 51) p149 k149_51 h0 ?_
      refine m_get hn (pc := 52) p149 k149_52 (v := .ref 36) rfl ?_
      refine r_aload_n (pc := 55) p149 k149_55 h0 ?_
      refine m_get hn (pc := 56) p149 k149_56 (v := .int (s.1 39)) rfl ?_
      refine r_iconst (pc := 59) p149 k149_59 (v := (1 : Int32)) rfl ?_
      refine r_isub (pc := 60) p149 k149_60 ?_
      obtain ⟨c, e⟩ := of_if e
      refine r_iald (pc := 61) p149 k149_61 (m_lt hn rfl) (f := (s.2 42)) rfl c ?_
      refine r_imul (pc := 62) p149 k149_62 ?_
      refine r_aload_n (pc := 63) p149 k149_63 h0 ?_
      refine m_get hn (pc := 64) p149 k149_64 (v := .ref 40) rfl ?_
      refine r_aload_n (pc := 67) p149 k149_67 h0 ?_
      refine m_get hn (pc := 68) p149 k149_68 (v := .int ((s.1 40) - (1 : Int32))) rfl ?_
      obtain ⟨c, e⟩ := of_if e
      refine r_iald (pc := 71) p149 k149_71 (m_lt hn rfl) (f := (s.2 46)) rfl c ?_
      refine r_iadd (pc := 72) p149 k149_72 ?_
      obtain ⟨c, e⟩ := of_if e
      refine m_ast hn rfl (pc := 73) p149 k149_73 (k := 42) rfl (mm_arr42 _ Z) c ?_
      exact t149_74 hn (mb (mg s 40 ((s.1 40) - (1 : Int32))) 42 ((s.1 39) - (1 : Int32)) ((((s.2 45) ((s.1 40) - (1 : Int32)).toNatClampNeg) * ((s.2 42) ((s.1 39) - (1 : Int32)).toNatClampNeg)) + ((s.2 46) ((s.1 40) - (1 : Int32)).toNatClampNeg))) l x1 h0 h1 r e

theorem p154 : ab_prog[154]? = some (ab_m154, ab_c154) := rfl
theorem k154_0 : ab_fetch ab_c154 0 = some (.aload_n 0, 1, 0, 0) := rfl
theorem k154_1 : ab_fetch ab_c154 1 = some (.getfield 288, 3, 6, 43) := rfl
theorem k154_4 : ab_fetch ab_c154 4 = some (.aload_n 0, 1, 0, 0) := rfl
theorem k154_5 : ab_fetch ab_c154 5 = some (.getfield 421, 3, 6, 40) := rfl
theorem k154_8 : ab_fetch ab_c154 8 = some (.iload_n 1, 1, 0, 0) := rfl
theorem k154_9 : ab_fetch ab_c154 9 = some (.iastore, 1, 0, 0) := rfl
theorem k154_10 : ab_fetch ab_c154 10 = some (.aload_n 0, 1, 0, 0) := rfl
theorem k154_11 : ab_fetch ab_c154 11 = some (.getfield 291, 3, 6, 44) := rfl
theorem k154_14 : ab_fetch ab_c154 14 = some (.aload_n 0, 1, 0, 0) := rfl
theorem k154_15 : ab_fetch ab_c154 15 = some (.getfield 421, 3, 6, 40) := rfl
theorem k154_18 : ab_fetch ab_c154 18 = some (.iload_n 2, 1, 0, 0) := rfl
theorem k154_19 : ab_fetch ab_c154 19 = some (.iastore, 1, 0, 0) := rfl
theorem k154_20 : ab_fetch ab_c154 20 = some (.aload_n 0, 1, 0, 0) := rfl
theorem k154_21 : ab_fetch ab_c154 21 = some (.getfield 294, 3, 6, 45) := rfl
theorem k154_24 : ab_fetch ab_c154 24 = some (.aload_n 0, 1, 0, 0) := rfl
theorem k154_25 : ab_fetch ab_c154 25 = some (.getfield 421, 3, 6, 40) := rfl
theorem k154_28 : ab_fetch ab_c154 28 = some (.iconst 1, 1, 0, 0) := rfl
theorem k154_29 : ab_fetch ab_c154 29 = some (.iastore, 1, 0, 0) := rfl
theorem k154_30 : ab_fetch ab_c154 30 = some (.aload_n 0, 1, 0, 0) := rfl
theorem k154_31 : ab_fetch ab_c154 31 = some (.getfield 297, 3, 6, 46) := rfl
theorem k154_34 : ab_fetch ab_c154 34 = some (.aload_n 0, 1, 0, 0) := rfl
theorem k154_35 : ab_fetch ab_c154 35 = some (.getfield 421, 3, 6, 40) := rfl
theorem k154_38 : ab_fetch ab_c154 38 = some (.iconst 0, 1, 0, 0) := rfl
theorem k154_39 : ab_fetch ab_c154 39 = some (.iastore, 1, 0, 0) := rfl
theorem k154_40 : ab_fetch ab_c154 40 = some (.aload_n 0, 1, 0, 0) := rfl
theorem k154_41 : ab_fetch ab_c154 41 = some (.dup, 1, 0, 0) := rfl
theorem k154_42 : ab_fetch ab_c154 42 = some (.getfield 421, 3, 6, 40) := rfl
theorem k154_45 : ab_fetch ab_c154 45 = some (.iconst 1, 1, 0, 0) := rfl
theorem k154_46 : ab_fetch ab_c154 46 = some (.iadd, 1, 0, 0) := rfl
theorem k154_47 : ab_fetch ab_c154 47 = some (.putfield 421, 3, 6, 40) := rfl
theorem k154_50 : ab_fetch ab_c154 50 = some (.return_, 1, 0, 0) := rfl
/- CodeSmithModel push(II)V -/
def f154 (s : mS) (x1 : Int32) (x2 : Int32) : Option mS := if ib (s.1 40) 160 then if ib (s.1 40) 160 then if ib (s.1 40) 160 then if ib (s.1 40) 160 then some (mg (mb (mb (mb (mb s 43 (s.1 40) x1) 44 (s.1 40) x2) 45 (s.1 40) (1 : Int32)) 46 (s.1 40) (0 : Int32)) 40 ((s.1 40) + (1 : Int32))) else none else none else none else none
theorem t154 {d n : Nat} {Z : Nat → ab_C} (hn : 42 ≤ n) (s : mS) (x1 : Int32) (x2 : Int32) (r : mS) (e : f154 s x1 x2 = some r) : ab_Rn d 154 0 (lv_args 0 [.ref 22, .int x1, .int x2]) [] (ab_hl n (mm_F s Z)) (.inl none) (ab_hl n (mm_F r Z)) := by
  unfold f154 at e
  obtain ⟨l, hl⟩ : ∃ l, l = (lv_args 0 [.ref 22, .int x1, .int x2]) := ⟨_, rfl⟩
  rw [← hl]
  have h0 : ab_get l 0 = some (.ref 22) := by rw [hl]; rfl
  have h1 : ab_get l 1 = some (.int x1) := by rw [hl]; rfl
  have h2 : ab_get l 2 = some (.int x2) := by rw [hl]; rfl
  refine r_aload_n (pc := 0) p154 k154_0 h0 ?_
  refine m_get hn (pc := 1) p154 k154_1 (v := .ref 37) rfl ?_
  refine r_aload_n (pc := 4) p154 k154_4 h0 ?_
  refine m_get hn (pc := 5) p154 k154_5 (v := .int (s.1 40)) rfl ?_
  refine r_iload_n (pc := 8) p154 k154_8 h1 ?_
  obtain ⟨c, e⟩ := of_if e
  refine m_ast hn rfl (pc := 9) p154 k154_9 (k := 43) rfl (mm_arr43 _ Z) c ?_
  refine r_aload_n (pc := 10) p154 k154_10 h0 ?_
  refine m_get hn (pc := 11) p154 k154_11 (v := .ref 38) rfl ?_
  refine r_aload_n (pc := 14) p154 k154_14 h0 ?_
  refine m_get hn (pc := 15) p154 k154_15 (v := .int (s.1 40)) rfl ?_
  refine r_iload_n (pc := 18) p154 k154_18 h2 ?_
  obtain ⟨c, e⟩ := of_if e
  refine m_ast hn rfl (pc := 19) p154 k154_19 (k := 44) rfl (mm_arr44 _ Z) c ?_
  refine r_aload_n (pc := 20) p154 k154_20 h0 ?_
  refine m_get hn (pc := 21) p154 k154_21 (v := .ref 39) rfl ?_
  refine r_aload_n (pc := 24) p154 k154_24 h0 ?_
  refine m_get hn (pc := 25) p154 k154_25 (v := .int (s.1 40)) rfl ?_
  refine r_iconst (pc := 28) p154 k154_28 (v := (1 : Int32)) rfl ?_
  obtain ⟨c, e⟩ := of_if e
  refine m_ast hn rfl (pc := 29) p154 k154_29 (k := 45) rfl (mm_arr45 _ Z) c ?_
  refine r_aload_n (pc := 30) p154 k154_30 h0 ?_
  refine m_get hn (pc := 31) p154 k154_31 (v := .ref 40) rfl ?_
  refine r_aload_n (pc := 34) p154 k154_34 h0 ?_
  refine m_get hn (pc := 35) p154 k154_35 (v := .int (s.1 40)) rfl ?_
  refine r_iconst (pc := 38) p154 k154_38 (v := (0 : Int32)) rfl ?_
  obtain ⟨c, e⟩ := of_if e
  refine m_ast hn rfl (pc := 39) p154 k154_39 (k := 46) rfl (mm_arr46 _ Z) c ?_
  refine r_aload_n (pc := 40) p154 k154_40 h0 ?_
  refine r_dup (pc := 41) p154 k154_41 rfl ?_
  refine m_get hn (pc := 42) p154 k154_42 (v := .int (s.1 40)) rfl ?_
  refine r_iconst (pc := 45) p154 k154_45 (v := (1 : Int32)) rfl ?_
  refine r_iadd (pc := 46) p154 k154_46 ?_
  refine m_put hn (pc := 47) p154 k154_47 rfl rfl rfl rfl ?_
  cases e
  exact r_retV (pc := 50) p154 k154_50 rfl

theorem p153 : ab_prog[153]? = some (ab_m153, ab_c153) := rfl
theorem k153_0 : ab_fetch ab_c153 0 = some (.aload_n 0, 1, 0, 0) := rfl
theorem k153_1 : ab_fetch ab_c153 1 = some (.getfield 421, 3, 6, 40) := rfl
theorem k153_4 : ab_fetch ab_c153 4 = some (.ifCond .eq 18, 3, 22, 0) := rfl
theorem k153_7 : ab_fetch ab_c153 7 = some (.aload_n 0, 1, 0, 0) := rfl
theorem k153_8 : ab_fetch ab_c153 8 = some (.getfield 288, 3, 6, 43) := rfl
theorem k153_11 : ab_fetch ab_c153 11 = some (.aload_n 0, 1, 0, 0) := rfl
theorem k153_12 : ab_fetch ab_c153 12 = some (.getfield 421, 3, 6, 40) := rfl
theorem k153_15 : ab_fetch ab_c153 15 = some (.iconst 1, 1, 0, 0) := rfl
theorem k153_16 : ab_fetch ab_c153 16 = some (.isub, 1, 0, 0) := rfl
theorem k153_17 : ab_fetch ab_c153 17 = some (.iaload, 1, 0, 0) := rfl
theorem k153_18 : ab_fetch ab_c153 18 = some (.iconst 4, 1, 0, 0) := rfl
theorem k153_19 : ab_fetch ab_c153 19 = some (.if_icmp .eq 12, 3, 31, 0) := rfl
theorem k153_22 : ab_fetch ab_c153 22 = some (.aload_n 0, 1, 0, 0) := rfl
theorem k153_23 : ab_fetch ab_c153 23 = some (.iconst 4, 1, 0, 0) := rfl
theorem k153_24 : ab_fetch ab_c153 24 = some (.aload_n 0, 1, 0, 0) := rfl
theorem k153_25 : ab_fetch ab_c153 25 = some (.getfield 349, 3, 6, 21) := rfl
theorem k153_28 : ab_fetch ab_c153 28 = some (.invokevirtual 440, 3, 154, 2) := rfl
theorem k153_31 : ab_fetch ab_c153 31 = some (.aload_n 0, 1, 0, 0) := rfl
theorem k153_32 : ab_fetch ab_c153 32 = some (.getfield 421, 3, 6, 40) := rfl
theorem k153_35 : ab_fetch ab_c153 35 = some (.iconst 1, 1, 0, 0) := rfl
theorem k153_36 : ab_fetch ab_c153 36 = some (.isub, 1, 0, 0) := rfl
theorem k153_37 : ab_fetch ab_c153 37 = some (.istore_n 2, 1, 0, 0) := rfl
theorem k153_38 : ab_fetch ab_c153 38 = some (.aload_n 0, 1, 0, 0) := rfl
theorem k153_39 : ab_fetch ab_c153 39 = some (.getfield 297, 3, 6, 46) := rfl
theorem k153_42 : ab_fetch ab_c153 42 = some (.iload_n 2, 1, 0, 0) := rfl
theorem k153_43 : ab_fetch ab_c153 43 = some (.dup2, 1, 0, 0) := rfl
theorem k153_44 : ab_fetch ab_c153 44 = some (.iaload, 1, 0, 0) := rfl
theorem k153_45 : ab_fetch ab_c153 45 = some (.iload_n 1, 1, 0, 0) := rfl
theorem k153_46 : ab_fetch ab_c153 46 = some (.bipush 126, 2, 0, 0) := rfl
theorem k153_48 : ab_fetch ab_c153 48 = some (.if_icmp .ne 12, 3, 60, 0) := rfl
theorem k153_51 : ab_fetch ab_c153 51 = some (.aload_n 0, 1, 0, 0) := rfl
theorem k153_52 : ab_fetch ab_c153 52 = some (.getfield 294, 3, 6, 45) := rfl
theorem k153_55 : ab_fetch ab_c153 55 = some (.iload_n 2, 1, 0, 0) := rfl
theorem k153_56 : ab_fetch ab_c153 56 = some (.iaload, 1, 0, 0) := rfl
theorem k153_57 : ab_fetch ab_c153 57 = some (.goto 4, 3, 61, 0) := rfl
theorem k153_60 : ab_fetch ab_c153 60 = some (.iconst 0, 1, 0, 0) := rfl
theorem k153_61 : ab_fetch ab_c153 61 = some (.isub, 1, 0, 0) := rfl
theorem k153_62 : ab_fetch ab_c153 62 = some (.iastore, 1, 0, 0) := rfl
theorem k153_63 : ab_fetch ab_c153 63 = some (.aload_n 0, 1, 0, 0) := rfl
theorem k153_64 : ab_fetch ab_c153 64 = some (.getfield 294, 3, 6, 45) := rfl
theorem k153_67 : ab_fetch ab_c153 67 = some (.iload_n 2, 1, 0, 0) := rfl
theorem k153_68 : ab_fetch ab_c153 68 = some (.iload_n 1, 1, 0, 0) := rfl
theorem k153_69 : ab_fetch ab_c153 69 = some (.bipush 43, 2, 0, 0) := rfl
theorem k153_71 : ab_fetch ab_c153 71 = some (.if_icmp .ne 12, 3, 83, 0) := rfl
theorem k153_74 : ab_fetch ab_c153 74 = some (.aload_n 0, 1, 0, 0) := rfl
theorem k153_75 : ab_fetch ab_c153 75 = some (.getfield 294, 3, 6, 45) := rfl
theorem k153_78 : ab_fetch ab_c153 78 = some (.iload_n 2, 1, 0, 0) := rfl
theorem k153_79 : ab_fetch ab_c153 79 = some (.iaload, 1, 0, 0) := rfl
theorem k153_80 : ab_fetch ab_c153 80 = some (.goto 10, 3, 90, 0) := rfl
theorem k153_83 : ab_fetch ab_c153 83 = some (.aload_n 0, 1, 0, 0) := rfl
theorem k153_84 : ab_fetch ab_c153 84 = some (.getfield 294, 3, 6, 45) := rfl
theorem k153_87 : ab_fetch ab_c153 87 = some (.iload_n 2, 1, 0, 0) := rfl
theorem k153_88 : ab_fetch ab_c153 88 = some (.iaload, 1, 0, 0) := rfl
theorem k153_89 : ab_fetch ab_c153 89 = some (.ineg, 1, 0, 0) := rfl
theorem k153_90 : ab_fetch ab_c153 90 = some (.iastore, 1, 0, 0) := rfl
theorem k153_91 : ab_fetch ab_c153 91 = some (.return_, 1, 0, 0) := rfl
/- CodeSmithModel before(I)V -/
def f153_90 (s : mS) (y0 : Int32) (y1 : Int32) : Option mS := if ib y1 160 then some (mb s 45 y1 y0) else none
theorem t153_90 {d n : Nat} {Z : Nat → ab_C} (hn : 42 ≤ n) : ∀ (s : mS) (l : ab_L) (y0 : Int32) (y1 : Int32)  (r : mS) (e : f153_90 s y0 y1 = some r), ab_Rn (d + 1) 153 90 l [.int y0, .int y1, .ref 39] (ab_hl n (mm_F s Z)) (.inl none) (ab_hl n (mm_F r Z)) := by
  intro s l y0 y1 r e
  unfold f153_90 at e
  obtain ⟨c, e⟩ := of_if e
  refine m_ast hn rfl (pc := 90) p153 k153_90 (k := 45) rfl (mm_arr45 _ Z) c ?_
  cases e
  exact r_retV (pc := 91) p153 k153_91 rfl
def f153_61 (s : mS) (x1 : Int32) (x2 : Int32) (y0 : Int32) (y1 : Int32) (y2 : Int32) : Option mS := if ib y2 160 then (if x1 = (43 : Int32) then if ib x2 160 then f153_90 (mb s 46 y2 (y1 - y0)) ((s.2 45) x2.toNatClampNeg) x2 else none else if ib x2 160 then f153_90 (mb s 46 y2 (y1 - y0)) (-((s.2 45) x2.toNatClampNeg)) x2 else none) else none
theorem t153_61 {d n : Nat} {Z : Nat → ab_C} (hn : 42 ≤ n) : ∀ (s : mS) (l : ab_L) (x1 : Int32) (x2 : Int32) (y0 : Int32) (y1 : Int32) (y2 : Int32) (h0 : ab_get l 0 = some (.ref 22)) (h1 : ab_get l 1 = some (.int x1)) (h2 : ab_get l 2 = some (.int x2)) (r : mS) (e : f153_61 s x1 x2 y0 y1 y2 = some r), ab_Rn (d + 1) 153 61 l [.int y0, .int y1, .int y2, .ref 40] (ab_hl n (mm_F s Z)) (.inl none) (ab_hl n (mm_F r Z)) := by
  intro s l x1 x2 y0 y1 y2 h0 h1 h2 r e
  unfold f153_61 at e
  refine r_isub (pc := 61) p153 k153_61 ?_
  obtain ⟨c, e⟩ := of_if e
  refine m_ast hn rfl (pc := 62) p153 k153_62 (k := 46) rfl (mm_arr46 _ Z) c ?_
  refine r_aload_n (pc := 63) p153 k153_63 h0 ?_
  refine m_get hn (pc := 64) p153 k153_64 (v := .ref 39) rfl ?_
  refine r_iload_n (pc := 67) p153 k153_67 h2 ?_
  refine r_iload_n (pc := 68) p153 k153_68 h1 ?_
  refine r_bipush (pc := 69) p153 k153_69 (v := (43 : Int32)) rfl ?_
  refine r_ic_ne (pc := 71) p153 k153_71 (fun c => ?_) (fun c => ?_)
  · have e := (if_neg c).symm.trans e
    refine r_aload_n (pc := 83) p153 k153_83 h0 ?_
    refine m_get hn (pc := 84) p153 k153_84 (v := .ref 39) rfl ?_
    refine r_iload_n (pc := 87) p153 k153_87 h2 ?_
    obtain ⟨c, e⟩ := of_if e
    refine r_iald (pc := 88) p153 k153_88 (m_lt hn rfl) (f := (s.2 45)) rfl c ?_
    refine r_ineg (pc := 89) p153 k153_89 ?_
    exact t153_90 hn (mb s 46 y2 (y1 - y0)) l (-((s.2 45) x2.toNatClampNeg)) x2 r e
  · have e := (if_pos c).symm.trans e
    refine r_aload_n (pc := 74) p153 k153_74 h0 ?_
    refine m_get hn (pc := 75) p153 k153_75 (v := .ref 39) rfl ?_
    refine r_iload_n (pc := 78) p153 k153_78 h2 ?_
    obtain ⟨c, e⟩ := of_if e
    refine r_iald (pc := 79) p153 k153_79 (m_lt hn rfl) (f := (s.2 45)) rfl c ?_
    refine r_goto (pc := 80) p153 k153_80 ?_
    exact t153_90 hn (mb s 46 y2 (y1 - y0)) l ((s.2 45) x2.toNatClampNeg) x2 r e
def f153_31 (s : mS) (x1 : Int32) : Option mS := if ib ((s.1 40) - (1 : Int32)) 160 then (if x1 = (126 : Int32) then if ib ((s.1 40) - (1 : Int32)) 160 then f153_61 s x1 ((s.1 40) - (1 : Int32)) ((s.2 45) ((s.1 40) - (1 : Int32)).toNatClampNeg) ((s.2 46) ((s.1 40) - (1 : Int32)).toNatClampNeg) ((s.1 40) - (1 : Int32)) else none else f153_61 s x1 ((s.1 40) - (1 : Int32)) (0 : Int32) ((s.2 46) ((s.1 40) - (1 : Int32)).toNatClampNeg) ((s.1 40) - (1 : Int32))) else none
theorem t153_31 {d n : Nat} {Z : Nat → ab_C} (hn : 42 ≤ n) : ∀ (s : mS) (l : ab_L) (x1 : Int32) (h0 : ab_get l 0 = some (.ref 22)) (h1 : ab_get l 1 = some (.int x1)) (r : mS) (e : f153_31 s x1 = some r), ab_Rn (d + 1) 153 31 l [] (ab_hl n (mm_F s Z)) (.inl none) (ab_hl n (mm_F r Z)) := by
  intro s l x1 h0 h1 r e
  unfold f153_31 at e
  refine r_aload_n (pc := 31) p153 k153_31 h0 ?_
  refine m_get hn (pc := 32) p153 k153_32 (v := .int (s.1 40)) rfl ?_
  refine r_iconst (pc := 35) p153 k153_35 (v := (1 : Int32)) rfl ?_
  refine r_isub (pc := 36) p153 k153_36 ?_
  refine r_istore_n (pc := 37) p153 k153_37 (by decide) (fun l g h2 => ?_)
  have h0 := g 0 _ (by decide) h0 (Or.inl rfl)
  have h1 := g 1 _ (by decide) h1 (Or.inl rfl)
  refine r_aload_n (pc := 38) p153 k153_38 h0 ?_
  refine m_get hn (pc := 39) p153 k153_39 (v := .ref 40) rfl ?_
  refine r_iload_n (pc := 42) p153 k153_42 h2 ?_
  refine r_dup2 (pc := 43) p153 k153_43 ⟨rfl, rfl⟩ ?_
  obtain ⟨c, e⟩ := of_if e
  refine r_iald (pc := 44) p153 k153_44 (m_lt hn rfl) (f := (s.2 46)) rfl c ?_
  refine r_iload_n (pc := 45) p153 k153_45 h1 ?_
  refine r_bipush (pc := 46) p153 k153_46 (v := (126 : Int32)) rfl ?_
  refine r_ic_ne (pc := 48) p153 k153_48 (fun c => ?_) (fun c => ?_)
  · have e := (if_neg c).symm.trans e
    refine r_iconst (pc := 60) p153 k153_60 (v := (0 : Int32)) rfl ?_
    exact t153_61 hn s l x1 ((s.1 40) - (1 : Int32)) (0 : Int32) ((s.2 46) ((s.1 40) - (1 : Int32)).toNatClampNeg) ((s.1 40) - (1 : Int32)) h0 h1 h2 r e
  · have e := (if_pos c).symm.trans e
    refine r_aload_n (pc := 51) p153 k153_51 h0 ?_
    refine m_get hn (pc := 52) p153 k153_52 (v := .ref 39) rfl ?_
    refine r_iload_n (pc := 55) p153 k153_55 h2 ?_
    obtain ⟨c, e⟩ := of_if e
    refine r_iald (pc := 56) p153 k153_56 (m_lt hn rfl) (f := (s.2 45)) rfl c ?_
    refine r_goto (pc := 57) p153 k153_57 ?_
    exact t153_61 hn s l x1 ((s.1 40) - (1 : Int32)) ((s.2 45) ((s.1 40) - (1 : Int32)).toNatClampNeg) ((s.2 46) ((s.1 40) - (1 : Int32)).toNatClampNeg) ((s.1 40) - (1 : Int32)) h0 h1 h2 r e
def f153_22 (s : mS) (x1 : Int32) : Option mS := ((f154 s (4 : Int32) (s.1 21)).bind fun r1 => f153_31 r1 x1)
theorem t153_22 {d n : Nat} {Z : Nat → ab_C} (hn : 42 ≤ n) : ∀ (s : mS) (l : ab_L) (x1 : Int32) (h0 : ab_get l 0 = some (.ref 22)) (h1 : ab_get l 1 = some (.int x1)) (r : mS) (e : f153_22 s x1 = some r), ab_Rn (d + 1) 153 22 l [] (ab_hl n (mm_F s Z)) (.inl none) (ab_hl n (mm_F r Z)) := by
  intro s l x1 h0 h1 r e
  unfold f153_22 at e
  refine r_aload_n (pc := 22) p153 k153_22 h0 ?_
  refine r_iconst (pc := 23) p153 k153_23 (v := (4 : Int32)) rfl ?_
  refine r_aload_n (pc := 24) p153 k153_24 h0 ?_
  refine m_get hn (pc := 25) p153 k153_25 (v := .int (s.1 21)) rfl ?_
  obtain ⟨r1, er1, e⟩ := of_bind e
  refine m_cv hn (pc := 28) p153 k153_28 rfl p154 (r := []) rfl rfl rfl rfl rfl (t154 hn s (4 : Int32) (s.1 21) r1 er1) (w := []) rfl ?_
  exact t153_31 hn r1 l x1 h0 h1 r e
def f153 (s : mS) (x1 : Int32) : Option mS := (if (s.1 40) = 0 then f153_22 s x1 else if ib ((s.1 40) - (1 : Int32)) 160 then (if ((s.2 43) ((s.1 40) - (1 : Int32)).toNatClampNeg) = (4 : Int32) then f153_31 s x1 else f153_22 s x1) else none)
theorem t153 {d n : Nat} {Z : Nat → ab_C} (hn : 42 ≤ n) (s : mS) (x1 : Int32) (r : mS) (e : f153 s x1 = some r) : ab_Rn (d + 1) 153 0 (lv_args 0 [.ref 22, .int x1]) [] (ab_hl n (mm_F s Z)) (.inl none) (ab_hl n (mm_F r Z)) := by
  unfold f153 at e
  obtain ⟨l, hl⟩ : ∃ l, l = (lv_args 0 [.ref 22, .int x1]) := ⟨_, rfl⟩
  rw [← hl]
  have h0 : ab_get l 0 = some (.ref 22) := by rw [hl]; rfl
  have h1 : ab_get l 1 = some (.int x1) := by rw [hl]; rfl
  refine r_aload_n (pc := 0) p153 k153_0 h0 ?_
  refine m_get hn (pc := 1) p153 k153_1 (v := .int (s.1 40)) rfl ?_
  refine r_if_eq (pc := 4) p153 k153_4 (fun c => ?_) (fun c => ?_)
  · have e := (if_pos c).symm.trans e
    exact t153_22 hn s l x1 h0 h1 r e
  · have e := (if_neg c).symm.trans e
    refine r_aload_n (pc := 7) p153 k153_7 h0 ?_
    refine m_get hn (pc := 8) p153 k153_8 (v := .ref 37) rfl ?_
    refine r_aload_n (pc := 11) p153 k153_11 h0 ?_
    refine m_get hn (pc := 12) p153 k153_12 (v := .int (s.1 40)) rfl ?_
    refine r_iconst (pc := 15) p153 k153_15 (v := (1 : Int32)) rfl ?_
    refine r_isub (pc := 16) p153 k153_16 ?_
    obtain ⟨c, e⟩ := of_if e
    refine r_iald (pc := 17) p153 k153_17 (m_lt hn rfl) (f := (s.2 43)) rfl c ?_
    refine r_iconst (pc := 18) p153 k153_18 (v := (4 : Int32)) rfl ?_
    refine r_ic_eq (pc := 19) p153 k153_19 (fun c => ?_) (fun c => ?_)
    · have e := (if_pos c).symm.trans e
      exact t153_31 hn s l x1 h0 h1 r e
    · have e := (if_neg c).symm.trans e
      exact t153_22 hn s l x1 h0 h1 r e

theorem p155 : ab_prog[155]? = some (ab_m155, ab_c155) := rfl
theorem k155_0 : ab_fetch ab_c155 0 = some (.aload_n 0, 1, 0, 0) := rfl
theorem k155_1 : ab_fetch ab_c155 1 = some (.getfield 443, 3, 6, 41) := rfl
theorem k155_4 : ab_fetch ab_c155 4 = some (.bipush 16, 2, 0, 0) := rfl
theorem k155_6 : ab_fetch ab_c155 6 = some (.if_icmp .ne 12, 3, 18, 0) := rfl
theorem k155_9 : ab_fetch ab_c155 9 = some (.aload_n 0, 1, 0, 0) := rfl
theorem k155_10 : ab_fetch ab_c155 10 = some (.iconst 1, 1, 0, 0) := rfl
theorem k155_11 : ab_fetch ab_c155 11 = some (.aload_n 0, 1, 0, 0) := rfl
theorem k155_12 : ab_fetch ab_c155 12 = some (.getfield 349, 3, 6, 21) := rfl
theorem k155_15 : ab_fetch ab_c155 15 = some (.invokevirtual 342, 3, 131, 2) := rfl
theorem k155_18 : ab_fetch ab_c155 18 = some (.aload_n 0, 1, 0, 0) := rfl
theorem k155_19 : ab_fetch ab_c155 19 = some (.dup, 1, 0, 0) := rfl
theorem k155_20 : ab_fetch ab_c155 20 = some (.getfield 443, 3, 6, 41) := rfl
theorem k155_23 : ab_fetch ab_c155 23 = some (.iconst 1, 1, 0, 0) := rfl
theorem k155_24 : ab_fetch ab_c155 24 = some (.iadd, 1, 0, 0) := rfl
theorem k155_25 : ab_fetch ab_c155 25 = some (.putfield 443, 3, 6, 41) := rfl
theorem k155_28 : ab_fetch ab_c155 28 = some (.aload_n 0, 1, 0, 0) := rfl
theorem k155_29 : ab_fetch ab_c155 29 = some (.iload_n 1, 1, 0, 0) := rfl
theorem k155_30 : ab_fetch ab_c155 30 = some (.aload_n 0, 1, 0, 0) := rfl
theorem k155_31 : ab_fetch ab_c155 31 = some (.getfield 349, 3, 6, 21) := rfl
theorem k155_34 : ab_fetch ab_c155 34 = some (.invokevirtual 440, 3, 154, 2) := rfl
theorem k155_37 : ab_fetch ab_c155 37 = some (.aload_n 0, 1, 0, 0) := rfl
theorem k155_38 : ab_fetch ab_c155 38 = some (.invokevirtual 387, 3, 117, 0) := rfl
theorem k155_41 : ab_fetch ab_c155 41 = some (.return_, 1, 0, 0) := rfl
/- CodeSmithModel bracket(I)V -/
def f155_18 (s : mS) (x1 : Int32) : Option mS := ((f154 (mg s 41 ((s.1 41) + (1 : Int32))) x1 (s.1 21)).bind fun r1 => ((f117 r1).bind fun r2 => some r2))
theorem t155_18 {d n : Nat} {Z : Nat → ab_C} (hn : 42 ≤ n) : ∀ (s : mS) (l : ab_L) (x1 : Int32) (h0 : ab_get l 0 = some (.ref 22)) (h1 : ab_get l 1 = some (.int x1)) (r : mS) (e : f155_18 s x1 = some r), ab_Rn (d + 4) 155 18 l [] (ab_hl n (mm_F s Z)) (.inl none) (ab_hl n (mm_F r Z)) := by
  intro s l x1 h0 h1 r e
  unfold f155_18 at e
  refine r_aload_n (pc := 18) p155 k155_18 h0 ?_
  refine r_dup (pc := 19) p155 k155_19 rfl ?_
  refine m_get hn (pc := 20) p155 k155_20 (v := .int (s.1 41)) rfl ?_
  refine r_iconst (pc := 23) p155 k155_23 (v := (1 : Int32)) rfl ?_
  refine r_iadd (pc := 24) p155 k155_24 ?_
  refine m_put hn (pc := 25) p155 k155_25 rfl rfl rfl rfl ?_
  refine r_aload_n (pc := 28) p155 k155_28 h0 ?_
  refine r_iload_n (pc := 29) p155 k155_29 h1 ?_
  refine r_aload_n (pc := 30) p155 k155_30 h0 ?_
  refine m_get hn (pc := 31) p155 k155_31 (v := .int (s.1 21)) rfl ?_
  obtain ⟨r1, er1, e⟩ := of_bind e
  refine m_cv hn (pc := 34) p155 k155_34 rfl p154 (r := []) rfl rfl rfl rfl rfl (t154 hn (mg s 41 ((s.1 41) + (1 : Int32))) x1 (s.1 21) r1 er1) (w := []) rfl ?_
  refine r_aload_n (pc := 37) p155 k155_37 h0 ?_
  obtain ⟨r2, er2, e⟩ := of_bind e
  refine m_cv hn (pc := 38) p155 k155_38 rfl p117 (r := []) rfl rfl rfl rfl rfl (t117 hn r1 r2 er2) (w := []) rfl ?_
  cases e
  exact r_retV (pc := 41) p155 k155_41 rfl
def f155 (s : mS) (x1 : Int32) : Option mS := (if (s.1 41) = (16 : Int32) then ((f131 s (1 : Int32) (s.1 21)).bind fun r1 => f155_18 r1 x1) else f155_18 s x1)
theorem t155 {d n : Nat} {Z : Nat → ab_C} (hn : 42 ≤ n) (s : mS) (x1 : Int32) (r : mS) (e : f155 s x1 = some r) : ab_Rn (d + 4) 155 0 (lv_args 0 [.ref 22, .int x1]) [] (ab_hl n (mm_F s Z)) (.inl none) (ab_hl n (mm_F r Z)) := by
  unfold f155 at e
  obtain ⟨l, hl⟩ : ∃ l, l = (lv_args 0 [.ref 22, .int x1]) := ⟨_, rfl⟩
  rw [← hl]
  have h0 : ab_get l 0 = some (.ref 22) := by rw [hl]; rfl
  have h1 : ab_get l 1 = some (.int x1) := by rw [hl]; rfl
  refine r_aload_n (pc := 0) p155 k155_0 h0 ?_
  refine m_get hn (pc := 1) p155 k155_1 (v := .int (s.1 41)) rfl ?_
  refine r_bipush (pc := 4) p155 k155_4 (v := (16 : Int32)) rfl ?_
  refine r_ic_ne (pc := 6) p155 k155_6 (fun c => ?_) (fun c => ?_)
  · have e := (if_neg c).symm.trans e
    exact t155_18 hn s l x1 h0 h1 r e
  · have e := (if_pos c).symm.trans e
    refine r_aload_n (pc := 9) p155 k155_9 h0 ?_
    refine r_iconst (pc := 10) p155 k155_10 (v := (1 : Int32)) rfl ?_
    refine r_aload_n (pc := 11) p155 k155_11 h0 ?_
    refine m_get hn (pc := 12) p155 k155_12 (v := .int (s.1 21)) rfl ?_
    obtain ⟨r1, er1, e⟩ := of_bind e
    refine m_cv hn (pc := 15) p155 k155_15 rfl p131 (r := []) rfl rfl rfl rfl rfl (t131 hn s (1 : Int32) (s.1 21) r1 er1) (w := []) rfl ?_
    exact t155_18 hn r1 l x1 h0 h1 r e

theorem p147 : ab_prog[147]? = some (ab_m147, ab_c147) := rfl
theorem k147_0 : ab_fetch ab_c147 0 = some (.aload_n 0, 1, 0, 0) := rfl
theorem k147_1 : ab_fetch ab_c147 1 = some (.getfield 358, 3, 6, 20) := rfl
theorem k147_4 : ab_fetch ab_c147 4 = some (.iconst 2, 1, 0, 0) := rfl
theorem k147_5 : ab_fetch ab_c147 5 = some (.if_icmp .eq 20, 3, 25, 0) := rfl
theorem k147_8 : ab_fetch ab_c147 8 = some (.aload_n 0, 1, 0, 0) := rfl
theorem k147_9 : ab_fetch ab_c147 9 = some (.getfield 358, 3, 6, 20) := rfl
theorem k147_12 : ab_fetch ab_c147 12 = some (.iconst 1, 1, 0, 0) := rfl
theorem k147_13 : ab_fetch ab_c147 13 = some (.if_icmp .eq 12, 3, 25, 0) := rfl
theorem k147_16 : ab_fetch ab_c147 16 = some (.aload_n 0, 1, 0, 0) := rfl
theorem k147_17 : ab_fetch ab_c147 17 = some (.bipush 46, 2, 0, 0) := rfl
theorem k147_19 : ab_fetch ab_c147 19 = some (.invokevirtual 384, 3, 142, 1) := rfl
theorem k147_22 : ab_fetch ab_c147 22 = some (.ifCond .eq 115, 3, 137, 0) := rfl
theorem k147_25 : ab_fetch ab_c147 25 = some (.aload_n 0, 1, 0, 0) := rfl
theorem k147_26 : ab_fetch ab_c147 26 = some (.invokevirtual 398, 3, 130, 0) := rfl
theorem k147_29 : ab_fetch ab_c147 29 = some (.aload_n 0, 1, 0, 0) := rfl
theorem k147_30 : ab_fetch ab_c147 30 = some (.getfield 358, 3, 6, 20) := rfl
theorem k147_33 : ab_fetch ab_c147 33 = some (.iconst 2, 1, 0, 0) := rfl
theorem k147_34 : ab_fetch ab_c147 34 = some (.if_icmp .ne 10, 3, 44, 0) := rfl
theorem k147_37 : ab_fetch ab_c147 37 = some (.aload_n 0, 1, 0, 0) := rfl
theorem k147_38 : ab_fetch ab_c147 38 = some (.getfield 352, 3, 6, 22) := rfl
theorem k147_41 : ab_fetch ab_c147 41 = some (.goto 23, 3, 64, 0) := rfl
theorem k147_44 : ab_fetch ab_c147 44 = some (.aload_n 0, 1, 0, 0) := rfl
theorem k147_45 : ab_fetch ab_c147 45 = some (.getfield 358, 3, 6, 20) := rfl
theorem k147_48 : ab_fetch ab_c147 48 = some (.iconst 1, 1, 0, 0) := rfl
theorem k147_49 : ab_fetch ab_c147 49 = some (.if_icmp .ne 11, 3, 60, 0) := rfl
theorem k147_52 : ab_fetch ab_c147 52 = some (.aload_n 0, 1, 0, 0) := rfl
theorem k147_53 : ab_fetch ab_c147 53 = some (.iload_n 1, 1, 0, 0) := rfl
theorem k147_54 : ab_fetch ab_c147 54 = some (.invokevirtual 446, 3, 148, 1) := rfl
theorem k147_57 : ab_fetch ab_c147 57 = some (.goto 7, 3, 64, 0) := rfl
theorem k147_60 : ab_fetch ab_c147 60 = some (.aload_n 0, 1, 0, 0) := rfl
theorem k147_61 : ab_fetch ab_c147 61 = some (.getfield 449, 3, 6, 33) := rfl
theorem k147_64 : ab_fetch ab_c147 64 = some (.istore_n 2, 1, 0, 0) := rfl
theorem k147_65 : ab_fetch ab_c147 65 = some (.aload_n 0, 1, 0, 0) := rfl
theorem k147_66 : ab_fetch ab_c147 66 = some (.aload_n 0, 1, 0, 0) := rfl
theorem k147_67 : ab_fetch ab_c147 67 = some (.getfield 415, 3, 6, 38) := rfl
theorem k147_70 : ab_fetch ab_c147 70 = some (.ifCond .ne 11, 3, 81, 0) := rfl
theorem k147_73 : ab_fetch ab_c147 73 = some (.aload_n 0, 1, 0, 0) := rfl
theorem k147_74 : ab_fetch ab_c147 74 = some (.getfield 358, 3, 6, 20) := rfl
theorem k147_77 : ab_fetch ab_c147 77 = some (.iconst 4, 1, 0, 0) := rfl
theorem k147_78 : ab_fetch ab_c147 78 = some (.if_icmp .ne 7, 3, 85, 0) := rfl
theorem k147_81 : ab_fetch ab_c147 81 = some (.iconst 1, 1, 0, 0) := rfl
theorem k147_82 : ab_fetch ab_c147 82 = some (.goto 4, 3, 86, 0) := rfl
theorem k147_85 : ab_fetch ab_c147 85 = some (.iconst 0, 1, 0, 0) := rfl
theorem k147_86 : ab_fetch ab_c147 86 = some (.putfield 415, 3, 6, 38) := rfl
theorem k147_89 : ab_fetch ab_c147 89 = some (.aload_n 0, 1, 0, 0) := rfl
theorem k147_90 : ab_fetch ab_c147 90 = some (.getfield 358, 3, 6, 20) := rfl
theorem k147_93 : ab_fetch ab_c147 93 = some (.iconst 4, 1, 0, 0) := rfl
theorem k147_94 : ab_fetch ab_c147 94 = some (.if_icmp .ne 16, 3, 110, 0) := rfl
theorem k147_97 : ab_fetch ab_c147 97 = some (.iload_n 1, 1, 0, 0) := rfl
theorem k147_98 : ab_fetch ab_c147 98 = some (.ifCond .ne 12, 3, 110, 0) := rfl
theorem k147_101 : ab_fetch ab_c147 101 = some (.aload_n 0, 1, 0, 0) := rfl
theorem k147_102 : ab_fetch ab_c147 102 = some (.iconst 4, 1, 0, 0) := rfl
theorem k147_103 : ab_fetch ab_c147 103 = some (.aload_n 0, 1, 0, 0) := rfl
theorem k147_104 : ab_fetch ab_c147 104 = some (.getfield 349, 3, 6, 21) := rfl
theorem k147_107 : ab_fetch ab_c147 107 = some (.invokevirtual 342, 3, 131, 2) := rfl
theorem k147_110 : ab_fetch ab_c147 110 = some (.aload_n 0, 1, 0, 0) := rfl
theorem k147_111 : ab_fetch ab_c147 111 = some (.getfield 285, 3, 6, 42) := rfl
theorem k147_114 : ab_fetch ab_c147 114 = some (.aload_n 0, 1, 0, 0) := rfl
theorem k147_115 : ab_fetch ab_c147 115 = some (.getfield 430, 3, 6, 39) := rfl
theorem k147_118 : ab_fetch ab_c147 118 = some (.iload_n 2, 1, 0, 0) := rfl
theorem k147_119 : ab_fetch ab_c147 119 = some (.iastore, 1, 0, 0) := rfl
theorem k147_120 : ab_fetch ab_c147 120 = some (.aload_n 0, 1, 0, 0) := rfl
theorem k147_121 : ab_fetch ab_c147 121 = some (.dup, 1, 0, 0) := rfl
theorem k147_122 : ab_fetch ab_c147 122 = some (.getfield 430, 3, 6, 39) := rfl
theorem k147_125 : ab_fetch ab_c147 125 = some (.iconst 1, 1, 0, 0) := rfl
theorem k147_126 : ab_fetch ab_c147 126 = some (.iadd, 1, 0, 0) := rfl
theorem k147_127 : ab_fetch ab_c147 127 = some (.putfield 430, 3, 6, 39) := rfl
theorem k147_130 : ab_fetch ab_c147 130 = some (.aload_n 0, 1, 0, 0) := rfl
theorem k147_131 : ab_fetch ab_c147 131 = some (.iload_n 1, 1, 0, 0) := rfl
theorem k147_132 : ab_fetch ab_c147 132 = some (.invokevirtual 451, 3, 149, 1) := rfl
theorem k147_135 : ab_fetch ab_c147 135 = some (.iconst 1, 1, 0, 0) := rfl
theorem k147_136 : ab_fetch ab_c147 136 = some (.ireturn, 1, 0, 0) := rfl
theorem k147_137 : ab_fetch ab_c147 137 = some (.aload_n 0, 1, 0, 0) := rfl
theorem k147_138 : ab_fetch ab_c147 138 = some (.bipush 45, 2, 0, 0) := rfl
theorem k147_140 : ab_fetch ab_c147 140 = some (.invokevirtual 384, 3, 142, 1) := rfl
theorem k147_143 : ab_fetch ab_c147 143 = some (.ifCond .ne 21, 3, 164, 0) := rfl
theorem k147_146 : ab_fetch ab_c147 146 = some (.aload_n 0, 1, 0, 0) := rfl
theorem k147_147 : ab_fetch ab_c147 147 = some (.bipush 43, 2, 0, 0) := rfl
theorem k147_149 : ab_fetch ab_c147 149 = some (.invokevirtual 384, 3, 142, 1) := rfl
theorem k147_152 : ab_fetch ab_c147 152 = some (.ifCond .ne 12, 3, 164, 0) := rfl
theorem k147_155 : ab_fetch ab_c147 155 = some (.aload_n 0, 1, 0, 0) := rfl
theorem k147_156 : ab_fetch ab_c147 156 = some (.bipush 126, 2, 0, 0) := rfl
theorem k147_158 : ab_fetch ab_c147 158 = some (.invokevirtual 384, 3, 142, 1) := rfl
theorem k147_161 : ab_fetch ab_c147 161 = some (.ifCond .eq 18, 3, 179, 0) := rfl
theorem k147_164 : ab_fetch ab_c147 164 = some (.aload_n 0, 1, 0, 0) := rfl
theorem k147_165 : ab_fetch ab_c147 165 = some (.aload_n 0, 1, 0, 0) := rfl
theorem k147_166 : ab_fetch ab_c147 166 = some (.getfield 352, 3, 6, 22) := rfl
theorem k147_169 : ab_fetch ab_c147 169 = some (.invokevirtual 454, 3, 153, 1) := rfl
theorem k147_172 : ab_fetch ab_c147 172 = some (.aload_n 0, 1, 0, 0) := rfl
theorem k147_173 : ab_fetch ab_c147 173 = some (.invokevirtual 387, 3, 117, 0) := rfl
theorem k147_176 : ab_fetch ab_c147 176 = some (.goto 164, 3, 340, 0) := rfl
theorem k147_179 : ab_fetch ab_c147 179 = some (.aload_n 0, 1, 0, 0) := rfl
theorem k147_180 : ab_fetch ab_c147 180 = some (.bipush 40, 2, 0, 0) := rfl
theorem k147_182 : ab_fetch ab_c147 182 = some (.invokevirtual 384, 3, 142, 1) := rfl
theorem k147_185 : ab_fetch ab_c147 185 = some (.ifCond .eq 11, 3, 196, 0) := rfl
theorem k147_188 : ab_fetch ab_c147 188 = some (.aload_n 0, 1, 0, 0) := rfl
theorem k147_189 : ab_fetch ab_c147 189 = some (.iconst 1, 1, 0, 0) := rfl
theorem k147_190 : ab_fetch ab_c147 190 = some (.invokevirtual 457, 3, 155, 1) := rfl
theorem k147_193 : ab_fetch ab_c147 193 = some (.goto 147, 3, 340, 0) := rfl
theorem k147_196 : ab_fetch ab_c147 196 = some (.aload_n 0, 1, 0, 0) := rfl
theorem k147_197 : ab_fetch ab_c147 197 = some (.bipush 37, 2, 0, 0) := rfl
theorem k147_199 : ab_fetch ab_c147 199 = some (.invokevirtual 384, 3, 142, 1) := rfl
theorem k147_202 : ab_fetch ab_c147 202 = some (.ifCond .eq 129, 3, 331, 0) := rfl
theorem k147_205 : ab_fetch ab_c147 205 = some (.aload_n 0, 1, 0, 0) := rfl
theorem k147_206 : ab_fetch ab_c147 206 = some (.invokevirtual 387, 3, 117, 0) := rfl
theorem k147_209 : ab_fetch ab_c147 209 = some (.aload_n 0, 1, 0, 0) := rfl
theorem k147_210 : ab_fetch ab_c147 210 = some (.getfield 358, 3, 6, 20) := rfl
theorem k147_213 : ab_fetch ab_c147 213 = some (.iconst 1, 1, 0, 0) := rfl
theorem k147_214 : ab_fetch ab_c147 214 = some (.if_icmp .ne 7, 3, 221, 0) := rfl
theorem k147_217 : ab_fetch ab_c147 217 = some (.aload_n 0, 1, 0, 0) := rfl
theorem k147_218 : ab_fetch ab_c147 218 = some (.invokevirtual 398, 3, 130, 0) := rfl
theorem k147_221 : ab_fetch ab_c147 221 = some (.aload_n 0, 1, 0, 0) := rfl
theorem k147_222 : ab_fetch ab_c147 222 = some (.getfield 307, 3, 6, 11) := rfl
theorem k147_225 : ab_fetch ab_c147 225 = some (.ifCond .ne 31, 3, 256, 0) := rfl
theorem k147_228 : ab_fetch ab_c147 228 = some (.aload_n 0, 1, 0, 0) := rfl
theorem k147_229 : ab_fetch ab_c147 229 = some (.getfield 358, 3, 6, 20) := rfl
theorem k147_232 : ab_fetch ab_c147 232 = some (.iconst 1, 1, 0, 0) := rfl
theorem k147_233 : ab_fetch ab_c147 233 = some (.if_icmp .ne 23, 3, 256, 0) := rfl
theorem k147_236 : ab_fetch ab_c147 236 = some (.aload_n 0, 1, 0, 0) := rfl
theorem k147_237 : ab_fetch ab_c147 237 = some (.aload_n 0, 1, 0, 0) := rfl
theorem k147_238 : ab_fetch ab_c147 238 = some (.getfield 349, 3, 6, 21) := rfl
theorem k147_241 : ab_fetch ab_c147 241 = some (.aload_n 0, 1, 0, 0) := rfl
theorem k147_242 : ab_fetch ab_c147 242 = some (.getfield 322, 3, 6, 18) := rfl
theorem k147_245 : ab_fetch ab_c147 245 = some (.aload_n 0, 1, 0, 0) := rfl
theorem k147_246 : ab_fetch ab_c147 246 = some (.getfield 349, 3, 6, 21) := rfl
theorem k147_249 : ab_fetch ab_c147 249 = some (.isub, 1, 0, 0) := rfl
theorem k147_250 : ab_fetch ab_c147 250 = some (.invokevirtual 390, 3, 136, 2) := rfl
theorem k147_253 : ab_fetch ab_c147 253 = some (.goto 4, 3, 257, 0) := rfl
theorem k147_256 : ab_fetch ab_c147 256 = some (.lconst 0, 1, 0, 0) := rfl
theorem k147_257 : ab_fetch ab_c147 257 = some (.lstore_n 2, 1, 0, 0) := rfl
theorem k147_258 : ab_fetch ab_c147 258 = some (.lload_n 2, 1, 0, 0) := rfl
theorem k147_259 : ab_fetch ab_c147 259 = some (.ldc2_w 460, 3, 26729, 0) := rfl
theorem k147_262 : ab_fetch ab_c147 262 = some (.lcmp, 1, 0, 0) := rfl
theorem k147_263 : ab_fetch ab_c147 263 = some (.ifCond .eq 23, 3, 286, 0) := rfl
theorem k147_266 : ab_fetch ab_c147 266 = some (.lload_n 2, 1, 0, 0) := rfl
theorem k147_267 : ab_fetch ab_c147 267 = some (.ldc2_w 462, 3, 27759, 0) := rfl
theorem k147_270 : ab_fetch ab_c147 270 = some (.lcmp, 1, 0, 0) := rfl
theorem k147_271 : ab_fetch ab_c147 271 = some (.ifCond .eq 15, 3, 286, 0) := rfl
theorem k147_274 : ab_fetch ab_c147 274 = some (.aload_n 0, 1, 0, 0) := rfl
theorem k147_275 : ab_fetch ab_c147 275 = some (.iconst 1, 1, 0, 0) := rfl
theorem k147_276 : ab_fetch ab_c147 276 = some (.aload_n 0, 1, 0, 0) := rfl
theorem k147_277 : ab_fetch ab_c147 277 = some (.getfield 349, 3, 6, 21) := rfl
theorem k147_280 : ab_fetch ab_c147 280 = some (.invokevirtual 342, 3, 131, 2) := rfl
theorem k147_283 : ab_fetch ab_c147 283 = some (.goto 7, 3, 290, 0) := rfl
theorem k147_286 : ab_fetch ab_c147 286 = some (.aload_n 0, 1, 0, 0) := rfl
theorem k147_287 : ab_fetch ab_c147 287 = some (.invokevirtual 387, 3, 117, 0) := rfl
theorem k147_290 : ab_fetch ab_c147 290 = some (.aload_n 0, 1, 0, 0) := rfl
theorem k147_291 : ab_fetch ab_c147 291 = some (.bipush 40, 2, 0, 0) := rfl
theorem k147_293 : ab_fetch ab_c147 293 = some (.invokevirtual 384, 3, 142, 1) := rfl
theorem k147_296 : ab_fetch ab_c147 296 = some (.ifCond .ne 15, 3, 311, 0) := rfl
theorem k147_299 : ab_fetch ab_c147 299 = some (.aload_n 0, 1, 0, 0) := rfl
theorem k147_300 : ab_fetch ab_c147 300 = some (.iconst 1, 1, 0, 0) := rfl
theorem k147_301 : ab_fetch ab_c147 301 = some (.aload_n 0, 1, 0, 0) := rfl
theorem k147_302 : ab_fetch ab_c147 302 = some (.getfield 349, 3, 6, 21) := rfl
theorem k147_305 : ab_fetch ab_c147 305 = some (.invokevirtual 342, 3, 131, 2) := rfl
theorem k147_308 : ab_fetch ab_c147 308 = some (.goto 20, 3, 328, 0) := rfl
theorem k147_311 : ab_fetch ab_c147 311 = some (.aload_n 0, 1, 0, 0) := rfl
theorem k147_312 : ab_fetch ab_c147 312 = some (.lload_n 2, 1, 0, 0) := rfl
theorem k147_313 : ab_fetch ab_c147 313 = some (.ldc2_w 460, 3, 26729, 0) := rfl
theorem k147_316 : ab_fetch ab_c147 316 = some (.lcmp, 1, 0, 0) := rfl
theorem k147_317 : ab_fetch ab_c147 317 = some (.ifCond .ne 7, 3, 324, 0) := rfl
theorem k147_320 : ab_fetch ab_c147 320 = some (.iconst 2, 1, 0, 0) := rfl
theorem k147_321 : ab_fetch ab_c147 321 = some (.goto 4, 3, 325, 0) := rfl
theorem k147_324 : ab_fetch ab_c147 324 = some (.iconst 3, 1, 0, 0) := rfl
theorem k147_325 : ab_fetch ab_c147 325 = some (.invokevirtual 457, 3, 155, 1) := rfl
theorem k147_328 : ab_fetch ab_c147 328 = some (.goto 12, 3, 340, 0) := rfl
theorem k147_331 : ab_fetch ab_c147 331 = some (.aload_n 0, 1, 0, 0) := rfl
theorem k147_332 : ab_fetch ab_c147 332 = some (.iconst 1, 1, 0, 0) := rfl
theorem k147_333 : ab_fetch ab_c147 333 = some (.aload_n 0, 1, 0, 0) := rfl
theorem k147_334 : ab_fetch ab_c147 334 = some (.getfield 349, 3, 6, 21) := rfl
theorem k147_337 : ab_fetch ab_c147 337 = some (.invokevirtual 342, 3, 131, 2) := rfl
theorem k147_340 : ab_fetch ab_c147 340 = some (.iconst 0, 1, 0, 0) := rfl
theorem k147_341 : ab_fetch ab_c147 341 = some (.ireturn, 1, 0, 0) := rfl
/- CodeSmithModel operandBegins(I)Z -/
def f147_110 (s : mS) (x1 : Int32) (x2 : Int32) : Option (Int32 × mS) := if ib (s.1 39) 160 then ((f149 (mg (mb s 42 (s.1 39) x2) 39 ((s.1 39) + (1 : Int32))) x1).bind fun r1 => some ((1 : Int32), r1)) else none
theorem t147_110 {d n : Nat} {Z : Nat → ab_C} (hn : 42 ≤ n) : ∀ (s : mS) (l : ab_L) (x1 : Int32) (x2 : Int32) (h0 : ab_get l 0 = some (.ref 22)) (h1 : ab_get l 1 = some (.int x1)) (h2 : ab_get l 2 = some (.int x2)) (r : Int32 × mS) (e : f147_110 s x1 x2 = some r), ab_Rn (d + 5) 147 110 l [] (ab_hl n (mm_F s Z)) (.inl (some (.int r.1))) (ab_hl n (mm_F r.2 Z)) := by
  intro s l x1 x2 h0 h1 h2 r e
  unfold f147_110 at e
  refine r_aload_n (pc := 110) p147 k147_110 h0 ?_
  refine m_get hn (pc := 111) p147 k147_111 (v := .ref 36) rfl ?_
  refine r_aload_n (pc := 114) p147 k147_114 h0 ?_
  refine m_get hn (pc := 115) p147 k147_115 (v := .int (s.1 39)) rfl ?_
  refine r_iload_n (pc := 118) p147 k147_118 h2 ?_
  obtain ⟨c, e⟩ := of_if e
  refine m_ast hn rfl (pc := 119) p147 k147_119 (k := 42) rfl (mm_arr42 _ Z) c ?_
  refine r_aload_n (pc := 120) p147 k147_120 h0 ?_
  refine r_dup (pc := 121) p147 k147_121 rfl ?_
  refine m_get hn (pc := 122) p147 k147_122 (v := .int (s.1 39)) rfl ?_
  refine r_iconst (pc := 125) p147 k147_125 (v := (1 : Int32)) rfl ?_
  refine r_iadd (pc := 126) p147 k147_126 ?_
  refine m_put hn (pc := 127) p147 k147_127 rfl rfl rfl rfl ?_
  refine r_aload_n (pc := 130) p147 k147_130 h0 ?_
  refine r_iload_n (pc := 131) p147 k147_131 h1 ?_
  obtain ⟨r1, er1, e⟩ := of_bind e
  refine m_cv hn (pc := 132) p147 k147_132 rfl p149 (r := []) rfl rfl rfl rfl rfl (t149 hn (mg (mb s 42 (s.1 39) x2) 39 ((s.1 39) + (1 : Int32))) x1 r1 er1) (w := []) rfl ?_
  refine r_iconst (pc := 135) p147 k147_135 (v := (1 : Int32)) rfl ?_
  cases e
  exact r_retZ (pc := 136) p147 k147_136 rfl (Or.inr rfl)
def f147_86 (s : mS) (x1 : Int32) (x2 : Int32) (y0 : Int32) : Option (Int32 × mS) := if bz y0 then (if (s.1 20) = (4 : Int32) then (if x1 = 0 then ((f131 (mg s 38 y0) (4 : Int32) (s.1 21)).bind fun r1 => f147_110 r1 x1 x2) else f147_110 (mg s 38 y0) x1 x2) else f147_110 (mg s 38 y0) x1 x2) else none
theorem t147_86 {d n : Nat} {Z : Nat → ab_C} (hn : 42 ≤ n) : ∀ (s : mS) (l : ab_L) (x1 : Int32) (x2 : Int32) (y0 : Int32) (h0 : ab_get l 0 = some (.ref 22)) (h1 : ab_get l 1 = some (.int x1)) (h2 : ab_get l 2 = some (.int x2)) (r : Int32 × mS) (e : f147_86 s x1 x2 y0 = some r), ab_Rn (d + 5) 147 86 l [.int y0, .ref 22] (ab_hl n (mm_F s Z)) (.inl (some (.int r.1))) (ab_hl n (mm_F r.2 Z)) := by
  intro s l x1 x2 y0 h0 h1 h2 r e
  unfold f147_86 at e
  obtain ⟨c, e⟩ := of_if e
  refine m_put hn (pc := 86) p147 k147_86 rfl rfl (bz_fit c) rfl ?_
  refine r_aload_n (pc := 89) p147 k147_89 h0 ?_
  refine m_get hn (pc := 90) p147 k147_90 (v := .int (s.1 20)) rfl ?_
  refine r_iconst (pc := 93) p147 k147_93 (v := (4 : Int32)) rfl ?_
  refine r_ic_ne (pc := 94) p147 k147_94 (fun c => ?_) (fun c => ?_)
  · have e := (if_neg c).symm.trans e
    exact t147_110 hn (mg s 38 y0) l x1 x2 h0 h1 h2 r e
  · have e := (if_pos c).symm.trans e
    refine r_iload_n (pc := 97) p147 k147_97 h1 ?_
    refine r_if_ne (pc := 98) p147 k147_98 (fun c => ?_) (fun c => ?_)
    · have e := (if_neg c).symm.trans e
      exact t147_110 hn (mg s 38 y0) l x1 x2 h0 h1 h2 r e
    · have e := (if_pos c).symm.trans e
      refine r_aload_n (pc := 101) p147 k147_101 h0 ?_
      refine r_iconst (pc := 102) p147 k147_102 (v := (4 : Int32)) rfl ?_
      refine r_aload_n (pc := 103) p147 k147_103 h0 ?_
      refine m_get hn (pc := 104) p147 k147_104 (v := .int (s.1 21)) rfl ?_
      obtain ⟨r1, er1, e⟩ := of_bind e
      refine m_cv hn (pc := 107) p147 k147_107 rfl p131 (r := []) rfl rfl rfl rfl rfl (t131 hn (mg s 38 y0) (4 : Int32) (s.1 21) r1 er1) (w := []) rfl ?_
      exact t147_110 hn r1 l x1 x2 h0 h1 h2 r e
def f147_81 (s : mS) (x1 : Int32) (x2 : Int32) : Option (Int32 × mS) := f147_86 s x1 x2 (1 : Int32)
theorem t147_81 {d n : Nat} {Z : Nat → ab_C} (hn : 42 ≤ n) : ∀ (s : mS) (l : ab_L) (x1 : Int32) (x2 : Int32) (h0 : ab_get l 0 = some (.ref 22)) (h1 : ab_get l 1 = some (.int x1)) (h2 : ab_get l 2 = some (.int x2)) (r : Int32 × mS) (e : f147_81 s x1 x2 = some r), ab_Rn (d + 5) 147 81 l [.ref 22] (ab_hl n (mm_F s Z)) (.inl (some (.int r.1))) (ab_hl n (mm_F r.2 Z)) := by
  intro s l x1 x2 h0 h1 h2 r e
  unfold f147_81 at e
  refine r_iconst (pc := 81) p147 k147_81 (v := (1 : Int32)) rfl ?_
  refine r_goto (pc := 82) p147 k147_82 ?_
  exact t147_86 hn s l x1 x2 (1 : Int32) h0 h1 h2 r e
def f147_64 (s : mS) (x1 : Int32) (y0 : Int32) : Option (Int32 × mS) := (if (s.1 38) = 0 then (if (s.1 20) = (4 : Int32) then f147_81 s x1 y0 else f147_86 s x1 y0 (0 : Int32)) else f147_81 s x1 y0)
theorem t147_64 {d n : Nat} {Z : Nat → ab_C} (hn : 42 ≤ n) : ∀ (s : mS) (l : ab_L) (x1 : Int32) (y0 : Int32) (h0 : ab_get l 0 = some (.ref 22)) (h1 : ab_get l 1 = some (.int x1)) (r : Int32 × mS) (e : f147_64 s x1 y0 = some r), ab_Rn (d + 5) 147 64 l [.int y0] (ab_hl n (mm_F s Z)) (.inl (some (.int r.1))) (ab_hl n (mm_F r.2 Z)) := by
  intro s l x1 y0 h0 h1 r e
  unfold f147_64 at e
  refine r_istore_n (pc := 64) p147 k147_64 (by decide) (fun l g h2 => ?_)
  have h0 := g 0 _ (by decide) h0 (Or.inl rfl)
  have h1 := g 1 _ (by decide) h1 (Or.inl rfl)
  refine r_aload_n (pc := 65) p147 k147_65 h0 ?_
  refine r_aload_n (pc := 66) p147 k147_66 h0 ?_
  refine m_get hn (pc := 67) p147 k147_67 (v := .int (s.1 38)) rfl ?_
  refine r_if_ne (pc := 70) p147 k147_70 (fun c => ?_) (fun c => ?_)
  · have e := (if_neg c).symm.trans e
    exact t147_81 hn s l x1 y0 h0 h1 h2 r e
  · have e := (if_pos c).symm.trans e
    refine r_aload_n (pc := 73) p147 k147_73 h0 ?_
    refine m_get hn (pc := 74) p147 k147_74 (v := .int (s.1 20)) rfl ?_
    refine r_iconst (pc := 77) p147 k147_77 (v := (4 : Int32)) rfl ?_
    refine r_ic_ne (pc := 78) p147 k147_78 (fun c => ?_) (fun c => ?_)
    · have e := (if_neg c).symm.trans e
      refine r_iconst (pc := 85) p147 k147_85 (v := (0 : Int32)) rfl ?_
      exact t147_86 hn s l x1 y0 (0 : Int32) h0 h1 h2 r e
    · have e := (if_pos c).symm.trans e
      exact t147_81 hn s l x1 y0 h0 h1 h2 r e
def f147_25 (s : mS) (x1 : Int32) : Option (Int32 × mS) := ((f130 s).bind fun r1 => (if (r1.1 20) = (2 : Int32) then f147_64 r1 x1 (r1.1 22) else (if (r1.1 20) = (1 : Int32) then ((f148 r1 x1).bind fun r2 => f147_64 r2.2 x1 r2.1) else f147_64 r1 x1 (r1.1 33))))
theorem t147_25 {d n : Nat} {Z : Nat → ab_C} (hn : 42 ≤ n) : ∀ (s : mS) (l : ab_L) (x1 : Int32) (h0 : ab_get l 0 = some (.ref 22)) (h1 : ab_get l 1 = some (.int x1)) (r : Int32 × mS) (e : f147_25 s x1 = some r), ab_Rn (d + 5) 147 25 l [] (ab_hl n (mm_F s Z)) (.inl (some (.int r.1))) (ab_hl n (mm_F r.2 Z)) := by
  intro s l x1 h0 h1 r e
  unfold f147_25 at e
  refine r_aload_n (pc := 25) p147 k147_25 h0 ?_
  obtain ⟨r1, er1, e⟩ := of_bind e
  refine m_cv hn (pc := 26) p147 k147_26 rfl p130 (r := []) rfl rfl rfl rfl rfl (t130 hn s r1 er1) (w := []) rfl ?_
  refine r_aload_n (pc := 29) p147 k147_29 h0 ?_
  refine m_get hn (pc := 30) p147 k147_30 (v := .int (r1.1 20)) rfl ?_
  refine r_iconst (pc := 33) p147 k147_33 (v := (2 : Int32)) rfl ?_
  refine r_ic_ne (pc := 34) p147 k147_34 (fun c => ?_) (fun c => ?_)
  · have e := (if_neg c).symm.trans e
    refine r_aload_n (pc := 44) p147 k147_44 h0 ?_
    refine m_get hn (pc := 45) p147 k147_45 (v := .int (r1.1 20)) rfl ?_
    refine r_iconst (pc := 48) p147 k147_48 (v := (1 : Int32)) rfl ?_
    refine r_ic_ne (pc := 49) p147 k147_49 (fun c => ?_) (fun c => ?_)
    · have e := (if_neg c).symm.trans e
      refine r_aload_n (pc := 60) p147 k147_60 h0 ?_
      refine m_get hn (pc := 61) p147 k147_61 (v := .int (r1.1 33)) rfl ?_
      exact t147_64 hn r1 l x1 (r1.1 33) h0 h1 r e
    · have e := (if_pos c).symm.trans e
      refine r_aload_n (pc := 52) p147 k147_52 h0 ?_
      refine r_iload_n (pc := 53) p147 k147_53 h1 ?_
      obtain ⟨r2, er2, e⟩ := of_bind e
      refine m_cv hn (pc := 54) p147 k147_54 rfl p148 (r := []) rfl rfl rfl rfl rfl (t148 hn r1 x1 r2 er2) (w := [.int r2.1]) rfl ?_
      refine r_goto (pc := 57) p147 k147_57 ?_
      exact t147_64 hn r2.2 l x1 r2.1 h0 h1 r e
  · have e := (if_pos c).symm.trans e
    refine r_aload_n (pc := 37) p147 k147_37 h0 ?_
    refine m_get hn (pc := 38) p147 k147_38 (v := .int (r1.1 22)) rfl ?_
    refine r_goto (pc := 41) p147 k147_41 ?_
    exact t147_64 hn r1 l x1 (r1.1 22) h0 h1 r e
def f147_164 (s : mS) : Option (Int32 × mS) := ((f153 s (s.1 22)).bind fun r1 => ((f117 r1).bind fun r2 => some ((0 : Int32), r2)))
theorem t147_164 {d n : Nat} {Z : Nat → ab_C} (hn : 42 ≤ n) : ∀ (s : mS) (l : ab_L)  (h0 : ab_get l 0 = some (.ref 22)) (r : Int32 × mS) (e : f147_164 s  = some r), ab_Rn (d + 5) 147 164 l [] (ab_hl n (mm_F s Z)) (.inl (some (.int r.1))) (ab_hl n (mm_F r.2 Z)) := by
  intro s l h0 r e
  unfold f147_164 at e
  refine r_aload_n (pc := 164) p147 k147_164 h0 ?_
  refine r_aload_n (pc := 165) p147 k147_165 h0 ?_
  refine m_get hn (pc := 166) p147 k147_166 (v := .int (s.1 22)) rfl ?_
  obtain ⟨r1, er1, e⟩ := of_bind e
  refine m_cv hn (pc := 169) p147 k147_169 rfl p153 (r := []) rfl rfl rfl rfl rfl (t153 hn s (s.1 22) r1 er1) (w := []) rfl ?_
  refine r_aload_n (pc := 172) p147 k147_172 h0 ?_
  obtain ⟨r2, er2, e⟩ := of_bind e
  refine m_cv hn (pc := 173) p147 k147_173 rfl p117 (r := []) rfl rfl rfl rfl rfl (t117 hn r1 r2 er2) (w := []) rfl ?_
  refine r_goto (pc := 176) p147 k147_176 ?_
  refine r_iconst (pc := 340) p147 k147_340 (v := (0 : Int32)) rfl ?_
  cases e
  exact r_retZ (pc := 341) p147 k147_341 rfl (Or.inl rfl)
def f147_328 (s : mS) : Option (Int32 × mS) := some ((0 : Int32), s)
theorem t147_328 {d n : Nat} {Z : Nat → ab_C} (hn : 42 ≤ n) : ∀ (s : mS) (l : ab_L)   (r : Int32 × mS) (e : f147_328 s  = some r), ab_Rn (d + 5) 147 328 l [] (ab_hl n (mm_F s Z)) (.inl (some (.int r.1))) (ab_hl n (mm_F r.2 Z)) := by
  intro s l r e
  unfold f147_328 at e
  refine r_goto (pc := 328) p147 k147_328 ?_
  refine r_iconst (pc := 340) p147 k147_340 (v := (0 : Int32)) rfl ?_
  cases e
  exact r_retZ (pc := 341) p147 k147_341 rfl (Or.inl rfl)
def f147_325 (s : mS) (y0 : Int32) : Option (Int32 × mS) := ((f155 s y0).bind fun r1 => f147_328 r1)
theorem t147_325 {d n : Nat} {Z : Nat → ab_C} (hn : 42 ≤ n) : ∀ (s : mS) (l : ab_L) (y0 : Int32)  (r : Int32 × mS) (e : f147_325 s y0 = some r), ab_Rn (d + 5) 147 325 l [.int y0, .ref 22] (ab_hl n (mm_F s Z)) (.inl (some (.int r.1))) (ab_hl n (mm_F r.2 Z)) := by
  intro s l y0 r e
  unfold f147_325 at e
  obtain ⟨r1, er1, e⟩ := of_bind e
  refine m_cv hn (pc := 325) p147 k147_325 rfl p155 (r := []) rfl rfl rfl rfl rfl (t155 hn s y0 r1 er1) (w := []) rfl ?_
  exact t147_328 hn r1 l r e
def f147_290 (s : mS) (x2 : Int64) : Option (Int32 × mS) := (if (f142 s (40 : Int32)) = 0 then ((f131 s (1 : Int32) (s.1 21)).bind fun r1 => f147_328 r1) else (if (lg_cmp x2 (26729 : Int64)) = 0 then f147_325 s (2 : Int32) else f147_325 s (3 : Int32)))
theorem t147_290 {d n : Nat} {Z : Nat → ab_C} (hn : 42 ≤ n) : ∀ (s : mS) (l : ab_L) (x2 : Int64) (h0 : ab_get l 0 = some (.ref 22)) (h2 : ab_get l 2 = some (.long x2)) (r : Int32 × mS) (e : f147_290 s x2 = some r), ab_Rn (d + 5) 147 290 l [] (ab_hl n (mm_F s Z)) (.inl (some (.int r.1))) (ab_hl n (mm_F r.2 Z)) := by
  intro s l x2 h0 h2 r e
  unfold f147_290 at e
  refine r_aload_n (pc := 290) p147 k147_290 h0 ?_
  refine r_bipush (pc := 291) p147 k147_291 (v := (40 : Int32)) rfl ?_
  refine m_cv hn (pc := 293) p147 k147_293 rfl p142 (r := []) rfl rfl rfl rfl rfl (t142 hn s (40 : Int32) _ rfl) (w := [.int (f142 s (40 : Int32))]) rfl ?_
  refine r_if_ne (pc := 296) p147 k147_296 (fun c => ?_) (fun c => ?_)
  · have e := (if_neg c).symm.trans e
    refine r_aload_n (pc := 311) p147 k147_311 h0 ?_
    refine r_lload_n (pc := 312) p147 k147_312 h2 ?_
    refine r_ldcL (pc := 313) p147 k147_313 (v := (26729 : Int64)) rfl ?_
    refine r_lcmp (pc := 316) p147 k147_316 ?_
    refine r_if_ne (pc := 317) p147 k147_317 (fun c => ?_) (fun c => ?_)
    · have e := (if_neg c).symm.trans e
      refine r_iconst (pc := 324) p147 k147_324 (v := (3 : Int32)) rfl ?_
      exact t147_325 hn s l (3 : Int32) r e
    · have e := (if_pos c).symm.trans e
      refine r_iconst (pc := 320) p147 k147_320 (v := (2 : Int32)) rfl ?_
      refine r_goto (pc := 321) p147 k147_321 ?_
      exact t147_325 hn s l (2 : Int32) r e
  · have e := (if_pos c).symm.trans e
    refine r_aload_n (pc := 299) p147 k147_299 h0 ?_
    refine r_iconst (pc := 300) p147 k147_300 (v := (1 : Int32)) rfl ?_
    refine r_aload_n (pc := 301) p147 k147_301 h0 ?_
    refine m_get hn (pc := 302) p147 k147_302 (v := .int (s.1 21)) rfl ?_
    obtain ⟨r1, er1, e⟩ := of_bind e
    refine m_cv hn (pc := 305) p147 k147_305 rfl p131 (r := []) rfl rfl rfl rfl rfl (t131 hn s (1 : Int32) (s.1 21) r1 er1) (w := []) rfl ?_
    refine r_goto (pc := 308) p147 k147_308 ?_
    exact t147_328 hn r1 l r e
def f147_286 (s : mS) (x2 : Int64) : Option (Int32 × mS) := ((f117 s).bind fun r1 => f147_290 r1 x2)
theorem t147_286 {d n : Nat} {Z : Nat → ab_C} (hn : 42 ≤ n) : ∀ (s : mS) (l : ab_L) (x2 : Int64) (h0 : ab_get l 0 = some (.ref 22)) (h2 : ab_get l 2 = some (.long x2)) (r : Int32 × mS) (e : f147_286 s x2 = some r), ab_Rn (d + 5) 147 286 l [] (ab_hl n (mm_F s Z)) (.inl (some (.int r.1))) (ab_hl n (mm_F r.2 Z)) := by
  intro s l x2 h0 h2 r e
  unfold f147_286 at e
  refine r_aload_n (pc := 286) p147 k147_286 h0 ?_
  obtain ⟨r1, er1, e⟩ := of_bind e
  refine m_cv hn (pc := 287) p147 k147_287 rfl p117 (r := []) rfl rfl rfl rfl rfl (t117 hn s r1 er1) (w := []) rfl ?_
  exact t147_290 hn r1 l x2 h0 h2 r e
def f147_257 (s : mS) (y0 : Int64) : Option (Int32 × mS) := (if (lg_cmp y0 (26729 : Int64)) = 0 then f147_286 s y0 else (if (lg_cmp y0 (27759 : Int64)) = 0 then f147_286 s y0 else ((f131 s (1 : Int32) (s.1 21)).bind fun r1 => f147_290 r1 y0)))
theorem t147_257 {d n : Nat} {Z : Nat → ab_C} (hn : 42 ≤ n) : ∀ (s : mS) (l : ab_L) (y0 : Int64) (h0 : ab_get l 0 = some (.ref 22)) (r : Int32 × mS) (e : f147_257 s y0 = some r), ab_Rn (d + 5) 147 257 l [.long y0] (ab_hl n (mm_F s Z)) (.inl (some (.int r.1))) (ab_hl n (mm_F r.2 Z)) := by
  intro s l y0 h0 r e
  unfold f147_257 at e
  refine r_lstore_n (pc := 257) p147 k147_257 (by decide) (fun l g h2 => ?_)
  have h0 := g 0 _ (by decide) (by decide) h0 (Or.inl rfl)
  refine r_lload_n (pc := 258) p147 k147_258 h2 ?_
  refine r_ldcL (pc := 259) p147 k147_259 (v := (26729 : Int64)) rfl ?_
  refine r_lcmp (pc := 262) p147 k147_262 ?_
  refine r_if_eq (pc := 263) p147 k147_263 (fun c => ?_) (fun c => ?_)
  · have e := (if_pos c).symm.trans e
    exact t147_286 hn s l y0 h0 h2 r e
  · have e := (if_neg c).symm.trans e
    refine r_lload_n (pc := 266) p147 k147_266 h2 ?_
    refine r_ldcL (pc := 267) p147 k147_267 (v := (27759 : Int64)) rfl ?_
    refine r_lcmp (pc := 270) p147 k147_270 ?_
    refine r_if_eq (pc := 271) p147 k147_271 (fun c => ?_) (fun c => ?_)
    · have e := (if_pos c).symm.trans e
      exact t147_286 hn s l y0 h0 h2 r e
    · have e := (if_neg c).symm.trans e
      refine r_aload_n (pc := 274) p147 k147_274 h0 ?_
      refine r_iconst (pc := 275) p147 k147_275 (v := (1 : Int32)) rfl ?_
      refine r_aload_n (pc := 276) p147 k147_276 h0 ?_
      refine m_get hn (pc := 277) p147 k147_277 (v := .int (s.1 21)) rfl ?_
      obtain ⟨r1, er1, e⟩ := of_bind e
      refine m_cv hn (pc := 280) p147 k147_280 rfl p131 (r := []) rfl rfl rfl rfl rfl (t131 hn s (1 : Int32) (s.1 21) r1 er1) (w := []) rfl ?_
      refine r_goto (pc := 283) p147 k147_283 ?_
      exact t147_290 hn r1 l y0 h0 h2 r e
def f147_256 (s : mS) : Option (Int32 × mS) := f147_257 s (0 : Int64)
theorem t147_256 {d n : Nat} {Z : Nat → ab_C} (hn : 42 ≤ n) : ∀ (s : mS) (l : ab_L)  (h0 : ab_get l 0 = some (.ref 22)) (r : Int32 × mS) (e : f147_256 s  = some r), ab_Rn (d + 5) 147 256 l [] (ab_hl n (mm_F s Z)) (.inl (some (.int r.1))) (ab_hl n (mm_F r.2 Z)) := by
  intro s l h0 r e
  unfold f147_256 at e
  refine r_lconst (pc := 256) p147 k147_256 (v := (0 : Int64)) rfl ?_
  exact t147_257 hn s l (0 : Int64) h0 r e
def f147_221 (s : mS) : Option (Int32 × mS) := (if (s.1 11) = 0 then (if (s.1 20) = (1 : Int32) then ((f136 s (s.1 21) ((s.1 18) - (s.1 21))).bind fun r1 => f147_257 s r1) else f147_256 s) else f147_256 s)
theorem t147_221 {d n : Nat} {Z : Nat → ab_C} (hn : 42 ≤ n) : ∀ (s : mS) (l : ab_L)  (h0 : ab_get l 0 = some (.ref 22)) (r : Int32 × mS) (e : f147_221 s  = some r), ab_Rn (d + 5) 147 221 l [] (ab_hl n (mm_F s Z)) (.inl (some (.int r.1))) (ab_hl n (mm_F r.2 Z)) := by
  intro s l h0 r e
  unfold f147_221 at e
  refine r_aload_n (pc := 221) p147 k147_221 h0 ?_
  refine m_get hn (pc := 222) p147 k147_222 (v := .int (s.1 11)) rfl ?_
  refine r_if_ne (pc := 225) p147 k147_225 (fun c => ?_) (fun c => ?_)
  · have e := (if_neg c).symm.trans e
    exact t147_256 hn s l h0 r e
  · have e := (if_pos c).symm.trans e
    refine r_aload_n (pc := 228) p147 k147_228 h0 ?_
    refine m_get hn (pc := 229) p147 k147_229 (v := .int (s.1 20)) rfl ?_
    refine r_iconst (pc := 232) p147 k147_232 (v := (1 : Int32)) rfl ?_
    refine r_ic_ne (pc := 233) p147 k147_233 (fun c => ?_) (fun c => ?_)
    · have e := (if_neg c).symm.trans e
      exact t147_256 hn s l h0 r e
    · have e := (if_pos c).symm.trans e
      refine r_aload_n (pc := 236) p147 k147_236 h0 ?_
      refine r_aload_n (pc := 237) p147 k147_237 h0 ?_
      refine m_get hn (pc := 238) p147 k147_238 (v := .int (s.1 21)) rfl ?_
      refine r_aload_n (pc := 241) p147 k147_241 h0 ?_
      refine m_get hn (pc := 242) p147 k147_242 (v := .int (s.1 18)) rfl ?_
      refine r_aload_n (pc := 245) p147 k147_245 h0 ?_
      refine m_get hn (pc := 246) p147 k147_246 (v := .int (s.1 21)) rfl ?_
      refine r_isub (pc := 249) p147 k147_249 ?_
      obtain ⟨r1, er1, e⟩ := of_bind e
      refine m_cv hn (pc := 250) p147 k147_250 rfl p136 (r := []) rfl rfl rfl rfl rfl (t136 hn s (s.1 21) ((s.1 18) - (s.1 21)) r1 er1) (w := [.long r1]) rfl ?_
      refine r_goto (pc := 253) p147 k147_253 ?_
      exact t147_257 hn s l r1 h0 r e
def f147 (s : mS) (x1 : Int32) : Option (Int32 × mS) := (if (s.1 20) = (2 : Int32) then f147_25 s x1 else (if (s.1 20) = (1 : Int32) then f147_25 s x1 else (if (f142 s (46 : Int32)) = 0 then (if (f142 s (45 : Int32)) = 0 then (if (f142 s (43 : Int32)) = 0 then (if (f142 s (126 : Int32)) = 0 then (if (f142 s (40 : Int32)) = 0 then (if (f142 s (37 : Int32)) = 0 then ((f131 s (1 : Int32) (s.1 21)).bind fun r1 => some ((0 : Int32), r1)) else ((f117 s).bind fun r1 => (if (r1.1 20) = (1 : Int32) then ((f130 r1).bind fun r2 => f147_221 r2) else f147_221 r1))) else ((f155 s (1 : Int32)).bind fun r1 => some ((0 : Int32), r1))) else f147_164 s) else f147_164 s) else f147_164 s) else f147_25 s x1)))
theorem t147 {d n : Nat} {Z : Nat → ab_C} (hn : 42 ≤ n) (s : mS) (x1 : Int32) (r : Int32 × mS) (e : f147 s x1 = some r) : ab_Rn (d + 5) 147 0 (lv_args 0 [.ref 22, .int x1]) [] (ab_hl n (mm_F s Z)) (.inl (some (.int r.1))) (ab_hl n (mm_F r.2 Z)) := by
  unfold f147 at e
  obtain ⟨l, hl⟩ : ∃ l, l = (lv_args 0 [.ref 22, .int x1]) := ⟨_, rfl⟩
  rw [← hl]
  have h0 : ab_get l 0 = some (.ref 22) := by rw [hl]; rfl
  have h1 : ab_get l 1 = some (.int x1) := by rw [hl]; rfl
  refine r_aload_n (pc := 0) p147 k147_0 h0 ?_
  refine m_get hn (pc := 1) p147 k147_1 (v := .int (s.1 20)) rfl ?_
  refine r_iconst (pc := 4) p147 k147_4 (v := (2 : Int32)) rfl ?_
  refine r_ic_eq (pc := 5) p147 k147_5 (fun c => ?_) (fun c => ?_)
  · have e := (if_pos c).symm.trans e
    exact t147_25 hn s l x1 h0 h1 r e
  · have e := (if_neg c).symm.trans e
    refine r_aload_n (pc := 8) p147 k147_8 h0 ?_
    refine m_get hn (pc := 9) p147 k147_9 (v := .int (s.1 20)) rfl ?_
    refine r_iconst (pc := 12) p147 k147_12 (v := (1 : Int32)) rfl ?_
    refine r_ic_eq (pc := 13) p147 k147_13 (fun c => ?_) (fun c => ?_)
    · have e := (if_pos c).symm.trans e
      exact t147_25 hn s l x1 h0 h1 r e
    · have e := (if_neg c).symm.trans e
      refine r_aload_n (pc := 16) p147 k147_16 h0 ?_
      refine r_bipush (pc := 17) p147 k147_17 (v := (46 : Int32)) rfl ?_
      refine m_cv hn (pc := 19) p147 k147_19 rfl p142 (r := []) rfl rfl rfl rfl rfl (t142 hn s (46 : Int32) _ rfl) (w := [.int (f142 s (46 : Int32))]) rfl ?_
      refine r_if_eq (pc := 22) p147 k147_22 (fun c => ?_) (fun c => ?_)
      · have e := (if_pos c).symm.trans e
        refine r_aload_n (pc := 137) p147 k147_137 h0 ?_
        refine r_bipush (pc := 138) p147 k147_138 (v := (45 : Int32)) rfl ?_
        refine m_cv hn (pc := 140) p147 k147_140 rfl p142 (r := []) rfl rfl rfl rfl rfl (t142 hn s (45 : Int32) _ rfl) (w := [.int (f142 s (45 : Int32))]) rfl ?_
        refine r_if_ne (pc := 143) p147 k147_143 (fun c => ?_) (fun c => ?_)
        · have e := (if_neg c).symm.trans e
          exact t147_164 hn s l h0 r e
        · have e := (if_pos c).symm.trans e
          refine r_aload_n (pc := 146) p147 k147_146 h0 ?_
          refine r_bipush (pc := 147) p147 k147_147 (v := (43 : Int32)) rfl ?_
          refine m_cv hn (pc := 149) p147 k147_149 rfl p142 (r := []) rfl rfl rfl rfl rfl (t142 hn s (43 : Int32) _ rfl) (w := [.int (f142 s (43 : Int32))]) rfl ?_
          refine r_if_ne (pc := 152) p147 k147_152 (fun c => ?_) (fun c => ?_)
          · have e := (if_neg c).symm.trans e
            exact t147_164 hn s l h0 r e
          · have e := (if_pos c).symm.trans e
            refine r_aload_n (pc := 155) p147 k147_155 h0 ?_
            refine r_bipush (pc := 156) p147 k147_156 (v := (126 : Int32)) rfl ?_
            refine m_cv hn (pc := 158) p147 k147_158 rfl p142 (r := []) rfl rfl rfl rfl rfl (t142 hn s (126 : Int32) _ rfl) (w := [.int (f142 s (126 : Int32))]) rfl ?_
            refine r_if_eq (pc := 161) p147 k147_161 (fun c => ?_) (fun c => ?_)
            · have e := (if_pos c).symm.trans e
              refine r_aload_n (pc := 179) p147 k147_179 h0 ?_
              refine r_bipush (pc := 180) p147 k147_180 (v := (40 : Int32)) rfl ?_
              refine m_cv hn (pc := 182) p147 k147_182 rfl p142 (r := []) rfl rfl rfl rfl rfl (t142 hn s (40 : Int32) _ rfl) (w := [.int (f142 s (40 : Int32))]) rfl ?_
              refine r_if_eq (pc := 185) p147 k147_185 (fun c => ?_) (fun c => ?_)
              · have e := (if_pos c).symm.trans e
                refine r_aload_n (pc := 196) p147 k147_196 h0 ?_
                refine r_bipush (pc := 197) p147 k147_197 (v := (37 : Int32)) rfl ?_
                refine m_cv hn (pc := 199) p147 k147_199 rfl p142 (r := []) rfl rfl rfl rfl rfl (t142 hn s (37 : Int32) _ rfl) (w := [.int (f142 s (37 : Int32))]) rfl ?_
                refine r_if_eq (pc := 202) p147 k147_202 (fun c => ?_) (fun c => ?_)
                · have e := (if_pos c).symm.trans e
                  refine r_aload_n (pc := 331) p147 k147_331 h0 ?_
                  refine r_iconst (pc := 332) p147 k147_332 (v := (1 : Int32)) rfl ?_
                  refine r_aload_n (pc := 333) p147 k147_333 h0 ?_
                  refine m_get hn (pc := 334) p147 k147_334 (v := .int (s.1 21)) rfl ?_
                  obtain ⟨r1, er1, e⟩ := of_bind e
                  refine m_cv hn (pc := 337) p147 k147_337 rfl p131 (r := []) rfl rfl rfl rfl rfl (t131 hn s (1 : Int32) (s.1 21) r1 er1) (w := []) rfl ?_
                  refine r_iconst (pc := 340) p147 k147_340 (v := (0 : Int32)) rfl ?_
                  cases e
                  exact r_retZ (pc := 341) p147 k147_341 rfl (Or.inl rfl)
                · have e := (if_neg c).symm.trans e
                  refine r_aload_n (pc := 205) p147 k147_205 h0 ?_
                  obtain ⟨r1, er1, e⟩ := of_bind e
                  refine m_cv hn (pc := 206) p147 k147_206 rfl p117 (r := []) rfl rfl rfl rfl rfl (t117 hn s r1 er1) (w := []) rfl ?_
                  refine r_aload_n (pc := 209) p147 k147_209 h0 ?_
                  refine m_get hn (pc := 210) p147 k147_210 (v := .int (r1.1 20)) rfl ?_
                  refine r_iconst (pc := 213) p147 k147_213 (v := (1 : Int32)) rfl ?_
                  refine r_ic_ne (pc := 214) p147 k147_214 (fun c => ?_) (fun c => ?_)
                  · have e := (if_neg c).symm.trans e
                    exact t147_221 hn r1 l h0 r e
                  · have e := (if_pos c).symm.trans e
                    refine r_aload_n (pc := 217) p147 k147_217 h0 ?_
                    obtain ⟨r2, er2, e⟩ := of_bind e
                    refine m_cv hn (pc := 218) p147 k147_218 rfl p130 (r := []) rfl rfl rfl rfl rfl (t130 hn r1 r2 er2) (w := []) rfl ?_
                    exact t147_221 hn r2 l h0 r e
              · have e := (if_neg c).symm.trans e
                refine r_aload_n (pc := 188) p147 k147_188 h0 ?_
                refine r_iconst (pc := 189) p147 k147_189 (v := (1 : Int32)) rfl ?_
                obtain ⟨r1, er1, e⟩ := of_bind e
                refine m_cv hn (pc := 190) p147 k147_190 rfl p155 (r := []) rfl rfl rfl rfl rfl (t155 hn s (1 : Int32) r1 er1) (w := []) rfl ?_
                refine r_goto (pc := 193) p147 k147_193 ?_
                refine r_iconst (pc := 340) p147 k147_340 (v := (0 : Int32)) rfl ?_
                cases e
                exact r_retZ (pc := 341) p147 k147_341 rfl (Or.inl rfl)
            · have e := (if_neg c).symm.trans e
              exact t147_164 hn s l h0 r e
      · have e := (if_neg c).symm.trans e
        exact t147_25 hn s l x1 h0 h1 r e
