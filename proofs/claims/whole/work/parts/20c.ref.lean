theorem p136 : ab_prog[136]? = some (ab_m136, ab_c136) := rfl
theorem k136_0 : ab_fetch ab_c136 0 = some (.lconst 0, 1, 0, 0) := rfl
theorem k136_1 : ab_fetch ab_c136 1 = some (.lstore_n 3, 1, 0, 0) := rfl
theorem k136_2 : ab_fetch ab_c136 2 = some (.iconst 0, 1, 0, 0) := rfl
theorem k136_3 : ab_fetch ab_c136 3 = some (.istore 5, 2, 0, 0) := rfl
theorem k136_5 : ab_fetch ab_c136 5 = some (.iload 5, 2, 0, 0) := rfl
theorem k136_7 : ab_fetch ab_c136 7 = some (.iload_n 2, 1, 0, 0) := rfl
theorem k136_8 : ab_fetch ab_c136 8 = some (.if_icmp .ge 35, 3, 43, 0) := rfl
theorem k136_11 : ab_fetch ab_c136 11 = some (.iload_n 2, 1, 0, 0) := rfl
theorem k136_12 : ab_fetch ab_c136 12 = some (.bipush 9, 2, 0, 0) := rfl
theorem k136_14 : ab_fetch ab_c136 14 = some (.if_icmp .ge 29, 3, 43, 0) := rfl
theorem k136_17 : ab_fetch ab_c136 17 = some (.lload_n 3, 1, 0, 0) := rfl
theorem k136_18 : ab_fetch ab_c136 18 = some (.bipush 8, 2, 0, 0) := rfl
theorem k136_20 : ab_fetch ab_c136 20 = some (.lshl, 1, 0, 0) := rfl
theorem k136_21 : ab_fetch ab_c136 21 = some (.aload_n 0, 1, 0, 0) := rfl
theorem k136_22 : ab_fetch ab_c136 22 = some (.getfield 253, 3, 6, 4) := rfl
theorem k136_25 : ab_fetch ab_c136 25 = some (.iload_n 1, 1, 0, 0) := rfl
theorem k136_26 : ab_fetch ab_c136 26 = some (.iload 5, 2, 0, 0) := rfl
theorem k136_28 : ab_fetch ab_c136 28 = some (.iadd, 1, 0, 0) := rfl
theorem k136_29 : ab_fetch ab_c136 29 = some (.baload, 1, 0, 0) := rfl
theorem k136_30 : ab_fetch ab_c136 30 = some (.sipush 255, 3, 0, 0) := rfl
theorem k136_33 : ab_fetch ab_c136 33 = some (.iand, 1, 0, 0) := rfl
theorem k136_34 : ab_fetch ab_c136 34 = some (.i2l, 1, 0, 0) := rfl
theorem k136_35 : ab_fetch ab_c136 35 = some (.lor, 1, 0, 0) := rfl
theorem k136_36 : ab_fetch ab_c136 36 = some (.lstore_n 3, 1, 0, 0) := rfl
theorem k136_37 : ab_fetch ab_c136 37 = some (.iinc 5 1, 3, 0, 0) := rfl
theorem k136_40 : ab_fetch ab_c136 40 = some (.goto (-35), 3, 5, 0) := rfl
theorem k136_43 : ab_fetch ab_c136 43 = some (.lload_n 3, 1, 0, 0) := rfl
theorem k136_44 : ab_fetch ab_c136 44 = some (.lreturn, 1, 0, 0) := rfl
/- CodeSmithModel packed(II)J -/
def f136_43 (s : mS) (x3 : Int64) : Option Int64 := some x3
theorem t136_43 {d n : Nat} {Z : Nat → ab_C} (hn : 42 ≤ n) : ∀ (s : mS) (l : ab_L) (x3 : Int64) (h3 : ab_get l 3 = some (.long x3)) (r : Int64) (e : f136_43 s x3 = some r), ab_Rn d 136 43 l [] (ab_hl n (mm_F s Z)) (.inl (some (.long r))) (ab_hl n (mm_F s Z)) := by
  intro s l x3 h3 r e
  unfold f136_43 at e
  refine r_lload_n (pc := 43) p136 k136_43 h3 ?_
  cases e
  exact r_retJ (pc := 44) p136 k136_44 rfl
def f136_5 : Nat → mS → Int32 → Int32 → Int64 → Int32 → Option Int64
  | 0, _, _, _, _, _ => none
  | u + 1, s, x1, x2, x3, x5 => (if x2 ≤ x5 then f136_43 s x3 else (if (9 : Int32) ≤ x2 then f136_43 s x3 else if ib (x1 + x5) 65536 then f136_5 u s x1 x2 ((x3 <<< ((8 : Int32).toInt64 &&& 63)) ||| (((s.2 4) (x1 + x5).toNatClampNeg) &&& (255 : Int32)).toInt64) (x5 + (1 : Int32)) else none))
theorem t136_5 {d n : Nat} {Z : Nat → ab_C} (hn : 42 ≤ n) : ∀ u : Nat, ∀ (s : mS) (l : ab_L) (x1 : Int32) (x2 : Int32) (x3 : Int64) (x5 : Int32) (h0 : ab_get l 0 = some (.ref 22)) (h1 : ab_get l 1 = some (.int x1)) (h2 : ab_get l 2 = some (.int x2)) (h3 : ab_get l 3 = some (.long x3)) (h5 : ab_get l 5 = some (.int x5)) (r : Int64) (e : f136_5 u s x1 x2 x3 x5 = some r), ab_Rn d 136 5 l [] (ab_hl n (mm_F s Z)) (.inl (some (.long r))) (ab_hl n (mm_F s Z)) := by
  intro u
  induction u with
  | zero => intro s l x1 x2 x3 x5 h0 h1 h2 h3 h5 r e; rw [f136_5] at e; cases e
  | succ u ih =>
    intro s l x1 x2 x3 x5 h0 h1 h2 h3 h5 r e
    rw [f136_5] at e
    refine r_iload (pc := 5) p136 k136_5 h5 ?_
    refine r_iload_n (pc := 7) p136 k136_7 h2 ?_
    refine r_ic_ge (pc := 8) p136 k136_8 (fun c => ?_) (fun c => ?_)
    · have e := (if_pos c).symm.trans e
      exact t136_43 hn s l x3 h3 r e
    · have e := (if_neg c).symm.trans e
      refine r_iload_n (pc := 11) p136 k136_11 h2 ?_
      refine r_bipush (pc := 12) p136 k136_12 (v := (9 : Int32)) rfl ?_
      refine r_ic_ge (pc := 14) p136 k136_14 (fun c => ?_) (fun c => ?_)
      · have e := (if_pos c).symm.trans e
        exact t136_43 hn s l x3 h3 r e
      · have e := (if_neg c).symm.trans e
        refine r_lload_n (pc := 17) p136 k136_17 h3 ?_
        refine r_bipush (pc := 18) p136 k136_18 (v := (8 : Int32)) rfl ?_
        refine r_lshl (pc := 20) p136 k136_20 ?_
        refine r_aload_n (pc := 21) p136 k136_21 h0 ?_
        refine m_get hn (pc := 22) p136 k136_22 (v := .ref 26) rfl ?_
        refine r_iload_n (pc := 25) p136 k136_25 h1 ?_
        refine r_iload (pc := 26) p136 k136_26 h5 ?_
        refine r_iadd (pc := 28) p136 k136_28 ?_
        obtain ⟨c, e⟩ := of_if e
        refine r_bald (pc := 29) p136 k136_29 (m_lt hn rfl) (f := (s.2 4)) rfl c ?_
        refine r_sipush (pc := 30) p136 k136_30 (v := (255 : Int32)) rfl ?_
        refine r_iand (pc := 33) p136 k136_33 ?_
        refine r_i2l (pc := 34) p136 k136_34 ?_
        refine r_lor (pc := 35) p136 k136_35 ?_
        refine r_lstore_n (pc := 36) p136 k136_36 (by decide) (fun l g h3 => ?_)
        have h0 := g 0 _ (by decide) (by decide) h0 (Or.inl rfl)
        have h1 := g 1 _ (by decide) (by decide) h1 (Or.inl rfl)
        have h2 := g 2 _ (by decide) (by decide) h2 (Or.inl rfl)
        have h5 := g 5 _ (by decide) (by decide) h5 (Or.inl rfl)
        refine r_iinc (pc := 37) p136 k136_37 h5 (by decide) (v := (x5 + (1 : Int32))) rfl (fun l g h5 => ?_)
        have h0 := g 0 _ (by decide) h0 (Or.inl rfl)
        have h1 := g 1 _ (by decide) h1 (Or.inl rfl)
        have h2 := g 2 _ (by decide) h2 (Or.inl rfl)
        have h3 := g 3 _ (by decide) h3 (Or.inr (by decide))
        refine r_goto (pc := 40) p136 k136_40 ?_
        exact ih s l x1 x2 ((x3 <<< ((8 : Int32).toInt64 &&& 63)) ||| (((s.2 4) (x1 + x5).toNatClampNeg) &&& (255 : Int32)).toInt64) (x5 + (1 : Int32)) h0 h1 h2 h3 h5 r e
def f136 (s : mS) (x1 : Int32) (x2 : Int32) : Option Int64 := f136_5 mm_U s x1 x2 (0 : Int64) (0 : Int32)
theorem t136 {d n : Nat} {Z : Nat → ab_C} (hn : 42 ≤ n) (s : mS) (x1 : Int32) (x2 : Int32) (r : Int64) (e : f136 s x1 x2 = some r) : ab_Rn d 136 0 (lv_args 0 [.ref 22, .int x1, .int x2]) [] (ab_hl n (mm_F s Z)) (.inl (some (.long r))) (ab_hl n (mm_F s Z)) := by
  unfold f136 at e
  obtain ⟨l, hl⟩ : ∃ l, l = (lv_args 0 [.ref 22, .int x1, .int x2]) := ⟨_, rfl⟩
  rw [← hl]
  have h0 : ab_get l 0 = some (.ref 22) := by rw [hl]; rfl
  have h1 : ab_get l 1 = some (.int x1) := by rw [hl]; rfl
  have h2 : ab_get l 2 = some (.int x2) := by rw [hl]; rfl
  refine r_lconst (pc := 0) p136 k136_0 (v := (0 : Int64)) rfl ?_
  refine r_lstore_n (pc := 1) p136 k136_1 (by decide) (fun l g h3 => ?_)
  have h0 := g 0 _ (by decide) (by decide) h0 (Or.inl rfl)
  have h1 := g 1 _ (by decide) (by decide) h1 (Or.inl rfl)
  have h2 := g 2 _ (by decide) (by decide) h2 (Or.inl rfl)
  refine r_iconst (pc := 2) p136 k136_2 (v := (0 : Int32)) rfl ?_
  refine r_istore (pc := 3) p136 k136_3 (by decide) (fun l g h5 => ?_)
  have h0 := g 0 _ (by decide) h0 (Or.inl rfl)
  have h1 := g 1 _ (by decide) h1 (Or.inl rfl)
  have h2 := g 2 _ (by decide) h2 (Or.inl rfl)
  have h3 := g 3 _ (by decide) h3 (Or.inr (by decide))
  exact t136_5 hn mm_U s l x1 x2 (0 : Int64) (0 : Int32) h0 h1 h2 h3 h5 r e

theorem p135 : ab_prog[135]? = some (ab_m135, ab_c135) := rfl
theorem k135_0 : ab_fetch ab_c135 0 = some (.aload_n 1, 1, 0, 0) := rfl
theorem k135_1 : ab_fetch ab_c135 1 = some (.arraylength, 1, 0, 0) := rfl
theorem k135_2 : ab_fetch ab_c135 2 = some (.iconst 1, 1, 0, 0) := rfl
theorem k135_3 : ab_fetch ab_c135 3 = some (.isub, 1, 0, 0) := rfl
theorem k135_4 : ab_fetch ab_c135 4 = some (.istore 4, 2, 0, 0) := rfl
theorem k135_6 : ab_fetch ab_c135 6 = some (.iload 4, 2, 0, 0) := rfl
theorem k135_8 : ab_fetch ab_c135 8 = some (.ifCond .lt 23, 3, 31, 0) := rfl
theorem k135_11 : ab_fetch ab_c135 11 = some (.aload_n 1, 1, 0, 0) := rfl
theorem k135_12 : ab_fetch ab_c135 12 = some (.iload 4, 2, 0, 0) := rfl
theorem k135_14 : ab_fetch ab_c135 14 = some (.laload, 1, 0, 0) := rfl
theorem k135_15 : ab_fetch ab_c135 15 = some (.aload_n 0, 1, 0, 0) := rfl
theorem k135_16 : ab_fetch ab_c135 16 = some (.iload_n 2, 1, 0, 0) := rfl
theorem k135_17 : ab_fetch ab_c135 17 = some (.iload_n 3, 1, 0, 0) := rfl
theorem k135_18 : ab_fetch ab_c135 18 = some (.invokevirtual 390, 3, 136, 2) := rfl
theorem k135_21 : ab_fetch ab_c135 21 = some (.lcmp, 1, 0, 0) := rfl
theorem k135_22 : ab_fetch ab_c135 22 = some (.ifCond .eq 9, 3, 31, 0) := rfl
theorem k135_25 : ab_fetch ab_c135 25 = some (.iinc 4 (-1), 3, 0, 0) := rfl
theorem k135_28 : ab_fetch ab_c135 28 = some (.goto (-22), 3, 6, 0) := rfl
theorem k135_31 : ab_fetch ab_c135 31 = some (.iload 4, 2, 0, 0) := rfl
theorem k135_33 : ab_fetch ab_c135 33 = some (.ireturn, 1, 0, 0) := rfl
/- CodeSmithModel word([JII)I -/
def f135_23_6 : Nat → mS → Int32 → Int32 → Int32 → Option Int32
  | 0, _, _, _, _ => none
  | u + 1, s, x2, x3, x4 => (if x4 < 0 then some x4 else if ib x4 33 then ((f136 s x2 x3).bind fun r1 => (if (lg_cmp (mm_reg x4.toNatClampNeg) r1) = 0 then some x4 else f135_23_6 u s x2 x3 (x4 + (-1 : Int32)))) else none)
theorem t135_23_6 {d n : Nat} {Z : Nat → ab_C} (hn : 42 ≤ n) : ∀ u : Nat, ∀ (s : mS) (l : ab_L) (x2 : Int32) (x3 : Int32) (x4 : Int32) (h0 : ab_get l 0 = some (.ref 22)) (h1 : ab_get l 1 = some (.ref 23)) (h2 : ab_get l 2 = some (.int x2)) (h3 : ab_get l 3 = some (.int x3)) (h4 : ab_get l 4 = some (.int x4)) (r : Int32) (e : f135_23_6 u s x2 x3 x4 = some r), ab_Rn (d + 1) 135 6 l [] (ab_hl n (mm_F s Z)) (.inl (some (.int r))) (ab_hl n (mm_F s Z)) := by
  intro u
  induction u with
  | zero => intro s l x2 x3 x4 h0 h1 h2 h3 h4 r e; rw [f135_23_6] at e; cases e
  | succ u ih =>
    intro s l x2 x3 x4 h0 h1 h2 h3 h4 r e
    rw [f135_23_6] at e
    refine r_iload (pc := 6) p135 k135_6 h4 ?_
    refine r_if_lt (pc := 8) p135 k135_8 (fun c => ?_) (fun c => ?_)
    · have e := (if_pos c).symm.trans e
      refine r_iload (pc := 31) p135 k135_31 h4 ?_
      cases e
      exact r_retI (pc := 33) p135 k135_33 rfl
    · have e := (if_neg c).symm.trans e
      refine r_aload_n (pc := 11) p135 k135_11 h1 ?_
      refine r_iload (pc := 12) p135 k135_12 h4 ?_
      obtain ⟨c, e⟩ := of_if e
      refine r_lald (pc := 14) p135 k135_14 (m_lt hn rfl) (f := mm_reg) rfl c ?_
      refine r_aload_n (pc := 15) p135 k135_15 h0 ?_
      refine r_iload_n (pc := 16) p135 k135_16 h2 ?_
      refine r_iload_n (pc := 17) p135 k135_17 h3 ?_
      obtain ⟨r1, er1, e⟩ := of_bind e
      refine m_cv hn (pc := 18) p135 k135_18 rfl p136 (r := [.long (mm_reg x4.toNatClampNeg)]) rfl rfl rfl rfl rfl (t136 hn s x2 x3 r1 er1) (w := [.long r1, .long (mm_reg x4.toNatClampNeg)]) rfl ?_
      refine r_lcmp (pc := 21) p135 k135_21 ?_
      refine r_if_eq (pc := 22) p135 k135_22 (fun c => ?_) (fun c => ?_)
      · have e := (if_pos c).symm.trans e
        refine r_iload (pc := 31) p135 k135_31 h4 ?_
        cases e
        exact r_retI (pc := 33) p135 k135_33 rfl
      · have e := (if_neg c).symm.trans e
        refine r_iinc (pc := 25) p135 k135_25 h4 (by decide) (v := (x4 + (-1 : Int32))) rfl (fun l g h4 => ?_)
        have h0 := g 0 _ (by decide) h0 (Or.inl rfl)
        have h1 := g 1 _ (by decide) h1 (Or.inl rfl)
        have h2 := g 2 _ (by decide) h2 (Or.inl rfl)
        have h3 := g 3 _ (by decide) h3 (Or.inl rfl)
        refine r_goto (pc := 28) p135 k135_28 ?_
        exact ih s l x2 x3 (x4 + (-1 : Int32)) h0 h1 h2 h3 h4 r e
def f135_23 (s : mS) (x2 : Int32) (x3 : Int32) : Option Int32 := f135_23_6 mm_U s x2 x3 ((Int32.ofNat 33) - (1 : Int32))
theorem t135_23 {d n : Nat} {Z : Nat → ab_C} (hn : 42 ≤ n) (s : mS) (x2 : Int32) (x3 : Int32) (r : Int32) (e : f135_23 s x2 x3 = some r) : ab_Rn (d + 1) 135 0 (lv_args 0 [.ref 22, .ref 23, .int x2, .int x3]) [] (ab_hl n (mm_F s Z)) (.inl (some (.int r))) (ab_hl n (mm_F s Z)) := by
  unfold f135_23 at e
  obtain ⟨l, hl⟩ : ∃ l, l = (lv_args 0 [.ref 22, .ref 23, .int x2, .int x3]) := ⟨_, rfl⟩
  rw [← hl]
  have h0 : ab_get l 0 = some (.ref 22) := by rw [hl]; rfl
  have h1 : ab_get l 1 = some (.ref 23) := by rw [hl]; rfl
  have h2 : ab_get l 2 = some (.int x2) := by rw [hl]; rfl
  have h3 : ab_get l 3 = some (.int x3) := by rw [hl]; rfl
  refine r_aload_n (pc := 0) p135 k135_0 h1 ?_
  refine r_alen (pc := 1) p135 k135_1 (m_lt hn rfl) rfl (by decide) ?_
  refine r_iconst (pc := 2) p135 k135_2 (v := (1 : Int32)) rfl ?_
  refine r_isub (pc := 3) p135 k135_3 ?_
  refine r_istore (pc := 4) p135 k135_4 (by decide) (fun l g h4 => ?_)
  have h0 := g 0 _ (by decide) h0 (Or.inl rfl)
  have h1 := g 1 _ (by decide) h1 (Or.inl rfl)
  have h2 := g 2 _ (by decide) h2 (Or.inl rfl)
  have h3 := g 3 _ (by decide) h3 (Or.inl rfl)
  exact t135_23_6 hn mm_U s l x2 x3 ((Int32.ofNat 33) - (1 : Int32)) h0 h1 h2 h3 h4 r e
/- CodeSmithModel word([JII)I -/
def f135_24_6 : Nat → mS → Int32 → Int32 → Int32 → Option Int32
  | 0, _, _, _, _ => none
  | u + 1, s, x2, x3, x4 => (if x4 < 0 then some x4 else if ib x4 83 then ((f136 s x2 x3).bind fun r1 => (if (lg_cmp (mm_stm x4.toNatClampNeg) r1) = 0 then some x4 else f135_24_6 u s x2 x3 (x4 + (-1 : Int32)))) else none)
theorem t135_24_6 {d n : Nat} {Z : Nat → ab_C} (hn : 42 ≤ n) : ∀ u : Nat, ∀ (s : mS) (l : ab_L) (x2 : Int32) (x3 : Int32) (x4 : Int32) (h0 : ab_get l 0 = some (.ref 22)) (h1 : ab_get l 1 = some (.ref 24)) (h2 : ab_get l 2 = some (.int x2)) (h3 : ab_get l 3 = some (.int x3)) (h4 : ab_get l 4 = some (.int x4)) (r : Int32) (e : f135_24_6 u s x2 x3 x4 = some r), ab_Rn (d + 1) 135 6 l [] (ab_hl n (mm_F s Z)) (.inl (some (.int r))) (ab_hl n (mm_F s Z)) := by
  intro u
  induction u with
  | zero => intro s l x2 x3 x4 h0 h1 h2 h3 h4 r e; rw [f135_24_6] at e; cases e
  | succ u ih =>
    intro s l x2 x3 x4 h0 h1 h2 h3 h4 r e
    rw [f135_24_6] at e
    refine r_iload (pc := 6) p135 k135_6 h4 ?_
    refine r_if_lt (pc := 8) p135 k135_8 (fun c => ?_) (fun c => ?_)
    · have e := (if_pos c).symm.trans e
      refine r_iload (pc := 31) p135 k135_31 h4 ?_
      cases e
      exact r_retI (pc := 33) p135 k135_33 rfl
    · have e := (if_neg c).symm.trans e
      refine r_aload_n (pc := 11) p135 k135_11 h1 ?_
      refine r_iload (pc := 12) p135 k135_12 h4 ?_
      obtain ⟨c, e⟩ := of_if e
      refine r_lald (pc := 14) p135 k135_14 (m_lt hn rfl) (f := mm_stm) rfl c ?_
      refine r_aload_n (pc := 15) p135 k135_15 h0 ?_
      refine r_iload_n (pc := 16) p135 k135_16 h2 ?_
      refine r_iload_n (pc := 17) p135 k135_17 h3 ?_
      obtain ⟨r1, er1, e⟩ := of_bind e
      refine m_cv hn (pc := 18) p135 k135_18 rfl p136 (r := [.long (mm_stm x4.toNatClampNeg)]) rfl rfl rfl rfl rfl (t136 hn s x2 x3 r1 er1) (w := [.long r1, .long (mm_stm x4.toNatClampNeg)]) rfl ?_
      refine r_lcmp (pc := 21) p135 k135_21 ?_
      refine r_if_eq (pc := 22) p135 k135_22 (fun c => ?_) (fun c => ?_)
      · have e := (if_pos c).symm.trans e
        refine r_iload (pc := 31) p135 k135_31 h4 ?_
        cases e
        exact r_retI (pc := 33) p135 k135_33 rfl
      · have e := (if_neg c).symm.trans e
        refine r_iinc (pc := 25) p135 k135_25 h4 (by decide) (v := (x4 + (-1 : Int32))) rfl (fun l g h4 => ?_)
        have h0 := g 0 _ (by decide) h0 (Or.inl rfl)
        have h1 := g 1 _ (by decide) h1 (Or.inl rfl)
        have h2 := g 2 _ (by decide) h2 (Or.inl rfl)
        have h3 := g 3 _ (by decide) h3 (Or.inl rfl)
        refine r_goto (pc := 28) p135 k135_28 ?_
        exact ih s l x2 x3 (x4 + (-1 : Int32)) h0 h1 h2 h3 h4 r e
def f135_24 (s : mS) (x2 : Int32) (x3 : Int32) : Option Int32 := f135_24_6 mm_U s x2 x3 ((Int32.ofNat 83) - (1 : Int32))
theorem t135_24 {d n : Nat} {Z : Nat → ab_C} (hn : 42 ≤ n) (s : mS) (x2 : Int32) (x3 : Int32) (r : Int32) (e : f135_24 s x2 x3 = some r) : ab_Rn (d + 1) 135 0 (lv_args 0 [.ref 22, .ref 24, .int x2, .int x3]) [] (ab_hl n (mm_F s Z)) (.inl (some (.int r))) (ab_hl n (mm_F s Z)) := by
  unfold f135_24 at e
  obtain ⟨l, hl⟩ : ∃ l, l = (lv_args 0 [.ref 22, .ref 24, .int x2, .int x3]) := ⟨_, rfl⟩
  rw [← hl]
  have h0 : ab_get l 0 = some (.ref 22) := by rw [hl]; rfl
  have h1 : ab_get l 1 = some (.ref 24) := by rw [hl]; rfl
  have h2 : ab_get l 2 = some (.int x2) := by rw [hl]; rfl
  have h3 : ab_get l 3 = some (.int x3) := by rw [hl]; rfl
  refine r_aload_n (pc := 0) p135 k135_0 h1 ?_
  refine r_alen (pc := 1) p135 k135_1 (m_lt hn rfl) rfl (by decide) ?_
  refine r_iconst (pc := 2) p135 k135_2 (v := (1 : Int32)) rfl ?_
  refine r_isub (pc := 3) p135 k135_3 ?_
  refine r_istore (pc := 4) p135 k135_4 (by decide) (fun l g h4 => ?_)
  have h0 := g 0 _ (by decide) h0 (Or.inl rfl)
  have h1 := g 1 _ (by decide) h1 (Or.inl rfl)
  have h2 := g 2 _ (by decide) h2 (Or.inl rfl)
  have h3 := g 3 _ (by decide) h3 (Or.inl rfl)
  exact t135_24_6 hn mm_U s l x2 x3 ((Int32.ofNat 83) - (1 : Int32)) h0 h1 h2 h3 h4 r e

theorem p134 : ab_prog[134]? = some (ab_m134, ab_c134) := rfl
theorem k134_0 : ab_fetch ab_c134 0 = some (.aload_n 0, 1, 0, 0) := rfl
theorem k134_1 : ab_fetch ab_c134 1 = some (.aload_n 0, 1, 0, 0) := rfl
theorem k134_2 : ab_fetch ab_c134 2 = some (.getfield 73, 3, 6, 0) := rfl
theorem k134_5 : ab_fetch ab_c134 5 = some (.iload_n 1, 1, 0, 0) := rfl
theorem k134_6 : ab_fetch ab_c134 6 = some (.iload_n 2, 1, 0, 0) := rfl
theorem k134_7 : ab_fetch ab_c134 7 = some (.invokevirtual 394, 3, 135, 3) := rfl
theorem k134_10 : ab_fetch ab_c134 10 = some (.istore_n 3, 1, 0, 0) := rfl
theorem k134_11 : ab_fetch ab_c134 11 = some (.iload_n 2, 1, 0, 0) := rfl
theorem k134_12 : ab_fetch ab_c134 12 = some (.iconst 2, 1, 0, 0) := rfl
theorem k134_13 : ab_fetch ab_c134 13 = some (.if_icmp .ne 17, 3, 30, 0) := rfl
theorem k134_16 : ab_fetch ab_c134 16 = some (.aload_n 0, 1, 0, 0) := rfl
theorem k134_17 : ab_fetch ab_c134 17 = some (.getfield 253, 3, 6, 4) := rfl
theorem k134_20 : ab_fetch ab_c134 20 = some (.iload_n 1, 1, 0, 0) := rfl
theorem k134_21 : ab_fetch ab_c134 21 = some (.iconst 1, 1, 0, 0) := rfl
theorem k134_22 : ab_fetch ab_c134 22 = some (.iadd, 1, 0, 0) := rfl
theorem k134_23 : ab_fetch ab_c134 23 = some (.baload, 1, 0, 0) := rfl
theorem k134_24 : ab_fetch ab_c134 24 = some (.invokestatic 375, 3, 125, 1) := rfl
theorem k134_27 : ab_fetch ab_c134 27 = some (.goto 51, 3, 78, 0) := rfl
theorem k134_30 : ab_fetch ab_c134 30 = some (.iload_n 2, 1, 0, 0) := rfl
theorem k134_31 : ab_fetch ab_c134 31 = some (.iconst 3, 1, 0, 0) := rfl
theorem k134_32 : ab_fetch ab_c134 32 = some (.if_icmp .ne 45, 3, 77, 0) := rfl
theorem k134_35 : ab_fetch ab_c134 35 = some (.aload_n 0, 1, 0, 0) := rfl
theorem k134_36 : ab_fetch ab_c134 36 = some (.getfield 253, 3, 6, 4) := rfl
theorem k134_39 : ab_fetch ab_c134 39 = some (.iload_n 1, 1, 0, 0) := rfl
theorem k134_40 : ab_fetch ab_c134 40 = some (.iconst 1, 1, 0, 0) := rfl
theorem k134_41 : ab_fetch ab_c134 41 = some (.iadd, 1, 0, 0) := rfl
theorem k134_42 : ab_fetch ab_c134 42 = some (.baload, 1, 0, 0) := rfl
theorem k134_43 : ab_fetch ab_c134 43 = some (.bipush 48, 2, 0, 0) := rfl
theorem k134_45 : ab_fetch ab_c134 45 = some (.if_icmp .eq 32, 3, 77, 0) := rfl
theorem k134_48 : ab_fetch ab_c134 48 = some (.bipush 10, 2, 0, 0) := rfl
theorem k134_50 : ab_fetch ab_c134 50 = some (.aload_n 0, 1, 0, 0) := rfl
theorem k134_51 : ab_fetch ab_c134 51 = some (.getfield 253, 3, 6, 4) := rfl
theorem k134_54 : ab_fetch ab_c134 54 = some (.iload_n 1, 1, 0, 0) := rfl
theorem k134_55 : ab_fetch ab_c134 55 = some (.iconst 1, 1, 0, 0) := rfl
theorem k134_56 : ab_fetch ab_c134 56 = some (.iadd, 1, 0, 0) := rfl
theorem k134_57 : ab_fetch ab_c134 57 = some (.baload, 1, 0, 0) := rfl
theorem k134_58 : ab_fetch ab_c134 58 = some (.invokestatic 375, 3, 125, 1) := rfl
theorem k134_61 : ab_fetch ab_c134 61 = some (.imul, 1, 0, 0) := rfl
theorem k134_62 : ab_fetch ab_c134 62 = some (.aload_n 0, 1, 0, 0) := rfl
theorem k134_63 : ab_fetch ab_c134 63 = some (.getfield 253, 3, 6, 4) := rfl
theorem k134_66 : ab_fetch ab_c134 66 = some (.iload_n 1, 1, 0, 0) := rfl
theorem k134_67 : ab_fetch ab_c134 67 = some (.iconst 2, 1, 0, 0) := rfl
theorem k134_68 : ab_fetch ab_c134 68 = some (.iadd, 1, 0, 0) := rfl
theorem k134_69 : ab_fetch ab_c134 69 = some (.baload, 1, 0, 0) := rfl
theorem k134_70 : ab_fetch ab_c134 70 = some (.invokestatic 375, 3, 125, 1) := rfl
theorem k134_73 : ab_fetch ab_c134 73 = some (.iadd, 1, 0, 0) := rfl
theorem k134_74 : ab_fetch ab_c134 74 = some (.goto 4, 3, 78, 0) := rfl
theorem k134_77 : ab_fetch ab_c134 77 = some (.iconst (-1), 1, 0, 0) := rfl
theorem k134_78 : ab_fetch ab_c134 78 = some (.istore 4, 2, 0, 0) := rfl
theorem k134_80 : ab_fetch ab_c134 80 = some (.iload_n 2, 1, 0, 0) := rfl
theorem k134_81 : ab_fetch ab_c134 81 = some (.iconst 1, 1, 0, 0) := rfl
theorem k134_82 : ab_fetch ab_c134 82 = some (.if_icmp .le 60, 3, 142, 0) := rfl
theorem k134_85 : ab_fetch ab_c134 85 = some (.iload_n 2, 1, 0, 0) := rfl
theorem k134_86 : ab_fetch ab_c134 86 = some (.iconst 4, 1, 0, 0) := rfl
theorem k134_87 : ab_fetch ab_c134 87 = some (.if_icmp .ge 55, 3, 142, 0) := rfl
theorem k134_90 : ab_fetch ab_c134 90 = some (.aload_n 0, 1, 0, 0) := rfl
theorem k134_91 : ab_fetch ab_c134 91 = some (.getfield 253, 3, 6, 4) := rfl
theorem k134_94 : ab_fetch ab_c134 94 = some (.iload_n 1, 1, 0, 0) := rfl
theorem k134_95 : ab_fetch ab_c134 95 = some (.baload, 1, 0, 0) := rfl
theorem k134_96 : ab_fetch ab_c134 96 = some (.bipush 120, 2, 0, 0) := rfl
theorem k134_98 : ab_fetch ab_c134 98 = some (.if_icmp .ne 44, 3, 142, 0) := rfl
theorem k134_101 : ab_fetch ab_c134 101 = some (.aload_n 0, 1, 0, 0) := rfl
theorem k134_102 : ab_fetch ab_c134 102 = some (.getfield 253, 3, 6, 4) := rfl
theorem k134_105 : ab_fetch ab_c134 105 = some (.iload_n 1, 1, 0, 0) := rfl
theorem k134_106 : ab_fetch ab_c134 106 = some (.iconst 1, 1, 0, 0) := rfl
theorem k134_107 : ab_fetch ab_c134 107 = some (.iadd, 1, 0, 0) := rfl
theorem k134_108 : ab_fetch ab_c134 108 = some (.baload, 1, 0, 0) := rfl
theorem k134_109 : ab_fetch ab_c134 109 = some (.invokestatic 332, 3, 122, 1) := rfl
theorem k134_112 : ab_fetch ab_c134 112 = some (.ifCond .eq 30, 3, 142, 0) := rfl
theorem k134_115 : ab_fetch ab_c134 115 = some (.aload_n 0, 1, 0, 0) := rfl
theorem k134_116 : ab_fetch ab_c134 116 = some (.getfield 253, 3, 6, 4) := rfl
theorem k134_119 : ab_fetch ab_c134 119 = some (.iload_n 1, 1, 0, 0) := rfl
theorem k134_120 : ab_fetch ab_c134 120 = some (.iload_n 2, 1, 0, 0) := rfl
theorem k134_121 : ab_fetch ab_c134 121 = some (.iadd, 1, 0, 0) := rfl
theorem k134_122 : ab_fetch ab_c134 122 = some (.iconst 1, 1, 0, 0) := rfl
theorem k134_123 : ab_fetch ab_c134 123 = some (.isub, 1, 0, 0) := rfl
theorem k134_124 : ab_fetch ab_c134 124 = some (.baload, 1, 0, 0) := rfl
theorem k134_125 : ab_fetch ab_c134 125 = some (.invokestatic 332, 3, 122, 1) := rfl
theorem k134_128 : ab_fetch ab_c134 128 = some (.ifCond .eq 14, 3, 142, 0) := rfl
theorem k134_131 : ab_fetch ab_c134 131 = some (.iload 4, 2, 0, 0) := rfl
theorem k134_133 : ab_fetch ab_c134 133 = some (.bipush 32, 2, 0, 0) := rfl
theorem k134_135 : ab_fetch ab_c134 135 = some (.if_icmp .ge 7, 3, 142, 0) := rfl
theorem k134_138 : ab_fetch ab_c134 138 = some (.iconst 1, 1, 0, 0) := rfl
theorem k134_139 : ab_fetch ab_c134 139 = some (.goto 4, 3, 143, 0) := rfl
theorem k134_142 : ab_fetch ab_c134 142 = some (.iconst 0, 1, 0, 0) := rfl
theorem k134_143 : ab_fetch ab_c134 143 = some (.istore 5, 2, 0, 0) := rfl
theorem k134_145 : ab_fetch ab_c134 145 = some (.iload_n 3, 1, 0, 0) := rfl
theorem k134_146 : ab_fetch ab_c134 146 = some (.bipush 32, 2, 0, 0) := rfl
theorem k134_148 : ab_fetch ab_c134 148 = some (.if_icmp .ne 8, 3, 156, 0) := rfl
theorem k134_151 : ab_fetch ab_c134 151 = some (.bipush 8, 2, 0, 0) := rfl
theorem k134_153 : ab_fetch ab_c134 153 = some (.goto 22, 3, 175, 0) := rfl
theorem k134_156 : ab_fetch ab_c134 156 = some (.iload_n 3, 1, 0, 0) := rfl
theorem k134_157 : ab_fetch ab_c134 157 = some (.ifCond .lt 7, 3, 164, 0) := rfl
theorem k134_160 : ab_fetch ab_c134 160 = some (.iload_n 3, 1, 0, 0) := rfl
theorem k134_161 : ab_fetch ab_c134 161 = some (.goto 14, 3, 175, 0) := rfl
theorem k134_164 : ab_fetch ab_c134 164 = some (.iload 5, 2, 0, 0) := rfl
theorem k134_166 : ab_fetch ab_c134 166 = some (.ifCond .eq 8, 3, 174, 0) := rfl
theorem k134_169 : ab_fetch ab_c134 169 = some (.iload 4, 2, 0, 0) := rfl
theorem k134_171 : ab_fetch ab_c134 171 = some (.goto 4, 3, 175, 0) := rfl
theorem k134_174 : ab_fetch ab_c134 174 = some (.iconst (-1), 1, 0, 0) := rfl
theorem k134_175 : ab_fetch ab_c134 175 = some (.ireturn, 1, 0, 0) := rfl
/- CodeSmithModel registerAt(II)I -/
def f134_143 (s : mS) (x3 : Int32) (x4 : Int32) (y0 : Int32) : Option Int32 := (if x3 = (32 : Int32) then some (8 : Int32) else (if x3 < 0 then (if y0 = 0 then some (-1 : Int32) else some x4) else some x3))
theorem t134_143 {d n : Nat} {Z : Nat → ab_C} (hn : 42 ≤ n) : ∀ (s : mS) (l : ab_L) (x3 : Int32) (x4 : Int32) (y0 : Int32) (h3 : ab_get l 3 = some (.int x3)) (h4 : ab_get l 4 = some (.int x4)) (r : Int32) (e : f134_143 s x3 x4 y0 = some r), ab_Rn (d + 2) 134 143 l [.int y0] (ab_hl n (mm_F s Z)) (.inl (some (.int r))) (ab_hl n (mm_F s Z)) := by
  intro s l x3 x4 y0 h3 h4 r e
  unfold f134_143 at e
  refine r_istore (pc := 143) p134 k134_143 (by decide) (fun l g h5 => ?_)
  have h3 := g 3 _ (by decide) h3 (Or.inl rfl)
  have h4 := g 4 _ (by decide) h4 (Or.inl rfl)
  refine r_iload_n (pc := 145) p134 k134_145 h3 ?_
  refine r_bipush (pc := 146) p134 k134_146 (v := (32 : Int32)) rfl ?_
  refine r_ic_ne (pc := 148) p134 k134_148 (fun c => ?_) (fun c => ?_)
  · have e := (if_neg c).symm.trans e
    refine r_iload_n (pc := 156) p134 k134_156 h3 ?_
    refine r_if_lt (pc := 157) p134 k134_157 (fun c => ?_) (fun c => ?_)
    · have e := (if_pos c).symm.trans e
      refine r_iload (pc := 164) p134 k134_164 h5 ?_
      refine r_if_eq (pc := 166) p134 k134_166 (fun c => ?_) (fun c => ?_)
      · have e := (if_pos c).symm.trans e
        refine r_iconst (pc := 174) p134 k134_174 (v := (-1 : Int32)) rfl ?_
        cases e
        exact r_retI (pc := 175) p134 k134_175 rfl
      · have e := (if_neg c).symm.trans e
        refine r_iload (pc := 169) p134 k134_169 h4 ?_
        refine r_goto (pc := 171) p134 k134_171 ?_
        cases e
        exact r_retI (pc := 175) p134 k134_175 rfl
    · have e := (if_neg c).symm.trans e
      refine r_iload_n (pc := 160) p134 k134_160 h3 ?_
      refine r_goto (pc := 161) p134 k134_161 ?_
      cases e
      exact r_retI (pc := 175) p134 k134_175 rfl
  · have e := (if_pos c).symm.trans e
    refine r_bipush (pc := 151) p134 k134_151 (v := (8 : Int32)) rfl ?_
    refine r_goto (pc := 153) p134 k134_153 ?_
    cases e
    exact r_retI (pc := 175) p134 k134_175 rfl
def f134_142 (s : mS) (x3 : Int32) (x4 : Int32) : Option Int32 := f134_143 s x3 x4 (0 : Int32)
theorem t134_142 {d n : Nat} {Z : Nat → ab_C} (hn : 42 ≤ n) : ∀ (s : mS) (l : ab_L) (x3 : Int32) (x4 : Int32) (h3 : ab_get l 3 = some (.int x3)) (h4 : ab_get l 4 = some (.int x4)) (r : Int32) (e : f134_142 s x3 x4 = some r), ab_Rn (d + 2) 134 142 l [] (ab_hl n (mm_F s Z)) (.inl (some (.int r))) (ab_hl n (mm_F s Z)) := by
  intro s l x3 x4 h3 h4 r e
  unfold f134_142 at e
  refine r_iconst (pc := 142) p134 k134_142 (v := (0 : Int32)) rfl ?_
  exact t134_143 hn s l x3 x4 (0 : Int32) h3 h4 r e
def f134_78 (s : mS) (x1 : Int32) (x2 : Int32) (x3 : Int32) (y0 : Int32) : Option Int32 := (if x2 ≤ (1 : Int32) then f134_142 s x3 y0 else (if (4 : Int32) ≤ x2 then f134_142 s x3 y0 else if ib x1 65536 then (if ((s.2 4) x1.toNatClampNeg) = (120 : Int32) then if ib (x1 + (1 : Int32)) 65536 then (if (f122 ((s.2 4) (x1 + (1 : Int32)).toNatClampNeg)) = 0 then f134_142 s x3 y0 else if ib ((x1 + x2) - (1 : Int32)) 65536 then (if (f122 ((s.2 4) ((x1 + x2) - (1 : Int32)).toNatClampNeg)) = 0 then f134_142 s x3 y0 else (if (32 : Int32) ≤ y0 then f134_142 s x3 y0 else f134_143 s x3 y0 (1 : Int32))) else none) else none else f134_142 s x3 y0) else none))
theorem t134_78 {d n : Nat} {Z : Nat → ab_C} (hn : 42 ≤ n) : ∀ (s : mS) (l : ab_L) (x1 : Int32) (x2 : Int32) (x3 : Int32) (y0 : Int32) (h0 : ab_get l 0 = some (.ref 22)) (h1 : ab_get l 1 = some (.int x1)) (h2 : ab_get l 2 = some (.int x2)) (h3 : ab_get l 3 = some (.int x3)) (r : Int32) (e : f134_78 s x1 x2 x3 y0 = some r), ab_Rn (d + 2) 134 78 l [.int y0] (ab_hl n (mm_F s Z)) (.inl (some (.int r))) (ab_hl n (mm_F s Z)) := by
  intro s l x1 x2 x3 y0 h0 h1 h2 h3 r e
  unfold f134_78 at e
  refine r_istore (pc := 78) p134 k134_78 (by decide) (fun l g h4 => ?_)
  have h0 := g 0 _ (by decide) h0 (Or.inl rfl)
  have h1 := g 1 _ (by decide) h1 (Or.inl rfl)
  have h2 := g 2 _ (by decide) h2 (Or.inl rfl)
  have h3 := g 3 _ (by decide) h3 (Or.inl rfl)
  refine r_iload_n (pc := 80) p134 k134_80 h2 ?_
  refine r_iconst (pc := 81) p134 k134_81 (v := (1 : Int32)) rfl ?_
  refine r_ic_le (pc := 82) p134 k134_82 (fun c => ?_) (fun c => ?_)
  · have e := (if_pos c).symm.trans e
    exact t134_142 hn s l x3 y0 h3 h4 r e
  · have e := (if_neg c).symm.trans e
    refine r_iload_n (pc := 85) p134 k134_85 h2 ?_
    refine r_iconst (pc := 86) p134 k134_86 (v := (4 : Int32)) rfl ?_
    refine r_ic_ge (pc := 87) p134 k134_87 (fun c => ?_) (fun c => ?_)
    · have e := (if_pos c).symm.trans e
      exact t134_142 hn s l x3 y0 h3 h4 r e
    · have e := (if_neg c).symm.trans e
      refine r_aload_n (pc := 90) p134 k134_90 h0 ?_
      refine m_get hn (pc := 91) p134 k134_91 (v := .ref 26) rfl ?_
      refine r_iload_n (pc := 94) p134 k134_94 h1 ?_
      obtain ⟨c, e⟩ := of_if e
      refine r_bald (pc := 95) p134 k134_95 (m_lt hn rfl) (f := (s.2 4)) rfl c ?_
      refine r_bipush (pc := 96) p134 k134_96 (v := (120 : Int32)) rfl ?_
      refine r_ic_ne (pc := 98) p134 k134_98 (fun c => ?_) (fun c => ?_)
      · have e := (if_neg c).symm.trans e
        exact t134_142 hn s l x3 y0 h3 h4 r e
      · have e := (if_pos c).symm.trans e
        refine r_aload_n (pc := 101) p134 k134_101 h0 ?_
        refine m_get hn (pc := 102) p134 k134_102 (v := .ref 26) rfl ?_
        refine r_iload_n (pc := 105) p134 k134_105 h1 ?_
        refine r_iconst (pc := 106) p134 k134_106 (v := (1 : Int32)) rfl ?_
        refine r_iadd (pc := 107) p134 k134_107 ?_
        obtain ⟨c, e⟩ := of_if e
        refine r_bald (pc := 108) p134 k134_108 (m_lt hn rfl) (f := (s.2 4)) rfl c ?_
        refine r_csv (pc := 109) p134 k134_109 rfl rfl p122 (r := []) rfl rfl rfl rfl (t122 ((s.2 4) (x1 + (1 : Int32)).toNatClampNeg) _ rfl) (w := [.int (f122 ((s.2 4) (x1 + (1 : Int32)).toNatClampNeg))]) rfl ?_
        refine r_if_eq (pc := 112) p134 k134_112 (fun c => ?_) (fun c => ?_)
        · have e := (if_pos c).symm.trans e
          exact t134_142 hn s l x3 y0 h3 h4 r e
        · have e := (if_neg c).symm.trans e
          refine r_aload_n (pc := 115) p134 k134_115 h0 ?_
          refine m_get hn (pc := 116) p134 k134_116 (v := .ref 26) rfl ?_
          refine r_iload_n (pc := 119) p134 k134_119 h1 ?_
          refine r_iload_n (pc := 120) p134 k134_120 h2 ?_
          refine r_iadd (pc := 121) p134 k134_121 ?_
          refine r_iconst (pc := 122) p134 k134_122 (v := (1 : Int32)) rfl ?_
          refine r_isub (pc := 123) p134 k134_123 ?_
          obtain ⟨c, e⟩ := of_if e
          refine r_bald (pc := 124) p134 k134_124 (m_lt hn rfl) (f := (s.2 4)) rfl c ?_
          refine r_csv (pc := 125) p134 k134_125 rfl rfl p122 (r := []) rfl rfl rfl rfl (t122 ((s.2 4) ((x1 + x2) - (1 : Int32)).toNatClampNeg) _ rfl) (w := [.int (f122 ((s.2 4) ((x1 + x2) - (1 : Int32)).toNatClampNeg))]) rfl ?_
          refine r_if_eq (pc := 128) p134 k134_128 (fun c => ?_) (fun c => ?_)
          · have e := (if_pos c).symm.trans e
            exact t134_142 hn s l x3 y0 h3 h4 r e
          · have e := (if_neg c).symm.trans e
            refine r_iload (pc := 131) p134 k134_131 h4 ?_
            refine r_bipush (pc := 133) p134 k134_133 (v := (32 : Int32)) rfl ?_
            refine r_ic_ge (pc := 135) p134 k134_135 (fun c => ?_) (fun c => ?_)
            · have e := (if_pos c).symm.trans e
              exact t134_142 hn s l x3 y0 h3 h4 r e
            · have e := (if_neg c).symm.trans e
              refine r_iconst (pc := 138) p134 k134_138 (v := (1 : Int32)) rfl ?_
              refine r_goto (pc := 139) p134 k134_139 ?_
              exact t134_143 hn s l x3 y0 (1 : Int32) h3 h4 r e
def f134_77 (s : mS) (x1 : Int32) (x2 : Int32) (x3 : Int32) : Option Int32 := f134_78 s x1 x2 x3 (-1 : Int32)
theorem t134_77 {d n : Nat} {Z : Nat → ab_C} (hn : 42 ≤ n) : ∀ (s : mS) (l : ab_L) (x1 : Int32) (x2 : Int32) (x3 : Int32) (h0 : ab_get l 0 = some (.ref 22)) (h1 : ab_get l 1 = some (.int x1)) (h2 : ab_get l 2 = some (.int x2)) (h3 : ab_get l 3 = some (.int x3)) (r : Int32) (e : f134_77 s x1 x2 x3 = some r), ab_Rn (d + 2) 134 77 l [] (ab_hl n (mm_F s Z)) (.inl (some (.int r))) (ab_hl n (mm_F s Z)) := by
  intro s l x1 x2 x3 h0 h1 h2 h3 r e
  unfold f134_77 at e
  refine r_iconst (pc := 77) p134 k134_77 (v := (-1 : Int32)) rfl ?_
  exact t134_78 hn s l x1 x2 x3 (-1 : Int32) h0 h1 h2 h3 r e
def f134 (s : mS) (x1 : Int32) (x2 : Int32) : Option Int32 := ((f135_23 s x1 x2).bind fun r1 => (if x2 = (2 : Int32) then if ib (x1 + (1 : Int32)) 65536 then f134_78 s x1 x2 r1 (f125 ((s.2 4) (x1 + (1 : Int32)).toNatClampNeg)) else none else (if x2 = (3 : Int32) then if ib (x1 + (1 : Int32)) 65536 then (if ((s.2 4) (x1 + (1 : Int32)).toNatClampNeg) = (48 : Int32) then f134_77 s x1 x2 r1 else if ib (x1 + (1 : Int32)) 65536 then if ib (x1 + (2 : Int32)) 65536 then f134_78 s x1 x2 r1 (((10 : Int32) * (f125 ((s.2 4) (x1 + (1 : Int32)).toNatClampNeg))) + (f125 ((s.2 4) (x1 + (2 : Int32)).toNatClampNeg))) else none else none) else none else f134_77 s x1 x2 r1)))
theorem t134 {d n : Nat} {Z : Nat → ab_C} (hn : 42 ≤ n) (s : mS) (x1 : Int32) (x2 : Int32) (r : Int32) (e : f134 s x1 x2 = some r) : ab_Rn (d + 2) 134 0 (lv_args 0 [.ref 22, .int x1, .int x2]) [] (ab_hl n (mm_F s Z)) (.inl (some (.int r))) (ab_hl n (mm_F s Z)) := by
  unfold f134 at e
  obtain ⟨l, hl⟩ : ∃ l, l = (lv_args 0 [.ref 22, .int x1, .int x2]) := ⟨_, rfl⟩
  rw [← hl]
  have h0 : ab_get l 0 = some (.ref 22) := by rw [hl]; rfl
  have h1 : ab_get l 1 = some (.int x1) := by rw [hl]; rfl
  have h2 : ab_get l 2 = some (.int x2) := by rw [hl]; rfl
  refine r_aload_n (pc := 0) p134 k134_0 h0 ?_
  refine r_aload_n (pc := 1) p134 k134_1 h0 ?_
  refine m_get hn (pc := 2) p134 k134_2 (v := .ref 23) rfl ?_
  refine r_iload_n (pc := 5) p134 k134_5 h1 ?_
  refine r_iload_n (pc := 6) p134 k134_6 h2 ?_
  obtain ⟨r1, er1, e⟩ := of_bind e
  refine m_cv hn (pc := 7) p134 k134_7 rfl p135 (r := []) rfl rfl rfl rfl rfl (t135_23 hn s x1 x2 r1 er1) (w := [.int r1]) rfl ?_
  refine r_istore_n (pc := 10) p134 k134_10 (by decide) (fun l g h3 => ?_)
  have h0 := g 0 _ (by decide) h0 (Or.inl rfl)
  have h1 := g 1 _ (by decide) h1 (Or.inl rfl)
  have h2 := g 2 _ (by decide) h2 (Or.inl rfl)
  refine r_iload_n (pc := 11) p134 k134_11 h2 ?_
  refine r_iconst (pc := 12) p134 k134_12 (v := (2 : Int32)) rfl ?_
  refine r_ic_ne (pc := 13) p134 k134_13 (fun c => ?_) (fun c => ?_)
  · have e := (if_neg c).symm.trans e
    refine r_iload_n (pc := 30) p134 k134_30 h2 ?_
    refine r_iconst (pc := 31) p134 k134_31 (v := (3 : Int32)) rfl ?_
    refine r_ic_ne (pc := 32) p134 k134_32 (fun c => ?_) (fun c => ?_)
    · have e := (if_neg c).symm.trans e
      exact t134_77 hn s l x1 x2 r1 h0 h1 h2 h3 r e
    · have e := (if_pos c).symm.trans e
      refine r_aload_n (pc := 35) p134 k134_35 h0 ?_
      refine m_get hn (pc := 36) p134 k134_36 (v := .ref 26) rfl ?_
      refine r_iload_n (pc := 39) p134 k134_39 h1 ?_
      refine r_iconst (pc := 40) p134 k134_40 (v := (1 : Int32)) rfl ?_
      refine r_iadd (pc := 41) p134 k134_41 ?_
      obtain ⟨c, e⟩ := of_if e
      refine r_bald (pc := 42) p134 k134_42 (m_lt hn rfl) (f := (s.2 4)) rfl c ?_
      refine r_bipush (pc := 43) p134 k134_43 (v := (48 : Int32)) rfl ?_
      refine r_ic_eq (pc := 45) p134 k134_45 (fun c => ?_) (fun c => ?_)
      · have e := (if_pos c).symm.trans e
        exact t134_77 hn s l x1 x2 r1 h0 h1 h2 h3 r e
      · have e := (if_neg c).symm.trans e
        refine r_bipush (pc := 48) p134 k134_48 (v := (10 : Int32)) rfl ?_
        refine r_aload_n (pc := 50) p134 k134_50 h0 ?_
        refine m_get hn (pc := 51) p134 k134_51 (v := .ref 26) rfl ?_
        refine r_iload_n (pc := 54) p134 k134_54 h1 ?_
        refine r_iconst (pc := 55) p134 k134_55 (v := (1 : Int32)) rfl ?_
        refine r_iadd (pc := 56) p134 k134_56 ?_
        obtain ⟨c, e⟩ := of_if e
        refine r_bald (pc := 57) p134 k134_57 (m_lt hn rfl) (f := (s.2 4)) rfl c ?_
        refine r_csv (pc := 58) p134 k134_58 rfl rfl p125 (r := [.int (10 : Int32)]) rfl rfl rfl rfl (t125 ((s.2 4) (x1 + (1 : Int32)).toNatClampNeg) _ rfl) (w := [.int (f125 ((s.2 4) (x1 + (1 : Int32)).toNatClampNeg)), .int (10 : Int32)]) rfl ?_
        refine r_imul (pc := 61) p134 k134_61 ?_
        refine r_aload_n (pc := 62) p134 k134_62 h0 ?_
        refine m_get hn (pc := 63) p134 k134_63 (v := .ref 26) rfl ?_
        refine r_iload_n (pc := 66) p134 k134_66 h1 ?_
        refine r_iconst (pc := 67) p134 k134_67 (v := (2 : Int32)) rfl ?_
        refine r_iadd (pc := 68) p134 k134_68 ?_
        obtain ⟨c, e⟩ := of_if e
        refine r_bald (pc := 69) p134 k134_69 (m_lt hn rfl) (f := (s.2 4)) rfl c ?_
        refine r_csv (pc := 70) p134 k134_70 rfl rfl p125 (r := [.int ((10 : Int32) * (f125 ((s.2 4) (x1 + (1 : Int32)).toNatClampNeg)))]) rfl rfl rfl rfl (t125 ((s.2 4) (x1 + (2 : Int32)).toNatClampNeg) _ rfl) (w := [.int (f125 ((s.2 4) (x1 + (2 : Int32)).toNatClampNeg)), .int ((10 : Int32) * (f125 ((s.2 4) (x1 + (1 : Int32)).toNatClampNeg)))]) rfl ?_
        refine r_iadd (pc := 73) p134 k134_73 ?_
        refine r_goto (pc := 74) p134 k134_74 ?_
        exact t134_78 hn s l x1 x2 r1 (((10 : Int32) * (f125 ((s.2 4) (x1 + (1 : Int32)).toNatClampNeg))) + (f125 ((s.2 4) (x1 + (2 : Int32)).toNatClampNeg))) h0 h1 h2 h3 r e
  · have e := (if_pos c).symm.trans e
    refine r_aload_n (pc := 16) p134 k134_16 h0 ?_
    refine m_get hn (pc := 17) p134 k134_17 (v := .ref 26) rfl ?_
    refine r_iload_n (pc := 20) p134 k134_20 h1 ?_
    refine r_iconst (pc := 21) p134 k134_21 (v := (1 : Int32)) rfl ?_
    refine r_iadd (pc := 22) p134 k134_22 ?_
    obtain ⟨c, e⟩ := of_if e
    refine r_bald (pc := 23) p134 k134_23 (m_lt hn rfl) (f := (s.2 4)) rfl c ?_
    refine r_csv (pc := 24) p134 k134_24 rfl rfl p125 (r := []) rfl rfl rfl rfl (t125 ((s.2 4) (x1 + (1 : Int32)).toNatClampNeg) _ rfl) (w := [.int (f125 ((s.2 4) (x1 + (1 : Int32)).toNatClampNeg))]) rfl ?_
    refine r_goto (pc := 27) p134 k134_27 ?_
    exact t134_78 hn s l x1 x2 r1 (f125 ((s.2 4) (x1 + (1 : Int32)).toNatClampNeg)) h0 h1 h2 h3 r e

theorem p132 : ab_prog[132]? = some (ab_m132, ab_c132) := rfl
theorem k132_0 : ab_fetch ab_c132 0 = some (.aload_n 0, 1, 0, 0) := rfl
theorem k132_1 : ab_fetch ab_c132 1 = some (.getfield 408, 3, 6, 19) := rfl
theorem k132_4 : ab_fetch ab_c132 4 = some (.ifCond .ne 52, 3, 56, 0) := rfl
theorem k132_7 : ab_fetch ab_c132 7 = some (.aload_n 0, 1, 0, 0) := rfl
theorem k132_8 : ab_fetch ab_c132 8 = some (.aload_n 0, 1, 0, 0) := rfl
theorem k132_9 : ab_fetch ab_c132 9 = some (.getfield 349, 3, 6, 21) := rfl
theorem k132_12 : ab_fetch ab_c132 12 = some (.aload_n 0, 1, 0, 0) := rfl
theorem k132_13 : ab_fetch ab_c132 13 = some (.getfield 322, 3, 6, 18) := rfl
theorem k132_16 : ab_fetch ab_c132 16 = some (.aload_n 0, 1, 0, 0) := rfl
theorem k132_17 : ab_fetch ab_c132 17 = some (.getfield 349, 3, 6, 21) := rfl
theorem k132_20 : ab_fetch ab_c132 20 = some (.isub, 1, 0, 0) := rfl
theorem k132_21 : ab_fetch ab_c132 21 = some (.invokevirtual 412, 3, 133, 2) := rfl
theorem k132_24 : ab_fetch ab_c132 24 = some (.ifCond .ge 23, 3, 47, 0) := rfl
theorem k132_27 : ab_fetch ab_c132 27 = some (.aload_n 0, 1, 0, 0) := rfl
theorem k132_28 : ab_fetch ab_c132 28 = some (.aload_n 0, 1, 0, 0) := rfl
theorem k132_29 : ab_fetch ab_c132 29 = some (.getfield 349, 3, 6, 21) := rfl
theorem k132_32 : ab_fetch ab_c132 32 = some (.aload_n 0, 1, 0, 0) := rfl
theorem k132_33 : ab_fetch ab_c132 33 = some (.getfield 322, 3, 6, 18) := rfl
theorem k132_36 : ab_fetch ab_c132 36 = some (.aload_n 0, 1, 0, 0) := rfl
theorem k132_37 : ab_fetch ab_c132 37 = some (.getfield 349, 3, 6, 21) := rfl
theorem k132_40 : ab_fetch ab_c132 40 = some (.isub, 1, 0, 0) := rfl
theorem k132_41 : ab_fetch ab_c132 41 = some (.invokevirtual 401, 3, 134, 2) := rfl
theorem k132_44 : ab_fetch ab_c132 44 = some (.ifCond .lt 12, 3, 56, 0) := rfl
theorem k132_47 : ab_fetch ab_c132 47 = some (.aload_n 0, 1, 0, 0) := rfl
theorem k132_48 : ab_fetch ab_c132 48 = some (.iconst 2, 1, 0, 0) := rfl
theorem k132_49 : ab_fetch ab_c132 49 = some (.aload_n 0, 1, 0, 0) := rfl
theorem k132_50 : ab_fetch ab_c132 50 = some (.getfield 349, 3, 6, 21) := rfl
theorem k132_53 : ab_fetch ab_c132 53 = some (.invokevirtual 342, 3, 131, 2) := rfl
theorem k132_56 : ab_fetch ab_c132 56 = some (.return_, 1, 0, 0) := rfl
/- CodeSmithModel mustBeNew()V -/
def f132_47 (s : mS) : Option mS := ((f131 s (2 : Int32) (s.1 21)).bind fun r1 => some r1)
theorem t132_47 {d n : Nat} {Z : Nat → ab_C} (hn : 42 ≤ n) : ∀ (s : mS) (l : ab_L)  (h0 : ab_get l 0 = some (.ref 22)) (r : mS) (e : f132_47 s  = some r), ab_Rn (d + 3) 132 47 l [] (ab_hl n (mm_F s Z)) (.inl none) (ab_hl n (mm_F r Z)) := by
  intro s l h0 r e
  unfold f132_47 at e
  refine r_aload_n (pc := 47) p132 k132_47 h0 ?_
  refine r_iconst (pc := 48) p132 k132_48 (v := (2 : Int32)) rfl ?_
  refine r_aload_n (pc := 49) p132 k132_49 h0 ?_
  refine m_get hn (pc := 50) p132 k132_50 (v := .int (s.1 21)) rfl ?_
  obtain ⟨r1, er1, e⟩ := of_bind e
  refine m_cv hn (pc := 53) p132 k132_53 rfl p131 (r := []) rfl rfl rfl rfl rfl (t131 hn s (2 : Int32) (s.1 21) r1 er1) (w := []) rfl ?_
  cases e
  exact r_retV (pc := 56) p132 k132_56 rfl
def f132 (s : mS) : Option mS := (if (s.1 19) = 0 then ((f133 s (s.1 21) ((s.1 18) - (s.1 21))).bind fun r1 => (if 0 ≤ r1 then f132_47 s else ((f134 s (s.1 21) ((s.1 18) - (s.1 21))).bind fun r2 => (if r2 < 0 then some s else f132_47 s)))) else some s)
theorem t132 {d n : Nat} {Z : Nat → ab_C} (hn : 42 ≤ n) (s : mS) (r : mS) (e : f132 s = some r) : ab_Rn (d + 3) 132 0 (lv_args 0 [.ref 22]) [] (ab_hl n (mm_F s Z)) (.inl none) (ab_hl n (mm_F r Z)) := by
  unfold f132 at e
  obtain ⟨l, hl⟩ : ∃ l, l = (lv_args 0 [.ref 22]) := ⟨_, rfl⟩
  rw [← hl]
  have h0 : ab_get l 0 = some (.ref 22) := by rw [hl]; rfl
  refine r_aload_n (pc := 0) p132 k132_0 h0 ?_
  refine m_get hn (pc := 1) p132 k132_1 (v := .int (s.1 19)) rfl ?_
  refine r_if_ne (pc := 4) p132 k132_4 (fun c => ?_) (fun c => ?_)
  · have e := (if_neg c).symm.trans e
    cases e
    exact r_retV (pc := 56) p132 k132_56 rfl
  · have e := (if_pos c).symm.trans e
    refine r_aload_n (pc := 7) p132 k132_7 h0 ?_
    refine r_aload_n (pc := 8) p132 k132_8 h0 ?_
    refine m_get hn (pc := 9) p132 k132_9 (v := .int (s.1 21)) rfl ?_
    refine r_aload_n (pc := 12) p132 k132_12 h0 ?_
    refine m_get hn (pc := 13) p132 k132_13 (v := .int (s.1 18)) rfl ?_
    refine r_aload_n (pc := 16) p132 k132_16 h0 ?_
    refine m_get hn (pc := 17) p132 k132_17 (v := .int (s.1 21)) rfl ?_
    refine r_isub (pc := 20) p132 k132_20 ?_
    obtain ⟨r1, er1, e⟩ := of_bind e
    refine m_cv hn (pc := 21) p132 k132_21 rfl p133 (r := []) rfl rfl rfl rfl rfl (t133 hn s (s.1 21) ((s.1 18) - (s.1 21)) r1 er1) (w := [.int r1]) rfl ?_
    refine r_if_ge (pc := 24) p132 k132_24 (fun c => ?_) (fun c => ?_)
    · have e := (if_pos c).symm.trans e
      exact t132_47 hn s l h0 r e
    · have e := (if_neg c).symm.trans e
      refine r_aload_n (pc := 27) p132 k132_27 h0 ?_
      refine r_aload_n (pc := 28) p132 k132_28 h0 ?_
      refine m_get hn (pc := 29) p132 k132_29 (v := .int (s.1 21)) rfl ?_
      refine r_aload_n (pc := 32) p132 k132_32 h0 ?_
      refine m_get hn (pc := 33) p132 k132_33 (v := .int (s.1 18)) rfl ?_
      refine r_aload_n (pc := 36) p132 k132_36 h0 ?_
      refine m_get hn (pc := 37) p132 k132_37 (v := .int (s.1 21)) rfl ?_
      refine r_isub (pc := 40) p132 k132_40 ?_
      obtain ⟨r2, er2, e⟩ := of_bind e
      refine m_cv hn (pc := 41) p132 k132_41 rfl p134 (r := []) rfl rfl rfl rfl rfl (t134 hn s (s.1 21) ((s.1 18) - (s.1 21)) r2 er2) (w := [.int r2]) rfl ?_
      refine r_if_lt (pc := 44) p132 k132_44 (fun c => ?_) (fun c => ?_)
      · have e := (if_pos c).symm.trans e
        cases e
        exact r_retV (pc := 56) p132 k132_56 rfl
      · have e := (if_neg c).symm.trans e
        exact t132_47 hn s l h0 r e

theorem p137 : ab_prog[137]? = some (ab_m137, ab_c137) := rfl
theorem k137_0 : ab_fetch ab_c137 0 = some (.aload_n 0, 1, 0, 0) := rfl
theorem k137_1 : ab_fetch ab_c137 1 = some (.getfield 408, 3, 6, 19) := rfl
theorem k137_4 : ab_fetch ab_c137 4 = some (.ifCond .eq 4, 3, 8, 0) := rfl
theorem k137_7 : ab_fetch ab_c137 7 = some (.return_, 1, 0, 0) := rfl
theorem k137_8 : ab_fetch ab_c137 8 = some (.aload_n 0, 1, 0, 0) := rfl
theorem k137_9 : ab_fetch ab_c137 9 = some (.dup, 1, 0, 0) := rfl
theorem k137_10 : ab_fetch ab_c137 10 = some (.getfield 405, 3, 6, 26) := rfl
theorem k137_13 : ab_fetch ab_c137 13 = some (.dup_x1, 1, 0, 0) := rfl
theorem k137_14 : ab_fetch ab_c137 14 = some (.iconst 1, 1, 0, 0) := rfl
theorem k137_15 : ab_fetch ab_c137 15 = some (.iadd, 1, 0, 0) := rfl
theorem k137_16 : ab_fetch ab_c137 16 = some (.putfield 405, 3, 6, 26) := rfl
theorem k137_19 : ab_fetch ab_c137 19 = some (.istore 5, 2, 0, 0) := rfl
theorem k137_21 : ab_fetch ab_c137 21 = some (.aload_n 0, 1, 0, 0) := rfl
theorem k137_22 : ab_fetch ab_c137 22 = some (.getfield 263, 3, 6, 27) := rfl
theorem k137_25 : ab_fetch ab_c137 25 = some (.iload 5, 2, 0, 0) := rfl
theorem k137_27 : ab_fetch ab_c137 27 = some (.iload_n 2, 1, 0, 0) := rfl
theorem k137_28 : ab_fetch ab_c137 28 = some (.iastore, 1, 0, 0) := rfl
theorem k137_29 : ab_fetch ab_c137 29 = some (.aload_n 0, 1, 0, 0) := rfl
theorem k137_30 : ab_fetch ab_c137 30 = some (.getfield 266, 3, 6, 28) := rfl
theorem k137_33 : ab_fetch ab_c137 33 = some (.iload 5, 2, 0, 0) := rfl
theorem k137_35 : ab_fetch ab_c137 35 = some (.iload_n 3, 1, 0, 0) := rfl
theorem k137_36 : ab_fetch ab_c137 36 = some (.iastore, 1, 0, 0) := rfl
theorem k137_37 : ab_fetch ab_c137 37 = some (.aload_n 0, 1, 0, 0) := rfl
theorem k137_38 : ab_fetch ab_c137 38 = some (.getfield 269, 3, 6, 29) := rfl
theorem k137_41 : ab_fetch ab_c137 41 = some (.iload 5, 2, 0, 0) := rfl
theorem k137_43 : ab_fetch ab_c137 43 = some (.iload_n 1, 1, 0, 0) := rfl
theorem k137_44 : ab_fetch ab_c137 44 = some (.iastore, 1, 0, 0) := rfl
theorem k137_45 : ab_fetch ab_c137 45 = some (.aload_n 0, 1, 0, 0) := rfl
theorem k137_46 : ab_fetch ab_c137 46 = some (.getfield 272, 3, 6, 30) := rfl
theorem k137_49 : ab_fetch ab_c137 49 = some (.iload 5, 2, 0, 0) := rfl
theorem k137_51 : ab_fetch ab_c137 51 = some (.iload 4, 2, 0, 0) := rfl
theorem k137_53 : ab_fetch ab_c137 53 = some (.iastore, 1, 0, 0) := rfl
theorem k137_54 : ab_fetch ab_c137 54 = some (.aload_n 0, 1, 0, 0) := rfl
theorem k137_55 : ab_fetch ab_c137 55 = some (.getfield 275, 3, 6, 31) := rfl
theorem k137_58 : ab_fetch ab_c137 58 = some (.iload 5, 2, 0, 0) := rfl
theorem k137_60 : ab_fetch ab_c137 60 = some (.aload_n 0, 1, 0, 0) := rfl
theorem k137_61 : ab_fetch ab_c137 61 = some (.getfield 316, 3, 6, 15) := rfl
theorem k137_64 : ab_fetch ab_c137 64 = some (.iastore, 1, 0, 0) := rfl
theorem k137_65 : ab_fetch ab_c137 65 = some (.return_, 1, 0, 0) := rfl
/- CodeSmithModel define(IIII)V -/
def f137 (s : mS) (x1 : Int32) (x2 : Int32) (x3 : Int32) (x4 : Int32) : Option mS := (if (s.1 19) = 0 then if ib (s.1 26) 17500 then if ib (s.1 26) 17500 then if ib (s.1 26) 17500 then if ib (s.1 26) 17500 then if ib (s.1 26) 17500 then some (mb (mb (mb (mb (mb (mg s 26 ((s.1 26) + (1 : Int32))) 27 (s.1 26) x2) 28 (s.1 26) x3) 29 (s.1 26) x1) 30 (s.1 26) x4) 31 (s.1 26) (s.1 15)) else none else none else none else none else none else some s)
theorem t137 {d n : Nat} {Z : Nat → ab_C} (hn : 42 ≤ n) (s : mS) (x1 : Int32) (x2 : Int32) (x3 : Int32) (x4 : Int32) (r : mS) (e : f137 s x1 x2 x3 x4 = some r) : ab_Rn d 137 0 (lv_args 0 [.ref 22, .int x1, .int x2, .int x3, .int x4]) [] (ab_hl n (mm_F s Z)) (.inl none) (ab_hl n (mm_F r Z)) := by
  unfold f137 at e
  obtain ⟨l, hl⟩ : ∃ l, l = (lv_args 0 [.ref 22, .int x1, .int x2, .int x3, .int x4]) := ⟨_, rfl⟩
  rw [← hl]
  have h0 : ab_get l 0 = some (.ref 22) := by rw [hl]; rfl
  have h1 : ab_get l 1 = some (.int x1) := by rw [hl]; rfl
  have h2 : ab_get l 2 = some (.int x2) := by rw [hl]; rfl
  have h3 : ab_get l 3 = some (.int x3) := by rw [hl]; rfl
  have h4 : ab_get l 4 = some (.int x4) := by rw [hl]; rfl
  refine r_aload_n (pc := 0) p137 k137_0 h0 ?_
  refine m_get hn (pc := 1) p137 k137_1 (v := .int (s.1 19)) rfl ?_
  refine r_if_eq (pc := 4) p137 k137_4 (fun c => ?_) (fun c => ?_)
  · have e := (if_pos c).symm.trans e
    refine r_aload_n (pc := 8) p137 k137_8 h0 ?_
    refine r_dup (pc := 9) p137 k137_9 rfl ?_
    refine m_get hn (pc := 10) p137 k137_10 (v := .int (s.1 26)) rfl ?_
    refine r_dup_x1 (pc := 13) p137 k137_13 ⟨rfl, rfl⟩ ?_
    refine r_iconst (pc := 14) p137 k137_14 (v := (1 : Int32)) rfl ?_
    refine r_iadd (pc := 15) p137 k137_15 ?_
    refine m_put hn (pc := 16) p137 k137_16 rfl rfl rfl rfl ?_
    refine r_istore (pc := 19) p137 k137_19 (by decide) (fun l g h5 => ?_)
    have h0 := g 0 _ (by decide) h0 (Or.inl rfl)
    have h1 := g 1 _ (by decide) h1 (Or.inl rfl)
    have h2 := g 2 _ (by decide) h2 (Or.inl rfl)
    have h3 := g 3 _ (by decide) h3 (Or.inl rfl)
    have h4 := g 4 _ (by decide) h4 (Or.inl rfl)
    refine r_aload_n (pc := 21) p137 k137_21 h0 ?_
    refine m_get hn (pc := 22) p137 k137_22 (v := .ref 29) rfl ?_
    refine r_iload (pc := 25) p137 k137_25 h5 ?_
    refine r_iload_n (pc := 27) p137 k137_27 h2 ?_
    obtain ⟨c, e⟩ := of_if e
    refine m_ast hn rfl (pc := 28) p137 k137_28 (k := 27) rfl (mm_arr27 _ Z) c ?_
    refine r_aload_n (pc := 29) p137 k137_29 h0 ?_
    refine m_get hn (pc := 30) p137 k137_30 (v := .ref 30) rfl ?_
    refine r_iload (pc := 33) p137 k137_33 h5 ?_
    refine r_iload_n (pc := 35) p137 k137_35 h3 ?_
    obtain ⟨c, e⟩ := of_if e
    refine m_ast hn rfl (pc := 36) p137 k137_36 (k := 28) rfl (mm_arr28 _ Z) c ?_
    refine r_aload_n (pc := 37) p137 k137_37 h0 ?_
    refine m_get hn (pc := 38) p137 k137_38 (v := .ref 31) rfl ?_
    refine r_iload (pc := 41) p137 k137_41 h5 ?_
    refine r_iload_n (pc := 43) p137 k137_43 h1 ?_
    obtain ⟨c, e⟩ := of_if e
    refine m_ast hn rfl (pc := 44) p137 k137_44 (k := 29) rfl (mm_arr29 _ Z) c ?_
    refine r_aload_n (pc := 45) p137 k137_45 h0 ?_
    refine m_get hn (pc := 46) p137 k137_46 (v := .ref 32) rfl ?_
    refine r_iload (pc := 49) p137 k137_49 h5 ?_
    refine r_iload (pc := 51) p137 k137_51 h4 ?_
    obtain ⟨c, e⟩ := of_if e
    refine m_ast hn rfl (pc := 53) p137 k137_53 (k := 30) rfl (mm_arr30 _ Z) c ?_
    refine r_aload_n (pc := 54) p137 k137_54 h0 ?_
    refine m_get hn (pc := 55) p137 k137_55 (v := .ref 33) rfl ?_
    refine r_iload (pc := 58) p137 k137_58 h5 ?_
    refine r_aload_n (pc := 60) p137 k137_60 h0 ?_
    refine m_get hn (pc := 61) p137 k137_61 (v := .int (s.1 15)) rfl ?_
    obtain ⟨c, e⟩ := of_if e
    refine m_ast hn rfl (pc := 64) p137 k137_64 (k := 31) rfl (mm_arr31 _ Z) c ?_
    cases e
    exact r_retV (pc := 65) p137 k137_65 rfl
  · have e := (if_neg c).symm.trans e
    cases e
    exact r_retV (pc := 7) p137 k137_7 rfl

theorem p116 : ab_prog[116]? = some (ab_m116, ab_c116) := rfl
theorem k116_0 : ab_fetch ab_c116 0 = some (.aload_n 0, 1, 0, 0) := rfl
theorem k116_1 : ab_fetch ab_c116 1 = some (.invokevirtual 387, 3, 117, 0) := rfl
theorem k116_4 : ab_fetch ab_c116 4 = some (.iconst 1, 1, 0, 0) := rfl
theorem k116_5 : ab_fetch ab_c116 5 = some (.istore_n 1, 1, 0, 0) := rfl
theorem k116_6 : ab_fetch ab_c116 6 = some (.iload_n 1, 1, 0, 0) := rfl
theorem k116_7 : ab_fetch ab_c116 7 = some (.ifCond .eq 138, 3, 145, 0) := rfl
theorem k116_10 : ab_fetch ab_c116 10 = some (.aload_n 0, 1, 0, 0) := rfl
theorem k116_11 : ab_fetch ab_c116 11 = some (.getfield 307, 3, 6, 11) := rfl
theorem k116_14 : ab_fetch ab_c116 14 = some (.ifCond .ne 131, 3, 145, 0) := rfl
theorem k116_17 : ab_fetch ab_c116 17 = some (.aload_n 0, 1, 0, 0) := rfl
theorem k116_18 : ab_fetch ab_c116 18 = some (.getfield 358, 3, 6, 20) := rfl
theorem k116_21 : ab_fetch ab_c116 21 = some (.iconst 1, 1, 0, 0) := rfl
theorem k116_22 : ab_fetch ab_c116 22 = some (.if_icmp .ne 123, 3, 145, 0) := rfl
theorem k116_25 : ab_fetch ab_c116 25 = some (.aload_n 0, 1, 0, 0) := rfl
theorem k116_26 : ab_fetch ab_c116 26 = some (.invokevirtual 398, 3, 130, 0) := rfl
theorem k116_29 : ab_fetch ab_c116 29 = some (.aload_n 0, 1, 0, 0) := rfl
theorem k116_30 : ab_fetch ab_c116 30 = some (.getfield 322, 3, 6, 18) := rfl
theorem k116_33 : ab_fetch ab_c116 33 = some (.aload_n 0, 1, 0, 0) := rfl
theorem k116_34 : ab_fetch ab_c116 34 = some (.getfield 349, 3, 6, 21) := rfl
theorem k116_37 : ab_fetch ab_c116 37 = some (.isub, 1, 0, 0) := rfl
theorem k116_38 : ab_fetch ab_c116 38 = some (.istore_n 2, 1, 0, 0) := rfl
theorem k116_39 : ab_fetch ab_c116 39 = some (.aload_n 0, 1, 0, 0) := rfl
theorem k116_40 : ab_fetch ab_c116 40 = some (.invokevirtual 346, 3, 118, 0) := rfl
theorem k116_43 : ab_fetch ab_c116 43 = some (.aload_n 0, 1, 0, 0) := rfl
theorem k116_44 : ab_fetch ab_c116 44 = some (.getfield 307, 3, 6, 11) := rfl
theorem k116_47 : ab_fetch ab_c116 47 = some (.ifCond .ne 17, 3, 64, 0) := rfl
theorem k116_50 : ab_fetch ab_c116 50 = some (.aload_n 0, 1, 0, 0) := rfl
theorem k116_51 : ab_fetch ab_c116 51 = some (.iconst 0, 1, 0, 0) := rfl
theorem k116_52 : ab_fetch ab_c116 52 = some (.invokevirtual 335, 3, 119, 1) := rfl
theorem k116_55 : ab_fetch ab_c116 55 = some (.bipush 58, 2, 0, 0) := rfl
theorem k116_57 : ab_fetch ab_c116 57 = some (.if_icmp .ne 7, 3, 64, 0) := rfl
theorem k116_60 : ab_fetch ab_c116 60 = some (.iconst 1, 1, 0, 0) := rfl
theorem k116_61 : ab_fetch ab_c116 61 = some (.goto 4, 3, 65, 0) := rfl
theorem k116_64 : ab_fetch ab_c116 64 = some (.iconst 0, 1, 0, 0) := rfl
theorem k116_65 : ab_fetch ab_c116 65 = some (.istore_n 1, 1, 0, 0) := rfl
theorem k116_66 : ab_fetch ab_c116 66 = some (.aload_n 0, 1, 0, 0) := rfl
theorem k116_67 : ab_fetch ab_c116 67 = some (.aload_n 0, 1, 0, 0) := rfl
theorem k116_68 : ab_fetch ab_c116 68 = some (.getfield 349, 3, 6, 21) := rfl
theorem k116_71 : ab_fetch ab_c116 71 = some (.iload_n 2, 1, 0, 0) := rfl
theorem k116_72 : ab_fetch ab_c116 72 = some (.iadd, 1, 0, 0) := rfl
theorem k116_73 : ab_fetch ab_c116 73 = some (.putfield 322, 3, 6, 18) := rfl
theorem k116_76 : ab_fetch ab_c116 76 = some (.iload_n 1, 1, 0, 0) := rfl
theorem k116_77 : ab_fetch ab_c116 77 = some (.ifCond .eq 7, 3, 84, 0) := rfl
theorem k116_80 : ab_fetch ab_c116 80 = some (.aload_n 0, 1, 0, 0) := rfl
theorem k116_81 : ab_fetch ab_c116 81 = some (.invokevirtual 539, 3, 132, 0) := rfl
theorem k116_84 : ab_fetch ab_c116 84 = some (.iload_n 1, 1, 0, 0) := rfl
theorem k116_85 : ab_fetch ab_c116 85 = some (.ifCond .eq 27, 3, 112, 0) := rfl
theorem k116_88 : ab_fetch ab_c116 88 = some (.aload_n 0, 1, 0, 0) := rfl
theorem k116_89 : ab_fetch ab_c116 89 = some (.iconst 2, 1, 0, 0) := rfl
theorem k116_90 : ab_fetch ab_c116 90 = some (.aload_n 0, 1, 0, 0) := rfl
theorem k116_91 : ab_fetch ab_c116 91 = some (.getfield 477, 3, 6, 32) := rfl
theorem k116_94 : ab_fetch ab_c116 94 = some (.iadd, 1, 0, 0) := rfl
theorem k116_95 : ab_fetch ab_c116 95 = some (.aload_n 0, 1, 0, 0) := rfl
theorem k116_96 : ab_fetch ab_c116 96 = some (.getfield 349, 3, 6, 21) := rfl
theorem k116_99 : ab_fetch ab_c116 99 = some (.iload_n 2, 1, 0, 0) := rfl
theorem k116_100 : ab_fetch ab_c116 100 = some (.aload_n 0, 1, 0, 0) := rfl
theorem k116_101 : ab_fetch ab_c116 101 = some (.getfield 278, 3, 6, 35) := rfl
theorem k116_104 : ab_fetch ab_c116 104 = some (.aload_n 0, 1, 0, 0) := rfl
theorem k116_105 : ab_fetch ab_c116 105 = some (.getfield 477, 3, 6, 32) := rfl
theorem k116_108 : ab_fetch ab_c116 108 = some (.iaload, 1, 0, 0) := rfl
theorem k116_109 : ab_fetch ab_c116 109 = some (.invokevirtual 542, 3, 137, 4) := rfl
theorem k116_112 : ab_fetch ab_c116 112 = some (.iload_n 1, 1, 0, 0) := rfl
theorem k116_113 : ab_fetch ab_c116 113 = some (.ifCond .eq 14, 3, 127, 0) := rfl
theorem k116_116 : ab_fetch ab_c116 116 = some (.aload_n 0, 1, 0, 0) := rfl
theorem k116_117 : ab_fetch ab_c116 117 = some (.getfield 307, 3, 6, 11) := rfl
theorem k116_120 : ab_fetch ab_c116 120 = some (.ifCond .ne 7, 3, 127, 0) := rfl
theorem k116_123 : ab_fetch ab_c116 123 = some (.aload_n 0, 1, 0, 0) := rfl
theorem k116_124 : ab_fetch ab_c116 124 = some (.invokevirtual 387, 3, 117, 0) := rfl
theorem k116_127 : ab_fetch ab_c116 127 = some (.iload_n 1, 1, 0, 0) := rfl
theorem k116_128 : ab_fetch ab_c116 128 = some (.ifCond .eq 14, 3, 142, 0) := rfl
theorem k116_131 : ab_fetch ab_c116 131 = some (.aload_n 0, 1, 0, 0) := rfl
theorem k116_132 : ab_fetch ab_c116 132 = some (.getfield 307, 3, 6, 11) := rfl
theorem k116_135 : ab_fetch ab_c116 135 = some (.ifCond .ne 7, 3, 142, 0) := rfl
theorem k116_138 : ab_fetch ab_c116 138 = some (.aload_n 0, 1, 0, 0) := rfl
theorem k116_139 : ab_fetch ab_c116 139 = some (.invokevirtual 387, 3, 117, 0) := rfl
theorem k116_142 : ab_fetch ab_c116 142 = some (.goto (-136), 3, 6, 0) := rfl
theorem k116_145 : ab_fetch ab_c116 145 = some (.return_, 1, 0, 0) := rfl
/- CodeSmithModel labels()V -/
def f116_142 (q6 : mS → Int32 → Option mS) (s : mS) (x1 : Int32) : Option mS := q6 s x1
theorem t116_142 {d n : Nat} {Z : Nat → ab_C} (hn : 42 ≤ n) (q6 : mS → Int32 → Option mS) (hq6 : ∀ (s : mS) (l : ab_L) (x1 : Int32) (h0 : ab_get l 0 = some (.ref 22)) (h1 : ab_get l 1 = some (.int x1)) (r : mS) (e : q6 s x1 = some r), ab_Rn (d + 4) 116 6 l [] (ab_hl n (mm_F s Z)) (.inl none) (ab_hl n (mm_F r Z))) : ∀ (s : mS) (l : ab_L) (x1 : Int32) (h0 : ab_get l 0 = some (.ref 22)) (h1 : ab_get l 1 = some (.int x1)) (r : mS) (e : f116_142 q6 s x1 = some r), ab_Rn (d + 4) 116 142 l [] (ab_hl n (mm_F s Z)) (.inl none) (ab_hl n (mm_F r Z)) := by
  intro s l x1 h0 h1 r e
  unfold f116_142 at e
  refine r_goto (pc := 142) p116 k116_142 ?_
  exact hq6 s l x1 h0 h1 r e
def f116_127 (q6 : mS → Int32 → Option mS) (s : mS) (x1 : Int32) : Option mS := (if x1 = 0 then f116_142 q6 s x1 else (if (s.1 11) = 0 then ((f117 s).bind fun r1 => f116_142 q6 r1 x1) else f116_142 q6 s x1))
theorem t116_127 {d n : Nat} {Z : Nat → ab_C} (hn : 42 ≤ n) (q6 : mS → Int32 → Option mS) (hq6 : ∀ (s : mS) (l : ab_L) (x1 : Int32) (h0 : ab_get l 0 = some (.ref 22)) (h1 : ab_get l 1 = some (.int x1)) (r : mS) (e : q6 s x1 = some r), ab_Rn (d + 4) 116 6 l [] (ab_hl n (mm_F s Z)) (.inl none) (ab_hl n (mm_F r Z))) : ∀ (s : mS) (l : ab_L) (x1 : Int32) (h0 : ab_get l 0 = some (.ref 22)) (h1 : ab_get l 1 = some (.int x1)) (r : mS) (e : f116_127 q6 s x1 = some r), ab_Rn (d + 4) 116 127 l [] (ab_hl n (mm_F s Z)) (.inl none) (ab_hl n (mm_F r Z)) := by
  intro s l x1 h0 h1 r e
  unfold f116_127 at e
  refine r_iload_n (pc := 127) p116 k116_127 h1 ?_
  refine r_if_eq (pc := 128) p116 k116_128 (fun c => ?_) (fun c => ?_)
  · have e := (if_pos c).symm.trans e
    exact t116_142 hn q6 hq6 s l x1 h0 h1 r e
  · have e := (if_neg c).symm.trans e
    refine r_aload_n (pc := 131) p116 k116_131 h0 ?_
    refine m_get hn (pc := 132) p116 k116_132 (v := .int (s.1 11)) rfl ?_
    refine r_if_ne (pc := 135) p116 k116_135 (fun c => ?_) (fun c => ?_)
    · have e := (if_neg c).symm.trans e
      exact t116_142 hn q6 hq6 s l x1 h0 h1 r e
    · have e := (if_pos c).symm.trans e
      refine r_aload_n (pc := 138) p116 k116_138 h0 ?_
      obtain ⟨r1, er1, e⟩ := of_bind e
      refine m_cv hn (pc := 139) p116 k116_139 rfl p117 (r := []) rfl rfl rfl rfl rfl (t117 hn s r1 er1) (w := []) rfl ?_
      exact t116_142 hn q6 hq6 r1 l x1 h0 h1 r e
def f116_112 (q6 : mS → Int32 → Option mS) (s : mS) (x1 : Int32) : Option mS := (if x1 = 0 then f116_127 q6 s x1 else (if (s.1 11) = 0 then ((f117 s).bind fun r1 => f116_127 q6 r1 x1) else f116_127 q6 s x1))
theorem t116_112 {d n : Nat} {Z : Nat → ab_C} (hn : 42 ≤ n) (q6 : mS → Int32 → Option mS) (hq6 : ∀ (s : mS) (l : ab_L) (x1 : Int32) (h0 : ab_get l 0 = some (.ref 22)) (h1 : ab_get l 1 = some (.int x1)) (r : mS) (e : q6 s x1 = some r), ab_Rn (d + 4) 116 6 l [] (ab_hl n (mm_F s Z)) (.inl none) (ab_hl n (mm_F r Z))) : ∀ (s : mS) (l : ab_L) (x1 : Int32) (h0 : ab_get l 0 = some (.ref 22)) (h1 : ab_get l 1 = some (.int x1)) (r : mS) (e : f116_112 q6 s x1 = some r), ab_Rn (d + 4) 116 112 l [] (ab_hl n (mm_F s Z)) (.inl none) (ab_hl n (mm_F r Z)) := by
  intro s l x1 h0 h1 r e
  unfold f116_112 at e
  refine r_iload_n (pc := 112) p116 k116_112 h1 ?_
  refine r_if_eq (pc := 113) p116 k116_113 (fun c => ?_) (fun c => ?_)
  · have e := (if_pos c).symm.trans e
    exact t116_127 hn q6 hq6 s l x1 h0 h1 r e
  · have e := (if_neg c).symm.trans e
    refine r_aload_n (pc := 116) p116 k116_116 h0 ?_
    refine m_get hn (pc := 117) p116 k116_117 (v := .int (s.1 11)) rfl ?_
    refine r_if_ne (pc := 120) p116 k116_120 (fun c => ?_) (fun c => ?_)
    · have e := (if_neg c).symm.trans e
      exact t116_127 hn q6 hq6 s l x1 h0 h1 r e
    · have e := (if_pos c).symm.trans e
      refine r_aload_n (pc := 123) p116 k116_123 h0 ?_
      obtain ⟨r1, er1, e⟩ := of_bind e
      refine m_cv hn (pc := 124) p116 k116_124 rfl p117 (r := []) rfl rfl rfl rfl rfl (t117 hn s r1 er1) (w := []) rfl ?_
      exact t116_127 hn q6 hq6 r1 l x1 h0 h1 r e
def f116_84 (q6 : mS → Int32 → Option mS) (s : mS) (x1 : Int32) (x2 : Int32) : Option mS := (if x1 = 0 then f116_112 q6 s x1 else if ib (s.1 32) 2 then ((f137 s ((2 : Int32) + (s.1 32)) (s.1 21) x2 ((s.2 35) (s.1 32).toNatClampNeg)).bind fun r1 => f116_112 q6 r1 x1) else none)
theorem t116_84 {d n : Nat} {Z : Nat → ab_C} (hn : 42 ≤ n) (q6 : mS → Int32 → Option mS) (hq6 : ∀ (s : mS) (l : ab_L) (x1 : Int32) (h0 : ab_get l 0 = some (.ref 22)) (h1 : ab_get l 1 = some (.int x1)) (r : mS) (e : q6 s x1 = some r), ab_Rn (d + 4) 116 6 l [] (ab_hl n (mm_F s Z)) (.inl none) (ab_hl n (mm_F r Z))) : ∀ (s : mS) (l : ab_L) (x1 : Int32) (x2 : Int32) (h0 : ab_get l 0 = some (.ref 22)) (h1 : ab_get l 1 = some (.int x1)) (h2 : ab_get l 2 = some (.int x2)) (r : mS) (e : f116_84 q6 s x1 x2 = some r), ab_Rn (d + 4) 116 84 l [] (ab_hl n (mm_F s Z)) (.inl none) (ab_hl n (mm_F r Z)) := by
  intro s l x1 x2 h0 h1 h2 r e
  unfold f116_84 at e
  refine r_iload_n (pc := 84) p116 k116_84 h1 ?_
  refine r_if_eq (pc := 85) p116 k116_85 (fun c => ?_) (fun c => ?_)
  · have e := (if_pos c).symm.trans e
    exact t116_112 hn q6 hq6 s l x1 h0 h1 r e
  · have e := (if_neg c).symm.trans e
    refine r_aload_n (pc := 88) p116 k116_88 h0 ?_
    refine r_iconst (pc := 89) p116 k116_89 (v := (2 : Int32)) rfl ?_
    refine r_aload_n (pc := 90) p116 k116_90 h0 ?_
    refine m_get hn (pc := 91) p116 k116_91 (v := .int (s.1 32)) rfl ?_
    refine r_iadd (pc := 94) p116 k116_94 ?_
    refine r_aload_n (pc := 95) p116 k116_95 h0 ?_
    refine m_get hn (pc := 96) p116 k116_96 (v := .int (s.1 21)) rfl ?_
    refine r_iload_n (pc := 99) p116 k116_99 h2 ?_
    refine r_aload_n (pc := 100) p116 k116_100 h0 ?_
    refine m_get hn (pc := 101) p116 k116_101 (v := .ref 34) rfl ?_
    refine r_aload_n (pc := 104) p116 k116_104 h0 ?_
    refine m_get hn (pc := 105) p116 k116_105 (v := .int (s.1 32)) rfl ?_
    obtain ⟨c, e⟩ := of_if e
    refine r_iald (pc := 108) p116 k116_108 (m_lt hn rfl) (f := (s.2 35)) rfl c ?_
    obtain ⟨r1, er1, e⟩ := of_bind e
    refine m_cv hn (pc := 109) p116 k116_109 rfl p137 (r := []) rfl rfl rfl rfl rfl (t137 hn s ((2 : Int32) + (s.1 32)) (s.1 21) x2 ((s.2 35) (s.1 32).toNatClampNeg) r1 er1) (w := []) rfl ?_
    exact t116_112 hn q6 hq6 r1 l x1 h0 h1 r e
def f116_65 (q6 : mS → Int32 → Option mS) (s : mS) (x2 : Int32) (y0 : Int32) : Option mS := (if y0 = 0 then f116_84 q6 (mg s 18 ((s.1 21) + x2)) y0 x2 else ((f132 (mg s 18 ((s.1 21) + x2))).bind fun r1 => f116_84 q6 r1 y0 x2))
theorem t116_65 {d n : Nat} {Z : Nat → ab_C} (hn : 42 ≤ n) (q6 : mS → Int32 → Option mS) (hq6 : ∀ (s : mS) (l : ab_L) (x1 : Int32) (h0 : ab_get l 0 = some (.ref 22)) (h1 : ab_get l 1 = some (.int x1)) (r : mS) (e : q6 s x1 = some r), ab_Rn (d + 4) 116 6 l [] (ab_hl n (mm_F s Z)) (.inl none) (ab_hl n (mm_F r Z))) : ∀ (s : mS) (l : ab_L) (x2 : Int32) (y0 : Int32) (h0 : ab_get l 0 = some (.ref 22)) (h2 : ab_get l 2 = some (.int x2)) (r : mS) (e : f116_65 q6 s x2 y0 = some r), ab_Rn (d + 4) 116 65 l [.int y0] (ab_hl n (mm_F s Z)) (.inl none) (ab_hl n (mm_F r Z)) := by
  intro s l x2 y0 h0 h2 r e
  unfold f116_65 at e
  refine r_istore_n (pc := 65) p116 k116_65 (by decide) (fun l g h1 => ?_)
  have h0 := g 0 _ (by decide) h0 (Or.inl rfl)
  have h2 := g 2 _ (by decide) h2 (Or.inl rfl)
  refine r_aload_n (pc := 66) p116 k116_66 h0 ?_
  refine r_aload_n (pc := 67) p116 k116_67 h0 ?_
  refine m_get hn (pc := 68) p116 k116_68 (v := .int (s.1 21)) rfl ?_
  refine r_iload_n (pc := 71) p116 k116_71 h2 ?_
  refine r_iadd (pc := 72) p116 k116_72 ?_
  refine m_put hn (pc := 73) p116 k116_73 rfl rfl rfl rfl ?_
  refine r_iload_n (pc := 76) p116 k116_76 h1 ?_
  refine r_if_eq (pc := 77) p116 k116_77 (fun c => ?_) (fun c => ?_)
  · have e := (if_pos c).symm.trans e
    exact t116_84 hn q6 hq6 (mg s 18 ((s.1 21) + x2)) l y0 x2 h0 h1 h2 r e
  · have e := (if_neg c).symm.trans e
    refine r_aload_n (pc := 80) p116 k116_80 h0 ?_
    obtain ⟨r1, er1, e⟩ := of_bind e
    refine m_cv hn (pc := 81) p116 k116_81 rfl p132 (r := []) rfl rfl rfl rfl rfl (t132 hn (mg s 18 ((s.1 21) + x2)) r1 er1) (w := []) rfl ?_
    exact t116_84 hn q6 hq6 r1 l y0 x2 h0 h1 h2 r e
def f116_64 (q6 : mS → Int32 → Option mS) (s : mS) (x2 : Int32) : Option mS := f116_65 q6 s x2 (0 : Int32)
theorem t116_64 {d n : Nat} {Z : Nat → ab_C} (hn : 42 ≤ n) (q6 : mS → Int32 → Option mS) (hq6 : ∀ (s : mS) (l : ab_L) (x1 : Int32) (h0 : ab_get l 0 = some (.ref 22)) (h1 : ab_get l 1 = some (.int x1)) (r : mS) (e : q6 s x1 = some r), ab_Rn (d + 4) 116 6 l [] (ab_hl n (mm_F s Z)) (.inl none) (ab_hl n (mm_F r Z))) : ∀ (s : mS) (l : ab_L) (x2 : Int32) (h0 : ab_get l 0 = some (.ref 22)) (h2 : ab_get l 2 = some (.int x2)) (r : mS) (e : f116_64 q6 s x2 = some r), ab_Rn (d + 4) 116 64 l [] (ab_hl n (mm_F s Z)) (.inl none) (ab_hl n (mm_F r Z)) := by
  intro s l x2 h0 h2 r e
  unfold f116_64 at e
  refine r_iconst (pc := 64) p116 k116_64 (v := (0 : Int32)) rfl ?_
  exact t116_65 hn q6 hq6 s l x2 (0 : Int32) h0 h2 r e
def f116_6 : Nat → mS → Int32 → Option mS
  | 0, _, _ => none
  | u + 1, s, x1 => (if x1 = 0 then some s else (if (s.1 11) = 0 then (if (s.1 20) = (1 : Int32) then ((f130 s).bind fun r1 => ((f118 r1).bind fun r2 => (if (r2.1 11) = 0 then ((f119 r2 (0 : Int32)).bind fun r3 => (if r3 = (58 : Int32) then f116_65 (f116_6 u) r2 ((r1.1 18) - (r1.1 21)) (1 : Int32) else f116_64 (f116_6 u) r2 ((r1.1 18) - (r1.1 21)))) else f116_64 (f116_6 u) r2 ((r1.1 18) - (r1.1 21))))) else some s) else some s))
theorem t116_6 {d n : Nat} {Z : Nat → ab_C} (hn : 42 ≤ n) : ∀ u : Nat, ∀ (s : mS) (l : ab_L) (x1 : Int32) (h0 : ab_get l 0 = some (.ref 22)) (h1 : ab_get l 1 = some (.int x1)) (r : mS) (e : f116_6 u s x1 = some r), ab_Rn (d + 4) 116 6 l [] (ab_hl n (mm_F s Z)) (.inl none) (ab_hl n (mm_F r Z)) := by
  intro u
  induction u with
  | zero => intro s l x1 h0 h1 r e; rw [f116_6] at e; cases e
  | succ u ih =>
    intro s l x1 h0 h1 r e
    rw [f116_6] at e
    refine r_iload_n (pc := 6) p116 k116_6 h1 ?_
    refine r_if_eq (pc := 7) p116 k116_7 (fun c => ?_) (fun c => ?_)
    · have e := (if_pos c).symm.trans e
      cases e
      exact r_retV (pc := 145) p116 k116_145 rfl
    · have e := (if_neg c).symm.trans e
      refine r_aload_n (pc := 10) p116 k116_10 h0 ?_
      refine m_get hn (pc := 11) p116 k116_11 (v := .int (s.1 11)) rfl ?_
      refine r_if_ne (pc := 14) p116 k116_14 (fun c => ?_) (fun c => ?_)
      · have e := (if_neg c).symm.trans e
        cases e
        exact r_retV (pc := 145) p116 k116_145 rfl
      · have e := (if_pos c).symm.trans e
        refine r_aload_n (pc := 17) p116 k116_17 h0 ?_
        refine m_get hn (pc := 18) p116 k116_18 (v := .int (s.1 20)) rfl ?_
        refine r_iconst (pc := 21) p116 k116_21 (v := (1 : Int32)) rfl ?_
        refine r_ic_ne (pc := 22) p116 k116_22 (fun c => ?_) (fun c => ?_)
        · have e := (if_neg c).symm.trans e
          cases e
          exact r_retV (pc := 145) p116 k116_145 rfl
        · have e := (if_pos c).symm.trans e
          refine r_aload_n (pc := 25) p116 k116_25 h0 ?_
          obtain ⟨r1, er1, e⟩ := of_bind e
          refine m_cv hn (pc := 26) p116 k116_26 rfl p130 (r := []) rfl rfl rfl rfl rfl (t130 hn s r1 er1) (w := []) rfl ?_
          refine r_aload_n (pc := 29) p116 k116_29 h0 ?_
          refine m_get hn (pc := 30) p116 k116_30 (v := .int (r1.1 18)) rfl ?_
          refine r_aload_n (pc := 33) p116 k116_33 h0 ?_
          refine m_get hn (pc := 34) p116 k116_34 (v := .int (r1.1 21)) rfl ?_
          refine r_isub (pc := 37) p116 k116_37 ?_
          refine r_istore_n (pc := 38) p116 k116_38 (by decide) (fun l g h2 => ?_)
          have h0 := g 0 _ (by decide) h0 (Or.inl rfl)
          refine r_aload_n (pc := 39) p116 k116_39 h0 ?_
          obtain ⟨r2, er2, e⟩ := of_bind e
          refine m_cv hn (pc := 40) p116 k116_40 rfl p118 (r := []) rfl rfl rfl rfl rfl (t118 hn r1 r2 er2) (w := []) rfl ?_
          refine r_aload_n (pc := 43) p116 k116_43 h0 ?_
          refine m_get hn (pc := 44) p116 k116_44 (v := .int (r2.1 11)) rfl ?_
          refine r_if_ne (pc := 47) p116 k116_47 (fun c => ?_) (fun c => ?_)
          · have e := (if_neg c).symm.trans e
            exact t116_64 hn (f116_6 u) ih r2 l ((r1.1 18) - (r1.1 21)) h0 h2 r e
          · have e := (if_pos c).symm.trans e
            refine r_aload_n (pc := 50) p116 k116_50 h0 ?_
            refine r_iconst (pc := 51) p116 k116_51 (v := (0 : Int32)) rfl ?_
            obtain ⟨r3, er3, e⟩ := of_bind e
            refine m_cv hn (pc := 52) p116 k116_52 rfl p119 (r := []) rfl rfl rfl rfl rfl (t119 hn r2 (0 : Int32) r3 er3) (w := [.int r3]) rfl ?_
            refine r_bipush (pc := 55) p116 k116_55 (v := (58 : Int32)) rfl ?_
            refine r_ic_ne (pc := 57) p116 k116_57 (fun c => ?_) (fun c => ?_)
            · have e := (if_neg c).symm.trans e
              exact t116_64 hn (f116_6 u) ih r2 l ((r1.1 18) - (r1.1 21)) h0 h2 r e
            · have e := (if_pos c).symm.trans e
              refine r_iconst (pc := 60) p116 k116_60 (v := (1 : Int32)) rfl ?_
              refine r_goto (pc := 61) p116 k116_61 ?_
              exact t116_65 hn (f116_6 u) ih r2 l ((r1.1 18) - (r1.1 21)) (1 : Int32) h0 h2 r e
def f116 (s : mS) : Option mS := ((f117 s).bind fun r1 => f116_6 mm_U r1 (1 : Int32))
theorem t116 {d n : Nat} {Z : Nat → ab_C} (hn : 42 ≤ n) (s : mS) (r : mS) (e : f116 s = some r) : ab_Rn (d + 4) 116 0 (lv_args 0 [.ref 22]) [] (ab_hl n (mm_F s Z)) (.inl none) (ab_hl n (mm_F r Z)) := by
  unfold f116 at e
  obtain ⟨l, hl⟩ : ∃ l, l = (lv_args 0 [.ref 22]) := ⟨_, rfl⟩
  rw [← hl]
  have h0 : ab_get l 0 = some (.ref 22) := by rw [hl]; rfl
  refine r_aload_n (pc := 0) p116 k116_0 h0 ?_
  obtain ⟨r1, er1, e⟩ := of_bind e
  refine m_cv hn (pc := 1) p116 k116_1 rfl p117 (r := []) rfl rfl rfl rfl rfl (t117 hn s r1 er1) (w := []) rfl ?_
  refine r_iconst (pc := 4) p116 k116_4 (v := (1 : Int32)) rfl ?_
  refine r_istore_n (pc := 5) p116 k116_5 (by decide) (fun l g h1 => ?_)
  have h0 := g 0 _ (by decide) h0 (Or.inl rfl)
  exact t116_6 hn mm_U r1 l (1 : Int32) h0 h1 r e

theorem p140 : ab_prog[140]? = some (ab_m140, ab_c140) := rfl
theorem k140_0 : ab_fetch ab_c140 0 = some (.aload_n 0, 1, 0, 0) := rfl
theorem k140_1 : ab_fetch ab_c140 1 = some (.getfield 358, 3, 6, 20) := rfl
theorem k140_4 : ab_fetch ab_c140 4 = some (.iconst 1, 1, 0, 0) := rfl
theorem k140_5 : ab_fetch ab_c140 5 = some (.if_icmp .ne 7, 3, 12, 0) := rfl
theorem k140_8 : ab_fetch ab_c140 8 = some (.aload_n 0, 1, 0, 0) := rfl
theorem k140_9 : ab_fetch ab_c140 9 = some (.invokevirtual 398, 3, 130, 0) := rfl
theorem k140_12 : ab_fetch ab_c140 12 = some (.aload_n 0, 1, 0, 0) := rfl
theorem k140_13 : ab_fetch ab_c140 13 = some (.getfield 307, 3, 6, 11) := rfl
theorem k140_16 : ab_fetch ab_c140 16 = some (.ifCond .ne 31, 3, 47, 0) := rfl
theorem k140_19 : ab_fetch ab_c140 19 = some (.aload_n 0, 1, 0, 0) := rfl
theorem k140_20 : ab_fetch ab_c140 20 = some (.getfield 358, 3, 6, 20) := rfl
theorem k140_23 : ab_fetch ab_c140 23 = some (.iconst 1, 1, 0, 0) := rfl
theorem k140_24 : ab_fetch ab_c140 24 = some (.if_icmp .ne 23, 3, 47, 0) := rfl
theorem k140_27 : ab_fetch ab_c140 27 = some (.aload_n 0, 1, 0, 0) := rfl
theorem k140_28 : ab_fetch ab_c140 28 = some (.aload_n 0, 1, 0, 0) := rfl
theorem k140_29 : ab_fetch ab_c140 29 = some (.getfield 349, 3, 6, 21) := rfl
theorem k140_32 : ab_fetch ab_c140 32 = some (.aload_n 0, 1, 0, 0) := rfl
theorem k140_33 : ab_fetch ab_c140 33 = some (.getfield 322, 3, 6, 18) := rfl
theorem k140_36 : ab_fetch ab_c140 36 = some (.aload_n 0, 1, 0, 0) := rfl
theorem k140_37 : ab_fetch ab_c140 37 = some (.getfield 349, 3, 6, 21) := rfl
theorem k140_40 : ab_fetch ab_c140 40 = some (.isub, 1, 0, 0) := rfl
theorem k140_41 : ab_fetch ab_c140 41 = some (.invokevirtual 401, 3, 134, 2) := rfl
theorem k140_44 : ab_fetch ab_c140 44 = some (.goto 4, 3, 48, 0) := rfl
theorem k140_47 : ab_fetch ab_c140 47 = some (.iconst (-1), 1, 0, 0) := rfl
theorem k140_48 : ab_fetch ab_c140 48 = some (.istore_n 1, 1, 0, 0) := rfl
theorem k140_49 : ab_fetch ab_c140 49 = some (.iload_n 1, 1, 0, 0) := rfl
theorem k140_50 : ab_fetch ab_c140 50 = some (.ifCond .ge 15, 3, 65, 0) := rfl
theorem k140_53 : ab_fetch ab_c140 53 = some (.aload_n 0, 1, 0, 0) := rfl
theorem k140_54 : ab_fetch ab_c140 54 = some (.iconst 1, 1, 0, 0) := rfl
theorem k140_55 : ab_fetch ab_c140 55 = some (.aload_n 0, 1, 0, 0) := rfl
theorem k140_56 : ab_fetch ab_c140 56 = some (.getfield 349, 3, 6, 21) := rfl
theorem k140_59 : ab_fetch ab_c140 59 = some (.invokevirtual 342, 3, 131, 2) := rfl
theorem k140_62 : ab_fetch ab_c140 62 = some (.goto 7, 3, 69, 0) := rfl
theorem k140_65 : ab_fetch ab_c140 65 = some (.aload_n 0, 1, 0, 0) := rfl
theorem k140_66 : ab_fetch ab_c140 66 = some (.invokevirtual 387, 3, 117, 0) := rfl
theorem k140_69 : ab_fetch ab_c140 69 = some (.iload_n 1, 1, 0, 0) := rfl
theorem k140_70 : ab_fetch ab_c140 70 = some (.ifCond .ge 7, 3, 77, 0) := rfl
theorem k140_73 : ab_fetch ab_c140 73 = some (.iconst 0, 1, 0, 0) := rfl
theorem k140_74 : ab_fetch ab_c140 74 = some (.goto 4, 3, 78, 0) := rfl
theorem k140_77 : ab_fetch ab_c140 77 = some (.iload_n 1, 1, 0, 0) := rfl
theorem k140_78 : ab_fetch ab_c140 78 = some (.ireturn, 1, 0, 0) := rfl
/- CodeSmithModel register()I -/
def f140_69 (s : mS) (x1 : Int32) : Option (Int32 × mS) := (if 0 ≤ x1 then some (x1, s) else some ((0 : Int32), s))
theorem t140_69 {d n : Nat} {Z : Nat → ab_C} (hn : 42 ≤ n) : ∀ (s : mS) (l : ab_L) (x1 : Int32) (h1 : ab_get l 1 = some (.int x1)) (r : Int32 × mS) (e : f140_69 s x1 = some r), ab_Rn (d + 4) 140 69 l [] (ab_hl n (mm_F s Z)) (.inl (some (.int r.1))) (ab_hl n (mm_F r.2 Z)) := by
  intro s l x1 h1 r e
  unfold f140_69 at e
  refine r_iload_n (pc := 69) p140 k140_69 h1 ?_
  refine r_if_ge (pc := 70) p140 k140_70 (fun c => ?_) (fun c => ?_)
  · have e := (if_pos c).symm.trans e
    refine r_iload_n (pc := 77) p140 k140_77 h1 ?_
    cases e
    exact r_retI (pc := 78) p140 k140_78 rfl
  · have e := (if_neg c).symm.trans e
    refine r_iconst (pc := 73) p140 k140_73 (v := (0 : Int32)) rfl ?_
    refine r_goto (pc := 74) p140 k140_74 ?_
    cases e
    exact r_retI (pc := 78) p140 k140_78 rfl
def f140_48 (s : mS) (y0 : Int32) : Option (Int32 × mS) := (if 0 ≤ y0 then ((f117 s).bind fun r1 => f140_69 r1 y0) else ((f131 s (1 : Int32) (s.1 21)).bind fun r1 => f140_69 r1 y0))
theorem t140_48 {d n : Nat} {Z : Nat → ab_C} (hn : 42 ≤ n) : ∀ (s : mS) (l : ab_L) (y0 : Int32) (h0 : ab_get l 0 = some (.ref 22)) (r : Int32 × mS) (e : f140_48 s y0 = some r), ab_Rn (d + 4) 140 48 l [.int y0] (ab_hl n (mm_F s Z)) (.inl (some (.int r.1))) (ab_hl n (mm_F r.2 Z)) := by
  intro s l y0 h0 r e
  unfold f140_48 at e
  refine r_istore_n (pc := 48) p140 k140_48 (by decide) (fun l g h1 => ?_)
  have h0 := g 0 _ (by decide) h0 (Or.inl rfl)
  refine r_iload_n (pc := 49) p140 k140_49 h1 ?_
  refine r_if_ge (pc := 50) p140 k140_50 (fun c => ?_) (fun c => ?_)
  · have e := (if_pos c).symm.trans e
    refine r_aload_n (pc := 65) p140 k140_65 h0 ?_
    obtain ⟨r1, er1, e⟩ := of_bind e
    refine m_cv hn (pc := 66) p140 k140_66 rfl p117 (r := []) rfl rfl rfl rfl rfl (t117 hn s r1 er1) (w := []) rfl ?_
    exact t140_69 hn r1 l y0 h1 r e
  · have e := (if_neg c).symm.trans e
    refine r_aload_n (pc := 53) p140 k140_53 h0 ?_
    refine r_iconst (pc := 54) p140 k140_54 (v := (1 : Int32)) rfl ?_
    refine r_aload_n (pc := 55) p140 k140_55 h0 ?_
    refine m_get hn (pc := 56) p140 k140_56 (v := .int (s.1 21)) rfl ?_
    obtain ⟨r1, er1, e⟩ := of_bind e
    refine m_cv hn (pc := 59) p140 k140_59 rfl p131 (r := []) rfl rfl rfl rfl rfl (t131 hn s (1 : Int32) (s.1 21) r1 er1) (w := []) rfl ?_
    refine r_goto (pc := 62) p140 k140_62 ?_
    exact t140_69 hn r1 l y0 h1 r e
def f140_47 (s : mS) : Option (Int32 × mS) := f140_48 s (-1 : Int32)
theorem t140_47 {d n : Nat} {Z : Nat → ab_C} (hn : 42 ≤ n) : ∀ (s : mS) (l : ab_L)  (h0 : ab_get l 0 = some (.ref 22)) (r : Int32 × mS) (e : f140_47 s  = some r), ab_Rn (d + 4) 140 47 l [] (ab_hl n (mm_F s Z)) (.inl (some (.int r.1))) (ab_hl n (mm_F r.2 Z)) := by
  intro s l h0 r e
  unfold f140_47 at e
  refine r_iconst (pc := 47) p140 k140_47 (v := (-1 : Int32)) rfl ?_
  exact t140_48 hn s l (-1 : Int32) h0 r e
def f140_12 (s : mS) : Option (Int32 × mS) := (if (s.1 11) = 0 then (if (s.1 20) = (1 : Int32) then ((f134 s (s.1 21) ((s.1 18) - (s.1 21))).bind fun r1 => f140_48 s r1) else f140_47 s) else f140_47 s)
theorem t140_12 {d n : Nat} {Z : Nat → ab_C} (hn : 42 ≤ n) : ∀ (s : mS) (l : ab_L)  (h0 : ab_get l 0 = some (.ref 22)) (r : Int32 × mS) (e : f140_12 s  = some r), ab_Rn (d + 4) 140 12 l [] (ab_hl n (mm_F s Z)) (.inl (some (.int r.1))) (ab_hl n (mm_F r.2 Z)) := by
  intro s l h0 r e
  unfold f140_12 at e
  refine r_aload_n (pc := 12) p140 k140_12 h0 ?_
  refine m_get hn (pc := 13) p140 k140_13 (v := .int (s.1 11)) rfl ?_
  refine r_if_ne (pc := 16) p140 k140_16 (fun c => ?_) (fun c => ?_)
  · have e := (if_neg c).symm.trans e
    exact t140_47 hn s l h0 r e
  · have e := (if_pos c).symm.trans e
    refine r_aload_n (pc := 19) p140 k140_19 h0 ?_
    refine m_get hn (pc := 20) p140 k140_20 (v := .int (s.1 20)) rfl ?_
    refine r_iconst (pc := 23) p140 k140_23 (v := (1 : Int32)) rfl ?_
    refine r_ic_ne (pc := 24) p140 k140_24 (fun c => ?_) (fun c => ?_)
    · have e := (if_neg c).symm.trans e
      exact t140_47 hn s l h0 r e
    · have e := (if_pos c).symm.trans e
      refine r_aload_n (pc := 27) p140 k140_27 h0 ?_
      refine r_aload_n (pc := 28) p140 k140_28 h0 ?_
      refine m_get hn (pc := 29) p140 k140_29 (v := .int (s.1 21)) rfl ?_
      refine r_aload_n (pc := 32) p140 k140_32 h0 ?_
      refine m_get hn (pc := 33) p140 k140_33 (v := .int (s.1 18)) rfl ?_
      refine r_aload_n (pc := 36) p140 k140_36 h0 ?_
      refine m_get hn (pc := 37) p140 k140_37 (v := .int (s.1 21)) rfl ?_
      refine r_isub (pc := 40) p140 k140_40 ?_
      obtain ⟨r1, er1, e⟩ := of_bind e
      refine m_cv hn (pc := 41) p140 k140_41 rfl p134 (r := []) rfl rfl rfl rfl rfl (t134 hn s (s.1 21) ((s.1 18) - (s.1 21)) r1 er1) (w := [.int r1]) rfl ?_
      refine r_goto (pc := 44) p140 k140_44 ?_
      exact t140_48 hn s l r1 h0 r e
def f140 (s : mS) : Option (Int32 × mS) := (if (s.1 20) = (1 : Int32) then ((f130 s).bind fun r1 => f140_12 r1) else f140_12 s)
theorem t140 {d n : Nat} {Z : Nat → ab_C} (hn : 42 ≤ n) (s : mS) (r : Int32 × mS) (e : f140 s = some r) : ab_Rn (d + 4) 140 0 (lv_args 0 [.ref 22]) [] (ab_hl n (mm_F s Z)) (.inl (some (.int r.1))) (ab_hl n (mm_F r.2 Z)) := by
  unfold f140 at e
  obtain ⟨l, hl⟩ : ∃ l, l = (lv_args 0 [.ref 22]) := ⟨_, rfl⟩
  rw [← hl]
  have h0 : ab_get l 0 = some (.ref 22) := by rw [hl]; rfl
  refine r_aload_n (pc := 0) p140 k140_0 h0 ?_
  refine m_get hn (pc := 1) p140 k140_1 (v := .int (s.1 20)) rfl ?_
  refine r_iconst (pc := 4) p140 k140_4 (v := (1 : Int32)) rfl ?_
  refine r_ic_ne (pc := 5) p140 k140_5 (fun c => ?_) (fun c => ?_)
  · have e := (if_neg c).symm.trans e
    exact t140_12 hn s l h0 r e
  · have e := (if_pos c).symm.trans e
    refine r_aload_n (pc := 8) p140 k140_8 h0 ?_
    obtain ⟨r1, er1, e⟩ := of_bind e
    refine m_cv hn (pc := 9) p140 k140_9 rfl p130 (r := []) rfl rfl rfl rfl rfl (t130 hn s r1 er1) (w := []) rfl ?_
    exact t140_12 hn r1 l h0 r e
