theorem p27 : ab_prog[27]? = some (ab_m27, ab_c27) := rfl
theorem k27_0 : ab_fetch ab_c27 0 = some (.iload_n 0, 1, 0, 0) := rfl
theorem k27_1 : ab_fetch ab_c27 1 = some (.bipush 97, 2, 0, 0) := rfl
theorem k27_3 : ab_fetch ab_c27 3 = some (.if_icmp .lt 9, 3, 12, 0) := rfl
theorem k27_6 : ab_fetch ab_c27 6 = some (.iload_n 0, 1, 0, 0) := rfl
theorem k27_7 : ab_fetch ab_c27 7 = some (.bipush 122, 2, 0, 0) := rfl
theorem k27_9 : ab_fetch ab_c27 9 = some (.if_icmp .le 39, 3, 48, 0) := rfl
theorem k27_12 : ab_fetch ab_c27 12 = some (.iload_n 0, 1, 0, 0) := rfl
theorem k27_13 : ab_fetch ab_c27 13 = some (.bipush 65, 2, 0, 0) := rfl
theorem k27_15 : ab_fetch ab_c27 15 = some (.if_icmp .lt 9, 3, 24, 0) := rfl
theorem k27_18 : ab_fetch ab_c27 18 = some (.iload_n 0, 1, 0, 0) := rfl
theorem k27_19 : ab_fetch ab_c27 19 = some (.bipush 90, 2, 0, 0) := rfl
theorem k27_21 : ab_fetch ab_c27 21 = some (.if_icmp .le 27, 3, 48, 0) := rfl
theorem k27_24 : ab_fetch ab_c27 24 = some (.iload_n 0, 1, 0, 0) := rfl
theorem k27_25 : ab_fetch ab_c27 25 = some (.bipush 48, 2, 0, 0) := rfl
theorem k27_27 : ab_fetch ab_c27 27 = some (.if_icmp .lt 9, 3, 36, 0) := rfl
theorem k27_30 : ab_fetch ab_c27 30 = some (.iload_n 0, 1, 0, 0) := rfl
theorem k27_31 : ab_fetch ab_c27 31 = some (.bipush 57, 2, 0, 0) := rfl
theorem k27_33 : ab_fetch ab_c27 33 = some (.if_icmp .le 15, 3, 48, 0) := rfl
theorem k27_36 : ab_fetch ab_c27 36 = some (.iload_n 0, 1, 0, 0) := rfl
theorem k27_37 : ab_fetch ab_c27 37 = some (.bipush 95, 2, 0, 0) := rfl
theorem k27_39 : ab_fetch ab_c27 39 = some (.if_icmp .eq 9, 3, 48, 0) := rfl
theorem k27_42 : ab_fetch ab_c27 42 = some (.iload_n 0, 1, 0, 0) := rfl
theorem k27_43 : ab_fetch ab_c27 43 = some (.bipush 46, 2, 0, 0) := rfl
theorem k27_45 : ab_fetch ab_c27 45 = some (.if_icmp .ne 7, 3, 52, 0) := rfl
theorem k27_48 : ab_fetch ab_c27 48 = some (.iconst 1, 1, 0, 0) := rfl
theorem k27_49 : ab_fetch ab_c27 49 = some (.goto 4, 3, 53, 0) := rfl
theorem k27_52 : ab_fetch ab_c27 52 = some (.iconst 0, 1, 0, 0) := rfl
theorem k27_53 : ab_fetch ab_c27 53 = some (.ireturn, 1, 0, 0) := rfl
/- CodeSmith$Tokens isOfName(I)Z -/
def f27_48 : Int32 := (1 : Int32)
theorem t27_48 {d : Nat} {h : ab_H} : ∀ (l : ab_L)   (r : Int32) (e : f27_48  = r), ab_Rn d 27 48 l [] h (.inl (some (.int r))) h := by
  intro l r e
  unfold f27_48 at e
  refine r_iconst (pc := 48) p27 k27_48 (v := (1 : Int32)) rfl ?_
  refine r_goto (pc := 49) p27 k27_49 ?_
  subst e
  exact r_retZ (pc := 53) p27 k27_53 rfl (Or.inr rfl)
def f27_36 (x0 : Int32) : Int32 := (if x0 = (95 : Int32) then f27_48 else (if x0 = (46 : Int32) then f27_48 else (0 : Int32)))
theorem t27_36 {d : Nat} {h : ab_H} : ∀ (l : ab_L) (x0 : Int32) (h0 : ab_get l 0 = some (.int x0)) (r : Int32) (e : f27_36 x0 = r), ab_Rn d 27 36 l [] h (.inl (some (.int r))) h := by
  intro l x0 h0 r e
  unfold f27_36 at e
  refine r_iload_n (pc := 36) p27 k27_36 h0 ?_
  refine r_bipush (pc := 37) p27 k27_37 (v := (95 : Int32)) rfl ?_
  refine r_ic_eq (pc := 39) p27 k27_39 (fun c => ?_) (fun c => ?_)
  · have e := (if_pos c).symm.trans e
    exact t27_48 l r e
  · have e := (if_neg c).symm.trans e
    refine r_iload_n (pc := 42) p27 k27_42 h0 ?_
    refine r_bipush (pc := 43) p27 k27_43 (v := (46 : Int32)) rfl ?_
    refine r_ic_ne (pc := 45) p27 k27_45 (fun c => ?_) (fun c => ?_)
    · have e := (if_neg c).symm.trans e
      refine r_iconst (pc := 52) p27 k27_52 (v := (0 : Int32)) rfl ?_
      subst e
      exact r_retZ (pc := 53) p27 k27_53 rfl (Or.inl rfl)
    · have e := (if_pos c).symm.trans e
      exact t27_48 l r e
def f27_24 (x0 : Int32) : Int32 := (if x0 < (48 : Int32) then f27_36 x0 else (if x0 ≤ (57 : Int32) then f27_48 else f27_36 x0))
theorem t27_24 {d : Nat} {h : ab_H} : ∀ (l : ab_L) (x0 : Int32) (h0 : ab_get l 0 = some (.int x0)) (r : Int32) (e : f27_24 x0 = r), ab_Rn d 27 24 l [] h (.inl (some (.int r))) h := by
  intro l x0 h0 r e
  unfold f27_24 at e
  refine r_iload_n (pc := 24) p27 k27_24 h0 ?_
  refine r_bipush (pc := 25) p27 k27_25 (v := (48 : Int32)) rfl ?_
  refine r_ic_lt (pc := 27) p27 k27_27 (fun c => ?_) (fun c => ?_)
  · have e := (if_pos c).symm.trans e
    exact t27_36 l x0 h0 r e
  · have e := (if_neg c).symm.trans e
    refine r_iload_n (pc := 30) p27 k27_30 h0 ?_
    refine r_bipush (pc := 31) p27 k27_31 (v := (57 : Int32)) rfl ?_
    refine r_ic_le (pc := 33) p27 k27_33 (fun c => ?_) (fun c => ?_)
    · have e := (if_pos c).symm.trans e
      exact t27_48 l r e
    · have e := (if_neg c).symm.trans e
      exact t27_36 l x0 h0 r e
def f27_12 (x0 : Int32) : Int32 := (if x0 < (65 : Int32) then f27_24 x0 else (if x0 ≤ (90 : Int32) then f27_48 else f27_24 x0))
theorem t27_12 {d : Nat} {h : ab_H} : ∀ (l : ab_L) (x0 : Int32) (h0 : ab_get l 0 = some (.int x0)) (r : Int32) (e : f27_12 x0 = r), ab_Rn d 27 12 l [] h (.inl (some (.int r))) h := by
  intro l x0 h0 r e
  unfold f27_12 at e
  refine r_iload_n (pc := 12) p27 k27_12 h0 ?_
  refine r_bipush (pc := 13) p27 k27_13 (v := (65 : Int32)) rfl ?_
  refine r_ic_lt (pc := 15) p27 k27_15 (fun c => ?_) (fun c => ?_)
  · have e := (if_pos c).symm.trans e
    exact t27_24 l x0 h0 r e
  · have e := (if_neg c).symm.trans e
    refine r_iload_n (pc := 18) p27 k27_18 h0 ?_
    refine r_bipush (pc := 19) p27 k27_19 (v := (90 : Int32)) rfl ?_
    refine r_ic_le (pc := 21) p27 k27_21 (fun c => ?_) (fun c => ?_)
    · have e := (if_pos c).symm.trans e
      exact t27_48 l r e
    · have e := (if_neg c).symm.trans e
      exact t27_24 l x0 h0 r e
def f27 (x0 : Int32) : Int32 := (if x0 < (97 : Int32) then f27_12 x0 else (if x0 ≤ (122 : Int32) then f27_48 else f27_12 x0))
theorem t27 {d : Nat} {h : ab_H} (x0 : Int32) (r : Int32) (e : f27 x0 = r) : ab_Rn d 27 0 (lv_args 0 [.int x0]) [] h (.inl (some (.int r))) h := by
  unfold f27 at e
  obtain ⟨l, hl⟩ : ∃ l, l = (lv_args 0 [.int x0]) := ⟨_, rfl⟩
  rw [← hl]
  have h0 : ab_get l 0 = some (.int x0) := by rw [hl]; rfl
  refine r_iload_n (pc := 0) p27 k27_0 h0 ?_
  refine r_bipush (pc := 1) p27 k27_1 (v := (97 : Int32)) rfl ?_
  refine r_ic_lt (pc := 3) p27 k27_3 (fun c => ?_) (fun c => ?_)
  · have e := (if_pos c).symm.trans e
    exact t27_12 l x0 h0 r e
  · have e := (if_neg c).symm.trans e
    refine r_iload_n (pc := 6) p27 k27_6 h0 ?_
    refine r_bipush (pc := 7) p27 k27_7 (v := (122 : Int32)) rfl ?_
    refine r_ic_le (pc := 9) p27 k27_9 (fun c => ?_) (fun c => ?_)
    · have e := (if_pos c).symm.trans e
      exact t27_48 l r e
    · have e := (if_neg c).symm.trans e
      exact t27_12 l x0 h0 r e

theorem p28 : ab_prog[28]? = some (ab_m28, ab_c28) := rfl
theorem k28_0 : ab_fetch ab_c28 0 = some (.iload_n 0, 1, 0, 0) := rfl
theorem k28_1 : ab_fetch ab_c28 1 = some (.bipush 48, 2, 0, 0) := rfl
theorem k28_3 : ab_fetch ab_c28 3 = some (.if_icmp .lt 13, 3, 16, 0) := rfl
theorem k28_6 : ab_fetch ab_c28 6 = some (.iload_n 0, 1, 0, 0) := rfl
theorem k28_7 : ab_fetch ab_c28 7 = some (.bipush 57, 2, 0, 0) := rfl
theorem k28_9 : ab_fetch ab_c28 9 = some (.if_icmp .gt 7, 3, 16, 0) := rfl
theorem k28_12 : ab_fetch ab_c28 12 = some (.iconst 1, 1, 0, 0) := rfl
theorem k28_13 : ab_fetch ab_c28 13 = some (.goto 4, 3, 17, 0) := rfl
theorem k28_16 : ab_fetch ab_c28 16 = some (.iconst 0, 1, 0, 0) := rfl
theorem k28_17 : ab_fetch ab_c28 17 = some (.ireturn, 1, 0, 0) := rfl
/- CodeSmith$Tokens isDigit(I)Z -/
def f28 (x0 : Int32) : Int32 := (if x0 < (48 : Int32) then (0 : Int32) else (if (57 : Int32) < x0 then (0 : Int32) else (1 : Int32)))
theorem t28 {d : Nat} {h : ab_H} (x0 : Int32) (r : Int32) (e : f28 x0 = r) : ab_Rn d 28 0 (lv_args 0 [.int x0]) [] h (.inl (some (.int r))) h := by
  unfold f28 at e
  obtain ⟨l, hl⟩ : ∃ l, l = (lv_args 0 [.int x0]) := ⟨_, rfl⟩
  rw [← hl]
  have h0 : ab_get l 0 = some (.int x0) := by rw [hl]; rfl
  refine r_iload_n (pc := 0) p28 k28_0 h0 ?_
  refine r_bipush (pc := 1) p28 k28_1 (v := (48 : Int32)) rfl ?_
  refine r_ic_lt (pc := 3) p28 k28_3 (fun c => ?_) (fun c => ?_)
  · have e := (if_pos c).symm.trans e
    refine r_iconst (pc := 16) p28 k28_16 (v := (0 : Int32)) rfl ?_
    subst e
    exact r_retZ (pc := 17) p28 k28_17 rfl (Or.inl rfl)
  · have e := (if_neg c).symm.trans e
    refine r_iload_n (pc := 6) p28 k28_6 h0 ?_
    refine r_bipush (pc := 7) p28 k28_7 (v := (57 : Int32)) rfl ?_
    refine r_ic_gt (pc := 9) p28 k28_9 (fun c => ?_) (fun c => ?_)
    · have e := (if_pos c).symm.trans e
      refine r_iconst (pc := 16) p28 k28_16 (v := (0 : Int32)) rfl ?_
      subst e
      exact r_retZ (pc := 17) p28 k28_17 rfl (Or.inl rfl)
    · have e := (if_neg c).symm.trans e
      refine r_iconst (pc := 12) p28 k28_12 (v := (1 : Int32)) rfl ?_
      refine r_goto (pc := 13) p28 k28_13 ?_
      subst e
      exact r_retZ (pc := 17) p28 k28_17 rfl (Or.inr rfl)

theorem p30 : ab_prog[30]? = some (ab_m30, ab_c30) := rfl
theorem k30_0 : ab_fetch ab_c30 0 = some (.aload_n 0, 1, 0, 0) := rfl
theorem k30_1 : ab_fetch ab_c30 1 = some (.getfield 88, 3, 4, 14) := rfl
theorem k30_4 : ab_fetch ab_c30 4 = some (.aload_n 0, 1, 0, 0) := rfl
theorem k30_5 : ab_fetch ab_c30 5 = some (.getfield 15, 3, 4, 11) := rfl
theorem k30_8 : ab_fetch ab_c30 8 = some (.arraylength, 1, 0, 0) := rfl
theorem k30_9 : ab_fetch ab_c30 9 = some (.if_icmp .ge 43, 3, 52, 0) := rfl
theorem k30_12 : ab_fetch ab_c30 12 = some (.aload_n 0, 1, 0, 0) := rfl
theorem k30_13 : ab_fetch ab_c30 13 = some (.getfield 15, 3, 4, 11) := rfl
theorem k30_16 : ab_fetch ab_c30 16 = some (.aload_n 0, 1, 0, 0) := rfl
theorem k30_17 : ab_fetch ab_c30 17 = some (.getfield 88, 3, 4, 14) := rfl
theorem k30_20 : ab_fetch ab_c30 20 = some (.iload_n 1, 1, 0, 0) := rfl
theorem k30_21 : ab_fetch ab_c30 21 = some (.iastore, 1, 0, 0) := rfl
theorem k30_22 : ab_fetch ab_c30 22 = some (.aload_n 0, 1, 0, 0) := rfl
theorem k30_23 : ab_fetch ab_c30 23 = some (.getfield 19, 3, 4, 12) := rfl
theorem k30_26 : ab_fetch ab_c30 26 = some (.aload_n 0, 1, 0, 0) := rfl
theorem k30_27 : ab_fetch ab_c30 27 = some (.getfield 88, 3, 4, 14) := rfl
theorem k30_30 : ab_fetch ab_c30 30 = some (.iload_n 2, 1, 0, 0) := rfl
theorem k30_31 : ab_fetch ab_c30 31 = some (.iastore, 1, 0, 0) := rfl
theorem k30_32 : ab_fetch ab_c30 32 = some (.aload_n 0, 1, 0, 0) := rfl
theorem k30_33 : ab_fetch ab_c30 33 = some (.getfield 22, 3, 4, 13) := rfl
theorem k30_36 : ab_fetch ab_c30 36 = some (.aload_n 0, 1, 0, 0) := rfl
theorem k30_37 : ab_fetch ab_c30 37 = some (.getfield 88, 3, 4, 14) := rfl
theorem k30_40 : ab_fetch ab_c30 40 = some (.iload_n 3, 1, 0, 0) := rfl
theorem k30_41 : ab_fetch ab_c30 41 = some (.iastore, 1, 0, 0) := rfl
theorem k30_42 : ab_fetch ab_c30 42 = some (.aload_n 0, 1, 0, 0) := rfl
theorem k30_43 : ab_fetch ab_c30 43 = some (.dup, 1, 0, 0) := rfl
theorem k30_44 : ab_fetch ab_c30 44 = some (.getfield 88, 3, 4, 14) := rfl
theorem k30_47 : ab_fetch ab_c30 47 = some (.iconst 1, 1, 0, 0) := rfl
theorem k30_48 : ab_fetch ab_c30 48 = some (.iadd, 1, 0, 0) := rfl
theorem k30_49 : ab_fetch ab_c30 49 = some (.putfield 88, 3, 4, 14) := rfl
theorem k30_52 : ab_fetch ab_c30 52 = some (.return_, 1, 0, 0) := rfl
/- CodeSmith$Tokens add(III)V -/
def f30 (s : cS) (x1 : Int32) (x2 : Int32) (x3 : Int32) : Option cS := if cA s 1 (s.2.1 11 11) then (if (Int32.ofNat (cl s (s.2.1 11 11))) ≤ (s.1 11 14) then some s else if cB s 1 (s.2.1 11 11) (s.1 11 14) then if cB (cw s (s.2.1 11 11) (s.1 11 14) x1) 1 (s.2.1 11 12) (s.1 11 14) then if cB (cw (cw s (s.2.1 11 11) (s.1 11 14) x1) (s.2.1 11 12) (s.1 11 14) x2) 1 (s.2.1 11 13) (s.1 11 14) then some (cg (cw (cw (cw s (s.2.1 11 11) (s.1 11 14) x1) (s.2.1 11 12) (s.1 11 14) x2) (s.2.1 11 13) (s.1 11 14) x3) 11 14 ((s.1 11 14) + (1 : Int32))) else none else none else none) else none
theorem t30 {d : Nat} {Z : Nat → ab_C} (s : cS) (x1 : Int32) (x2 : Int32) (x3 : Int32) (r : cS) (e : f30 s x1 x2 x3 = some r) : ab_Rn d 30 0 (lv_args 0 [.ref 11, .int x1, .int x2, .int x3]) [] (ch s Z) (.inl none) (ch r Z) := by
  unfold f30 at e
  obtain ⟨l, hl⟩ : ∃ l, l = (lv_args 0 [.ref 11, .int x1, .int x2, .int x3]) := ⟨_, rfl⟩
  rw [← hl]
  have h0 : ab_get l 0 = some (.ref 11) := by rw [hl]; rfl
  have h1 : ab_get l 1 = some (.int x1) := by rw [hl]; rfl
  have h2 : ab_get l 2 = some (.int x2) := by rw [hl]; rfl
  have h3 : ab_get l 3 = some (.int x3) := by rw [hl]; rfl
  refine r_aload_n (pc := 0) p30 k30_0 h0 ?_
  refine c_get (i := 11) rfl (pc := 1) p30 k30_1 rfl rfl (v := .int (s.1 11 14)) rfl ?_
  refine r_aload_n (pc := 4) p30 k30_4 h0 ?_
  refine c_get (i := 11) rfl (pc := 5) p30 k30_5 rfl rfl (v := .ref (s.2.1 11 11)) rfl ?_
  obtain ⟨c, e⟩ := of_if e
  refine c_alen (pc := 8) p30 k30_8 (t := 1) rfl c ?_
  refine r_ic_ge (pc := 9) p30 k30_9 (fun c => ?_) (fun c => ?_)
  · have e := (if_pos c).symm.trans e
    obtain rfl := Option.some.inj e
    exact r_retV (pc := 52) p30 k30_52 rfl
  · have e := (if_neg c).symm.trans e
    refine r_aload_n (pc := 12) p30 k30_12 h0 ?_
    refine c_get (i := 11) rfl (pc := 13) p30 k30_13 rfl rfl (v := .ref (s.2.1 11 11)) rfl ?_
    refine r_aload_n (pc := 16) p30 k30_16 h0 ?_
    refine c_get (i := 11) rfl (pc := 17) p30 k30_17 rfl rfl (v := .int (s.1 11 14)) rfl ?_
    refine r_iload_n (pc := 20) p30 k30_20 h1 ?_
    obtain ⟨c, e⟩ := of_if e
    refine c_ist (pc := 21) p30 k30_21 c ?_
    refine r_aload_n (pc := 22) p30 k30_22 h0 ?_
    refine c_get (i := 11) rfl (pc := 23) p30 k30_23 rfl rfl (v := .ref (s.2.1 11 12)) rfl ?_
    refine r_aload_n (pc := 26) p30 k30_26 h0 ?_
    refine c_get (i := 11) rfl (pc := 27) p30 k30_27 rfl rfl (v := .int (s.1 11 14)) rfl ?_
    refine r_iload_n (pc := 30) p30 k30_30 h2 ?_
    obtain ⟨c, e⟩ := of_if e
    refine c_ist (pc := 31) p30 k30_31 c ?_
    refine r_aload_n (pc := 32) p30 k30_32 h0 ?_
    refine c_get (i := 11) rfl (pc := 33) p30 k30_33 rfl rfl (v := .ref (s.2.1 11 13)) rfl ?_
    refine r_aload_n (pc := 36) p30 k30_36 h0 ?_
    refine c_get (i := 11) rfl (pc := 37) p30 k30_37 rfl rfl (v := .int (s.1 11 14)) rfl ?_
    refine r_iload_n (pc := 40) p30 k30_40 h3 ?_
    obtain ⟨c, e⟩ := of_if e
    refine c_ist (pc := 41) p30 k30_41 c ?_
    refine r_aload_n (pc := 42) p30 k30_42 h0 ?_
    refine r_dup (pc := 43) p30 k30_43 rfl ?_
    refine c_get (i := 11) rfl (pc := 44) p30 k30_44 rfl rfl (v := .int (s.1 11 14)) rfl ?_
    refine r_iconst (pc := 47) p30 k30_47 (v := (1 : Int32)) rfl ?_
    refine r_iadd (pc := 48) p30 k30_48 ?_
    refine c_put (i := 11) rfl (pc := 49) p30 k30_49 rfl rfl rfl (cc_g11 _ Z 14 _) (cs11_14 _ _) rfl rfl ?_
    obtain rfl := Option.some.inj e
    exact r_retV (pc := 52) p30 k30_52 rfl

theorem p31 : ab_prog[31]? = some (ab_m31, ab_c31) := rfl
theorem k31_0 : ab_fetch ab_c31 0 = some (.aload_n 0, 1, 0, 0) := rfl
theorem k31_1 : ab_fetch ab_c31 1 = some (.aload_n 0, 1, 0, 0) := rfl
theorem k31_2 : ab_fetch ab_c31 2 = some (.getfield 88, 3, 4, 14) := rfl
theorem k31_5 : ab_fetch ab_c31 5 = some (.iconst 1, 1, 0, 0) := rfl
theorem k31_6 : ab_fetch ab_c31 6 = some (.isub, 1, 0, 0) := rfl
theorem k31_7 : ab_fetch ab_c31 7 = some (.putfield 82, 3, 4, 16) := rfl
theorem k31_10 : ab_fetch ab_c31 10 = some (.aload_n 0, 1, 0, 0) := rfl
theorem k31_11 : ab_fetch ab_c31 11 = some (.iload_n 1, 1, 0, 0) := rfl
theorem k31_12 : ab_fetch ab_c31 12 = some (.putfield 85, 3, 4, 17) := rfl
theorem k31_15 : ab_fetch ab_c31 15 = some (.return_, 1, 0, 0) := rfl
/- CodeSmith$Tokens spoil(I)V -/
def f31 (s : cS) (x1 : Int32) : cS := (cg (cg s 11 16 ((s.1 11 14) - (1 : Int32))) 11 17 x1)
theorem t31 {d : Nat} {Z : Nat → ab_C} (s : cS) (x1 : Int32) (r : cS) (e : f31 s x1 = r) : ab_Rn d 31 0 (lv_args 0 [.ref 11, .int x1]) [] (ch s Z) (.inl none) (ch r Z) := by
  unfold f31 at e
  obtain ⟨l, hl⟩ : ∃ l, l = (lv_args 0 [.ref 11, .int x1]) := ⟨_, rfl⟩
  rw [← hl]
  have h0 : ab_get l 0 = some (.ref 11) := by rw [hl]; rfl
  have h1 : ab_get l 1 = some (.int x1) := by rw [hl]; rfl
  refine r_aload_n (pc := 0) p31 k31_0 h0 ?_
  refine r_aload_n (pc := 1) p31 k31_1 h0 ?_
  refine c_get (i := 11) rfl (pc := 2) p31 k31_2 rfl rfl (v := .int (s.1 11 14)) rfl ?_
  refine r_iconst (pc := 5) p31 k31_5 (v := (1 : Int32)) rfl ?_
  refine r_isub (pc := 6) p31 k31_6 ?_
  refine c_put (i := 11) rfl (pc := 7) p31 k31_7 rfl rfl rfl (cc_g11 _ Z 16 _) (cs11_16 _ _) rfl rfl ?_
  refine r_aload_n (pc := 10) p31 k31_10 h0 ?_
  refine r_iload_n (pc := 11) p31 k31_11 h1 ?_
  refine c_put (i := 11) rfl (pc := 12) p31 k31_12 rfl rfl rfl (cc_g11 _ Z 17 _) (cs11_17 _ _) rfl rfl ?_
  subst e
  exact r_retV (pc := 15) p31 k31_15 rfl

theorem p29 : ab_prog[29]? = some (ab_m29, ab_c29) := rfl
theorem k29_0 : ab_fetch ab_c29 0 = some (.iload_n 1, 1, 0, 0) := rfl
theorem k29_1 : ab_fetch ab_c29 1 = some (.istore_n 2, 1, 0, 0) := rfl
theorem k29_2 : ab_fetch ab_c29 2 = some (.iload_n 2, 1, 0, 0) := rfl
theorem k29_3 : ab_fetch ab_c29 3 = some (.aload_n 0, 1, 0, 0) := rfl
theorem k29_4 : ab_fetch ab_c29 4 = some (.getfield 50, 3, 4, 10) := rfl
theorem k29_7 : ab_fetch ab_c29 7 = some (.if_icmp .ge 20, 3, 27, 0) := rfl
theorem k29_10 : ab_fetch ab_c29 10 = some (.aload_n 0, 1, 0, 0) := rfl
theorem k29_11 : ab_fetch ab_c29 11 = some (.iload_n 2, 1, 0, 0) := rfl
theorem k29_12 : ab_fetch ab_c29 12 = some (.invokevirtual 100, 3, 25, 1) := rfl
theorem k29_15 : ab_fetch ab_c29 15 = some (.invokestatic 139, 3, 27, 1) := rfl
theorem k29_18 : ab_fetch ab_c29 18 = some (.ifCond .eq 9, 3, 27, 0) := rfl
theorem k29_21 : ab_fetch ab_c29 21 = some (.iinc 2 1, 3, 0, 0) := rfl
theorem k29_24 : ab_fetch ab_c29 24 = some (.goto (-22), 3, 2, 0) := rfl
theorem k29_27 : ab_fetch ab_c29 27 = some (.aload_n 0, 1, 0, 0) := rfl
theorem k29_28 : ab_fetch ab_c29 28 = some (.iconst 1, 1, 0, 0) := rfl
theorem k29_29 : ab_fetch ab_c29 29 = some (.iload_n 1, 1, 0, 0) := rfl
theorem k29_30 : ab_fetch ab_c29 30 = some (.iload_n 2, 1, 0, 0) := rfl
theorem k29_31 : ab_fetch ab_c29 31 = some (.iload_n 1, 1, 0, 0) := rfl
theorem k29_32 : ab_fetch ab_c29 32 = some (.isub, 1, 0, 0) := rfl
theorem k29_33 : ab_fetch ab_c29 33 = some (.invokevirtual 132, 3, 30, 3) := rfl
theorem k29_36 : ab_fetch ab_c29 36 = some (.iload_n 2, 1, 0, 0) := rfl
theorem k29_37 : ab_fetch ab_c29 37 = some (.iload_n 1, 1, 0, 0) := rfl
theorem k29_38 : ab_fetch ab_c29 38 = some (.isub, 1, 0, 0) := rfl
theorem k29_39 : ab_fetch ab_c29 39 = some (.bipush 32, 2, 0, 0) := rfl
theorem k29_41 : ab_fetch ab_c29 41 = some (.if_icmp .le 11, 3, 52, 0) := rfl
theorem k29_44 : ab_fetch ab_c29 44 = some (.aload_n 0, 1, 0, 0) := rfl
theorem k29_45 : ab_fetch ab_c29 45 = some (.iload_n 1, 1, 0, 0) := rfl
theorem k29_46 : ab_fetch ab_c29 46 = some (.bipush 32, 2, 0, 0) := rfl
theorem k29_48 : ab_fetch ab_c29 48 = some (.iadd, 1, 0, 0) := rfl
theorem k29_49 : ab_fetch ab_c29 49 = some (.invokevirtual 161, 3, 31, 1) := rfl
theorem k29_52 : ab_fetch ab_c29 52 = some (.iload_n 2, 1, 0, 0) := rfl
theorem k29_53 : ab_fetch ab_c29 53 = some (.ireturn, 1, 0, 0) := rfl
/- CodeSmith$Tokens splitName(I)I -/
def f29_27 (s : cS) (x1 : Int32) (x2 : Int32) : Option (Int32 × cS) := ((f30 s (1 : Int32) x1 (x2 - x1)).bind fun r1 => (if (x2 - x1) ≤ (32 : Int32) then some (x2, r1) else some (x2, (f31 r1 (x1 + (32 : Int32))))))
theorem t29_27 {d : Nat} {Z : Nat → ab_C} : ∀ (s : cS) (l : ab_L) (x1 : Int32) (x2 : Int32) (h0 : ab_get l 0 = some (.ref 11)) (h1 : ab_get l 1 = some (.int x1)) (h2 : ab_get l 2 = some (.int x2)) (r : Int32 × cS) (e : f29_27 s x1 x2 = some r), ab_Rn (d + 1) 29 27 l [] (ch s Z) (.inl (some (.int r.1))) (ch r.2 Z) := by
  intro s l x1 x2 h0 h1 h2 r e
  unfold f29_27 at e
  refine r_aload_n (pc := 27) p29 k29_27 h0 ?_
  refine r_iconst (pc := 28) p29 k29_28 (v := (1 : Int32)) rfl ?_
  refine r_iload_n (pc := 29) p29 k29_29 h1 ?_
  refine r_iload_n (pc := 30) p29 k29_30 h2 ?_
  refine r_iload_n (pc := 31) p29 k29_31 h1 ?_
  refine r_isub (pc := 32) p29 k29_32 ?_
  obtain ⟨r1, er1, e⟩ := of_bind e
  refine c_cv (i := 11) rfl (pc := 33) p29 k29_33 rfl p30 (r := []) rfl rfl rfl rfl rfl rfl (t30 s (1 : Int32) x1 (x2 - x1) r1 er1) (w := []) rfl ?_
  refine r_iload_n (pc := 36) p29 k29_36 h2 ?_
  refine r_iload_n (pc := 37) p29 k29_37 h1 ?_
  refine r_isub (pc := 38) p29 k29_38 ?_
  refine r_bipush (pc := 39) p29 k29_39 (v := (32 : Int32)) rfl ?_
  refine r_ic_le (pc := 41) p29 k29_41 (fun c => ?_) (fun c => ?_)
  · have e := (if_pos c).symm.trans e
    refine r_iload_n (pc := 52) p29 k29_52 h2 ?_
    obtain rfl := Option.some.inj e
    exact r_retI (pc := 53) p29 k29_53 rfl
  · have e := (if_neg c).symm.trans e
    refine r_aload_n (pc := 44) p29 k29_44 h0 ?_
    refine r_iload_n (pc := 45) p29 k29_45 h1 ?_
    refine r_bipush (pc := 46) p29 k29_46 (v := (32 : Int32)) rfl ?_
    refine r_iadd (pc := 48) p29 k29_48 ?_
    refine c_cv (i := 11) rfl (pc := 49) p29 k29_49 rfl p31 (r := []) rfl rfl rfl rfl rfl rfl (t31 r1 (x1 + (32 : Int32)) _ rfl) (w := []) rfl ?_
    refine r_iload_n (pc := 52) p29 k29_52 h2 ?_
    obtain rfl := Option.some.inj e
    exact r_retI (pc := 53) p29 k29_53 rfl
def f29_2 : Nat → cS → Int32 → Int32 → Option (Int32 × cS)
  | 0, _, _, _ => none
  | u + 1, s, x1, x2 => (if (s.1 11 10) ≤ x2 then f29_27 s x1 x2 else ((f25 s x2).bind fun r1 => (if (f27 r1) = 0 then f29_27 s x1 x2 else f29_2 u s x1 (x2 + (1 : Int32)))))
theorem t29_2 {d : Nat} {Z : Nat → ab_C} : ∀ u : Nat, ∀ (s : cS) (l : ab_L) (x1 : Int32) (x2 : Int32) (h0 : ab_get l 0 = some (.ref 11)) (h1 : ab_get l 1 = some (.int x1)) (h2 : ab_get l 2 = some (.int x2)) (r : Int32 × cS) (e : f29_2 u s x1 x2 = some r), ab_Rn (d + 1) 29 2 l [] (ch s Z) (.inl (some (.int r.1))) (ch r.2 Z) := by
  intro u
  induction u with
  | zero => intro s l x1 x2 h0 h1 h2 r e; rw [f29_2] at e; cases e
  | succ u ih =>
    intro s l x1 x2 h0 h1 h2 r e
    rw [f29_2] at e
    refine r_iload_n (pc := 2) p29 k29_2 h2 ?_
    refine r_aload_n (pc := 3) p29 k29_3 h0 ?_
    refine c_get (i := 11) rfl (pc := 4) p29 k29_4 rfl rfl (v := .int (s.1 11 10)) rfl ?_
    refine r_ic_ge (pc := 7) p29 k29_7 (fun c => ?_) (fun c => ?_)
    · have e := (if_pos c).symm.trans e
      exact t29_27 s l x1 x2 h0 h1 h2 r e
    · have e := (if_neg c).symm.trans e
      refine r_aload_n (pc := 10) p29 k29_10 h0 ?_
      refine r_iload_n (pc := 11) p29 k29_11 h2 ?_
      obtain ⟨r1, er1, e⟩ := of_bind e
      refine c_cv (i := 11) rfl (pc := 12) p29 k29_12 rfl p25 (r := []) rfl rfl rfl rfl rfl rfl (t25 s x2 r1 er1) (w := [.int r1]) rfl ?_
      refine r_csv (pc := 15) p29 k29_15 rfl rfl p27 (r := []) rfl rfl rfl rfl (t27 r1 _ rfl) (w := [.int (f27 r1)]) rfl ?_
      refine r_if_eq (pc := 18) p29 k29_18 (fun c => ?_) (fun c => ?_)
      · have e := (if_pos c).symm.trans e
        exact t29_27 s l x1 x2 h0 h1 h2 r e
      · have e := (if_neg c).symm.trans e
        refine r_iinc (pc := 21) p29 k29_21 h2 (by decide) (v := (x2 + (1 : Int32))) rfl (fun l g h2 => ?_)
        have h0 := g 0 _ (by decide) h0 (Or.inl rfl)
        have h1 := g 1 _ (by decide) h1 (Or.inl rfl)
        refine r_goto (pc := 24) p29 k29_24 ?_
        exact ih s l x1 (x2 + (1 : Int32)) h0 h1 h2 r e
def f29 (s : cS) (x1 : Int32) : Option (Int32 × cS) := f29_2 mm_U s x1 x1
theorem t29 {d : Nat} {Z : Nat → ab_C} (s : cS) (x1 : Int32) (r : Int32 × cS) (e : f29 s x1 = some r) : ab_Rn (d + 1) 29 0 (lv_args 0 [.ref 11, .int x1]) [] (ch s Z) (.inl (some (.int r.1))) (ch r.2 Z) := by
  unfold f29 at e
  obtain ⟨l, hl⟩ : ∃ l, l = (lv_args 0 [.ref 11, .int x1]) := ⟨_, rfl⟩
  rw [← hl]
  have h0 : ab_get l 0 = some (.ref 11) := by rw [hl]; rfl
  have h1 : ab_get l 1 = some (.int x1) := by rw [hl]; rfl
  refine r_iload_n (pc := 0) p29 k29_0 h1 ?_
  refine r_istore_n (pc := 1) p29 k29_1 (by decide) (fun l g h2 => ?_)
  have h0 := g 0 _ (by decide) h0 (Or.inl rfl)
  have h1 := g 1 _ (by decide) h1 (Or.inl rfl)
  exact t29_2 mm_U s l x1 x1 h0 h1 h2 r e

theorem p33 : ab_prog[33]? = some (ab_m33, ab_c33) := rfl
theorem k33_0 : ab_fetch ab_c33 0 = some (.iload_n 0, 1, 0, 0) := rfl
theorem k33_1 : ab_fetch ab_c33 1 = some (.bipush 48, 2, 0, 0) := rfl
theorem k33_3 : ab_fetch ab_c33 3 = some (.if_icmp .lt 14, 3, 17, 0) := rfl
theorem k33_6 : ab_fetch ab_c33 6 = some (.iload_n 0, 1, 0, 0) := rfl
theorem k33_7 : ab_fetch ab_c33 7 = some (.bipush 57, 2, 0, 0) := rfl
theorem k33_9 : ab_fetch ab_c33 9 = some (.if_icmp .gt 8, 3, 17, 0) := rfl
theorem k33_12 : ab_fetch ab_c33 12 = some (.iload_n 0, 1, 0, 0) := rfl
theorem k33_13 : ab_fetch ab_c33 13 = some (.bipush 48, 2, 0, 0) := rfl
theorem k33_15 : ab_fetch ab_c33 15 = some (.isub, 1, 0, 0) := rfl
theorem k33_16 : ab_fetch ab_c33 16 = some (.ireturn, 1, 0, 0) := rfl
theorem k33_17 : ab_fetch ab_c33 17 = some (.iload_n 0, 1, 0, 0) := rfl
theorem k33_18 : ab_fetch ab_c33 18 = some (.bipush 97, 2, 0, 0) := rfl
theorem k33_20 : ab_fetch ab_c33 20 = some (.if_icmp .lt 17, 3, 37, 0) := rfl
theorem k33_23 : ab_fetch ab_c33 23 = some (.iload_n 0, 1, 0, 0) := rfl
theorem k33_24 : ab_fetch ab_c33 24 = some (.bipush 102, 2, 0, 0) := rfl
theorem k33_26 : ab_fetch ab_c33 26 = some (.if_icmp .gt 11, 3, 37, 0) := rfl
theorem k33_29 : ab_fetch ab_c33 29 = some (.iload_n 0, 1, 0, 0) := rfl
theorem k33_30 : ab_fetch ab_c33 30 = some (.bipush 97, 2, 0, 0) := rfl
theorem k33_32 : ab_fetch ab_c33 32 = some (.isub, 1, 0, 0) := rfl
theorem k33_33 : ab_fetch ab_c33 33 = some (.bipush 10, 2, 0, 0) := rfl
theorem k33_35 : ab_fetch ab_c33 35 = some (.iadd, 1, 0, 0) := rfl
theorem k33_36 : ab_fetch ab_c33 36 = some (.ireturn, 1, 0, 0) := rfl
theorem k33_37 : ab_fetch ab_c33 37 = some (.iload_n 0, 1, 0, 0) := rfl
theorem k33_38 : ab_fetch ab_c33 38 = some (.bipush 65, 2, 0, 0) := rfl
theorem k33_40 : ab_fetch ab_c33 40 = some (.if_icmp .lt 19, 3, 59, 0) := rfl
theorem k33_43 : ab_fetch ab_c33 43 = some (.iload_n 0, 1, 0, 0) := rfl
theorem k33_44 : ab_fetch ab_c33 44 = some (.bipush 70, 2, 0, 0) := rfl
theorem k33_46 : ab_fetch ab_c33 46 = some (.if_icmp .gt 13, 3, 59, 0) := rfl
theorem k33_49 : ab_fetch ab_c33 49 = some (.iload_n 0, 1, 0, 0) := rfl
theorem k33_50 : ab_fetch ab_c33 50 = some (.bipush 65, 2, 0, 0) := rfl
theorem k33_52 : ab_fetch ab_c33 52 = some (.isub, 1, 0, 0) := rfl
theorem k33_53 : ab_fetch ab_c33 53 = some (.bipush 10, 2, 0, 0) := rfl
theorem k33_55 : ab_fetch ab_c33 55 = some (.iadd, 1, 0, 0) := rfl
theorem k33_56 : ab_fetch ab_c33 56 = some (.goto 4, 3, 60, 0) := rfl
theorem k33_59 : ab_fetch ab_c33 59 = some (.iconst (-1), 1, 0, 0) := rfl
theorem k33_60 : ab_fetch ab_c33 60 = some (.ireturn, 1, 0, 0) := rfl
/- CodeSmith$Tokens hexDigit(I)I -/
def f33_37 (x0 : Int32) : Int32 := (if x0 < (65 : Int32) then (-1 : Int32) else (if (70 : Int32) < x0 then (-1 : Int32) else ((x0 - (65 : Int32)) + (10 : Int32))))
theorem t33_37 {d : Nat} {h : ab_H} : ∀ (l : ab_L) (x0 : Int32) (h0 : ab_get l 0 = some (.int x0)) (r : Int32) (e : f33_37 x0 = r), ab_Rn d 33 37 l [] h (.inl (some (.int r))) h := by
  intro l x0 h0 r e
  unfold f33_37 at e
  refine r_iload_n (pc := 37) p33 k33_37 h0 ?_
  refine r_bipush (pc := 38) p33 k33_38 (v := (65 : Int32)) rfl ?_
  refine r_ic_lt (pc := 40) p33 k33_40 (fun c => ?_) (fun c => ?_)
  · have e := (if_pos c).symm.trans e
    refine r_iconst (pc := 59) p33 k33_59 (v := (-1 : Int32)) rfl ?_
    subst e
    exact r_retI (pc := 60) p33 k33_60 rfl
  · have e := (if_neg c).symm.trans e
    refine r_iload_n (pc := 43) p33 k33_43 h0 ?_
    refine r_bipush (pc := 44) p33 k33_44 (v := (70 : Int32)) rfl ?_
    refine r_ic_gt (pc := 46) p33 k33_46 (fun c => ?_) (fun c => ?_)
    · have e := (if_pos c).symm.trans e
      refine r_iconst (pc := 59) p33 k33_59 (v := (-1 : Int32)) rfl ?_
      subst e
      exact r_retI (pc := 60) p33 k33_60 rfl
    · have e := (if_neg c).symm.trans e
      refine r_iload_n (pc := 49) p33 k33_49 h0 ?_
      refine r_bipush (pc := 50) p33 k33_50 (v := (65 : Int32)) rfl ?_
      refine r_isub (pc := 52) p33 k33_52 ?_
      refine r_bipush (pc := 53) p33 k33_53 (v := (10 : Int32)) rfl ?_
      refine r_iadd (pc := 55) p33 k33_55 ?_
      refine r_goto (pc := 56) p33 k33_56 ?_
      subst e
      exact r_retI (pc := 60) p33 k33_60 rfl
def f33_17 (x0 : Int32) : Int32 := (if x0 < (97 : Int32) then f33_37 x0 else (if (102 : Int32) < x0 then f33_37 x0 else ((x0 - (97 : Int32)) + (10 : Int32))))
theorem t33_17 {d : Nat} {h : ab_H} : ∀ (l : ab_L) (x0 : Int32) (h0 : ab_get l 0 = some (.int x0)) (r : Int32) (e : f33_17 x0 = r), ab_Rn d 33 17 l [] h (.inl (some (.int r))) h := by
  intro l x0 h0 r e
  unfold f33_17 at e
  refine r_iload_n (pc := 17) p33 k33_17 h0 ?_
  refine r_bipush (pc := 18) p33 k33_18 (v := (97 : Int32)) rfl ?_
  refine r_ic_lt (pc := 20) p33 k33_20 (fun c => ?_) (fun c => ?_)
  · have e := (if_pos c).symm.trans e
    exact t33_37 l x0 h0 r e
  · have e := (if_neg c).symm.trans e
    refine r_iload_n (pc := 23) p33 k33_23 h0 ?_
    refine r_bipush (pc := 24) p33 k33_24 (v := (102 : Int32)) rfl ?_
    refine r_ic_gt (pc := 26) p33 k33_26 (fun c => ?_) (fun c => ?_)
    · have e := (if_pos c).symm.trans e
      exact t33_37 l x0 h0 r e
    · have e := (if_neg c).symm.trans e
      refine r_iload_n (pc := 29) p33 k33_29 h0 ?_
      refine r_bipush (pc := 30) p33 k33_30 (v := (97 : Int32)) rfl ?_
      refine r_isub (pc := 32) p33 k33_32 ?_
      refine r_bipush (pc := 33) p33 k33_33 (v := (10 : Int32)) rfl ?_
      refine r_iadd (pc := 35) p33 k33_35 ?_
      subst e
      exact r_retI (pc := 36) p33 k33_36 rfl
def f33 (x0 : Int32) : Int32 := (if x0 < (48 : Int32) then f33_17 x0 else (if (57 : Int32) < x0 then f33_17 x0 else (x0 - (48 : Int32))))
theorem t33 {d : Nat} {h : ab_H} (x0 : Int32) (r : Int32) (e : f33 x0 = r) : ab_Rn d 33 0 (lv_args 0 [.int x0]) [] h (.inl (some (.int r))) h := by
  unfold f33 at e
  obtain ⟨l, hl⟩ : ∃ l, l = (lv_args 0 [.int x0]) := ⟨_, rfl⟩
  rw [← hl]
  have h0 : ab_get l 0 = some (.int x0) := by rw [hl]; rfl
  refine r_iload_n (pc := 0) p33 k33_0 h0 ?_
  refine r_bipush (pc := 1) p33 k33_1 (v := (48 : Int32)) rfl ?_
  refine r_ic_lt (pc := 3) p33 k33_3 (fun c => ?_) (fun c => ?_)
  · have e := (if_pos c).symm.trans e
    exact t33_17 l x0 h0 r e
  · have e := (if_neg c).symm.trans e
    refine r_iload_n (pc := 6) p33 k33_6 h0 ?_
    refine r_bipush (pc := 7) p33 k33_7 (v := (57 : Int32)) rfl ?_
    refine r_ic_gt (pc := 9) p33 k33_9 (fun c => ?_) (fun c => ?_)
    · have e := (if_pos c).symm.trans e
      exact t33_17 l x0 h0 r e
    · have e := (if_neg c).symm.trans e
      refine r_iload_n (pc := 12) p33 k33_12 h0 ?_
      refine r_bipush (pc := 13) p33 k33_13 (v := (48 : Int32)) rfl ?_
      refine r_isub (pc := 15) p33 k33_15 ?_
      subst e
      exact r_retI (pc := 16) p33 k33_16 rfl

theorem p32 : ab_prog[32]? = some (ab_m32, ab_c32) := rfl
theorem k32_0 : ab_fetch ab_c32 0 = some (.iconst 0, 1, 0, 0) := rfl
theorem k32_1 : ab_fetch ab_c32 1 = some (.istore_n 2, 1, 0, 0) := rfl
theorem k32_2 : ab_fetch ab_c32 2 = some (.iload_n 1, 1, 0, 0) := rfl
theorem k32_3 : ab_fetch ab_c32 3 = some (.iconst 2, 1, 0, 0) := rfl
theorem k32_4 : ab_fetch ab_c32 4 = some (.iadd, 1, 0, 0) := rfl
theorem k32_5 : ab_fetch ab_c32 5 = some (.istore_n 3, 1, 0, 0) := rfl
theorem k32_6 : ab_fetch ab_c32 6 = some (.iload_n 3, 1, 0, 0) := rfl
theorem k32_7 : ab_fetch ab_c32 7 = some (.aload_n 0, 1, 0, 0) := rfl
theorem k32_8 : ab_fetch ab_c32 8 = some (.getfield 50, 3, 4, 10) := rfl
theorem k32_11 : ab_fetch ab_c32 11 = some (.if_icmp .ge 34, 3, 45, 0) := rfl
theorem k32_14 : ab_fetch ab_c32 14 = some (.aload_n 0, 1, 0, 0) := rfl
theorem k32_15 : ab_fetch ab_c32 15 = some (.iload_n 3, 1, 0, 0) := rfl
theorem k32_16 : ab_fetch ab_c32 16 = some (.invokevirtual 100, 3, 25, 1) := rfl
theorem k32_19 : ab_fetch ab_c32 19 = some (.invokestatic 167, 3, 33, 1) := rfl
theorem k32_22 : ab_fetch ab_c32 22 = some (.iconst (-1), 1, 0, 0) := rfl
theorem k32_23 : ab_fetch ab_c32 23 = some (.if_icmp .eq 22, 3, 45, 0) := rfl
theorem k32_26 : ab_fetch ab_c32 26 = some (.iload_n 2, 1, 0, 0) := rfl
theorem k32_27 : ab_fetch ab_c32 27 = some (.iconst 4, 1, 0, 0) := rfl
theorem k32_28 : ab_fetch ab_c32 28 = some (.ishl, 1, 0, 0) := rfl
theorem k32_29 : ab_fetch ab_c32 29 = some (.aload_n 0, 1, 0, 0) := rfl
theorem k32_30 : ab_fetch ab_c32 30 = some (.iload_n 3, 1, 0, 0) := rfl
theorem k32_31 : ab_fetch ab_c32 31 = some (.invokevirtual 100, 3, 25, 1) := rfl
theorem k32_34 : ab_fetch ab_c32 34 = some (.invokestatic 167, 3, 33, 1) := rfl
theorem k32_37 : ab_fetch ab_c32 37 = some (.ior, 1, 0, 0) := rfl
theorem k32_38 : ab_fetch ab_c32 38 = some (.istore_n 2, 1, 0, 0) := rfl
theorem k32_39 : ab_fetch ab_c32 39 = some (.iinc 3 1, 3, 0, 0) := rfl
theorem k32_42 : ab_fetch ab_c32 42 = some (.goto (-36), 3, 6, 0) := rfl
theorem k32_45 : ab_fetch ab_c32 45 = some (.aload_n 0, 1, 0, 0) := rfl
theorem k32_46 : ab_fetch ab_c32 46 = some (.iconst 2, 1, 0, 0) := rfl
theorem k32_47 : ab_fetch ab_c32 47 = some (.iload_n 1, 1, 0, 0) := rfl
theorem k32_48 : ab_fetch ab_c32 48 = some (.iload_n 2, 1, 0, 0) := rfl
theorem k32_49 : ab_fetch ab_c32 49 = some (.invokevirtual 132, 3, 30, 3) := rfl
theorem k32_52 : ab_fetch ab_c32 52 = some (.iload_n 3, 1, 0, 0) := rfl
theorem k32_53 : ab_fetch ab_c32 53 = some (.iload_n 1, 1, 0, 0) := rfl
theorem k32_54 : ab_fetch ab_c32 54 = some (.iconst 2, 1, 0, 0) := rfl
theorem k32_55 : ab_fetch ab_c32 55 = some (.iadd, 1, 0, 0) := rfl
theorem k32_56 : ab_fetch ab_c32 56 = some (.if_icmp .ne 8, 3, 64, 0) := rfl
theorem k32_59 : ab_fetch ab_c32 59 = some (.aload_n 0, 1, 0, 0) := rfl
theorem k32_60 : ab_fetch ab_c32 60 = some (.iload_n 3, 1, 0, 0) := rfl
theorem k32_61 : ab_fetch ab_c32 61 = some (.invokevirtual 161, 3, 31, 1) := rfl
theorem k32_64 : ab_fetch ab_c32 64 = some (.iload_n 3, 1, 0, 0) := rfl
theorem k32_65 : ab_fetch ab_c32 65 = some (.ireturn, 1, 0, 0) := rfl
/- CodeSmith$Tokens splitHex(I)I -/
def f32_45 (s : cS) (x1 : Int32) (x2 : Int32) (x3 : Int32) : Option (Int32 × cS) := ((f30 s (2 : Int32) x1 x2).bind fun r1 => (if x3 = (x1 + (2 : Int32)) then some (x3, (f31 r1 x3)) else some (x3, r1)))
theorem t32_45 {d : Nat} {Z : Nat → ab_C} : ∀ (s : cS) (l : ab_L) (x1 : Int32) (x2 : Int32) (x3 : Int32) (h0 : ab_get l 0 = some (.ref 11)) (h1 : ab_get l 1 = some (.int x1)) (h2 : ab_get l 2 = some (.int x2)) (h3 : ab_get l 3 = some (.int x3)) (r : Int32 × cS) (e : f32_45 s x1 x2 x3 = some r), ab_Rn (d + 1) 32 45 l [] (ch s Z) (.inl (some (.int r.1))) (ch r.2 Z) := by
  intro s l x1 x2 x3 h0 h1 h2 h3 r e
  unfold f32_45 at e
  refine r_aload_n (pc := 45) p32 k32_45 h0 ?_
  refine r_iconst (pc := 46) p32 k32_46 (v := (2 : Int32)) rfl ?_
  refine r_iload_n (pc := 47) p32 k32_47 h1 ?_
  refine r_iload_n (pc := 48) p32 k32_48 h2 ?_
  obtain ⟨r1, er1, e⟩ := of_bind e
  refine c_cv (i := 11) rfl (pc := 49) p32 k32_49 rfl p30 (r := []) rfl rfl rfl rfl rfl rfl (t30 s (2 : Int32) x1 x2 r1 er1) (w := []) rfl ?_
  refine r_iload_n (pc := 52) p32 k32_52 h3 ?_
  refine r_iload_n (pc := 53) p32 k32_53 h1 ?_
  refine r_iconst (pc := 54) p32 k32_54 (v := (2 : Int32)) rfl ?_
  refine r_iadd (pc := 55) p32 k32_55 ?_
  refine r_ic_ne (pc := 56) p32 k32_56 (fun c => ?_) (fun c => ?_)
  · have e := (if_neg c).symm.trans e
    refine r_iload_n (pc := 64) p32 k32_64 h3 ?_
    obtain rfl := Option.some.inj e
    exact r_retI (pc := 65) p32 k32_65 rfl
  · have e := (if_pos c).symm.trans e
    refine r_aload_n (pc := 59) p32 k32_59 h0 ?_
    refine r_iload_n (pc := 60) p32 k32_60 h3 ?_
    refine c_cv (i := 11) rfl (pc := 61) p32 k32_61 rfl p31 (r := []) rfl rfl rfl rfl rfl rfl (t31 r1 x3 _ rfl) (w := []) rfl ?_
    refine r_iload_n (pc := 64) p32 k32_64 h3 ?_
    obtain rfl := Option.some.inj e
    exact r_retI (pc := 65) p32 k32_65 rfl
def f32_6 : Nat → cS → Int32 → Int32 → Int32 → Option (Int32 × cS)
  | 0, _, _, _, _ => none
  | u + 1, s, x1, x2, x3 => (if (s.1 11 10) ≤ x3 then f32_45 s x1 x2 x3 else ((f25 s x3).bind fun r1 => (if (f33 r1) = (-1 : Int32) then f32_45 s x1 x2 x3 else ((f25 s x3).bind fun r2 => f32_6 u s x1 ((x2 <<< ((4 : Int32) &&& 31)) ||| (f33 r2)) (x3 + (1 : Int32))))))
theorem t32_6 {d : Nat} {Z : Nat → ab_C} : ∀ u : Nat, ∀ (s : cS) (l : ab_L) (x1 : Int32) (x2 : Int32) (x3 : Int32) (h0 : ab_get l 0 = some (.ref 11)) (h1 : ab_get l 1 = some (.int x1)) (h2 : ab_get l 2 = some (.int x2)) (h3 : ab_get l 3 = some (.int x3)) (r : Int32 × cS) (e : f32_6 u s x1 x2 x3 = some r), ab_Rn (d + 1) 32 6 l [] (ch s Z) (.inl (some (.int r.1))) (ch r.2 Z) := by
  intro u
  induction u with
  | zero => intro s l x1 x2 x3 h0 h1 h2 h3 r e; rw [f32_6] at e; cases e
  | succ u ih =>
    intro s l x1 x2 x3 h0 h1 h2 h3 r e
    rw [f32_6] at e
    refine r_iload_n (pc := 6) p32 k32_6 h3 ?_
    refine r_aload_n (pc := 7) p32 k32_7 h0 ?_
    refine c_get (i := 11) rfl (pc := 8) p32 k32_8 rfl rfl (v := .int (s.1 11 10)) rfl ?_
    refine r_ic_ge (pc := 11) p32 k32_11 (fun c => ?_) (fun c => ?_)
    · have e := (if_pos c).symm.trans e
      exact t32_45 s l x1 x2 x3 h0 h1 h2 h3 r e
    · have e := (if_neg c).symm.trans e
      refine r_aload_n (pc := 14) p32 k32_14 h0 ?_
      refine r_iload_n (pc := 15) p32 k32_15 h3 ?_
      obtain ⟨r1, er1, e⟩ := of_bind e
      refine c_cv (i := 11) rfl (pc := 16) p32 k32_16 rfl p25 (r := []) rfl rfl rfl rfl rfl rfl (t25 s x3 r1 er1) (w := [.int r1]) rfl ?_
      refine r_csv (pc := 19) p32 k32_19 rfl rfl p33 (r := []) rfl rfl rfl rfl (t33 r1 _ rfl) (w := [.int (f33 r1)]) rfl ?_
      refine r_iconst (pc := 22) p32 k32_22 (v := (-1 : Int32)) rfl ?_
      refine r_ic_eq (pc := 23) p32 k32_23 (fun c => ?_) (fun c => ?_)
      · have e := (if_pos c).symm.trans e
        exact t32_45 s l x1 x2 x3 h0 h1 h2 h3 r e
      · have e := (if_neg c).symm.trans e
        refine r_iload_n (pc := 26) p32 k32_26 h2 ?_
        refine r_iconst (pc := 27) p32 k32_27 (v := (4 : Int32)) rfl ?_
        refine r_ishl (pc := 28) p32 k32_28 ?_
        refine r_aload_n (pc := 29) p32 k32_29 h0 ?_
        refine r_iload_n (pc := 30) p32 k32_30 h3 ?_
        obtain ⟨r2, er2, e⟩ := of_bind e
        refine c_cv (i := 11) rfl (pc := 31) p32 k32_31 rfl p25 (r := [.int (x2 <<< ((4 : Int32) &&& 31))]) rfl rfl rfl rfl rfl rfl (t25 s x3 r2 er2) (w := [.int r2, .int (x2 <<< ((4 : Int32) &&& 31))]) rfl ?_
        refine r_csv (pc := 34) p32 k32_34 rfl rfl p33 (r := [.int (x2 <<< ((4 : Int32) &&& 31))]) rfl rfl rfl rfl (t33 r2 _ rfl) (w := [.int (f33 r2), .int (x2 <<< ((4 : Int32) &&& 31))]) rfl ?_
        refine r_ior (pc := 37) p32 k32_37 ?_
        refine r_istore_n (pc := 38) p32 k32_38 (by decide) (fun l g h2 => ?_)
        have h0 := g 0 _ (by decide) h0 (Or.inl rfl)
        have h1 := g 1 _ (by decide) h1 (Or.inl rfl)
        have h3 := g 3 _ (by decide) h3 (Or.inl rfl)
        refine r_iinc (pc := 39) p32 k32_39 h3 (by decide) (v := (x3 + (1 : Int32))) rfl (fun l g h3 => ?_)
        have h0 := g 0 _ (by decide) h0 (Or.inl rfl)
        have h1 := g 1 _ (by decide) h1 (Or.inl rfl)
        have h2 := g 2 _ (by decide) h2 (Or.inl rfl)
        refine r_goto (pc := 42) p32 k32_42 ?_
        exact ih s l x1 ((x2 <<< ((4 : Int32) &&& 31)) ||| (f33 r2)) (x3 + (1 : Int32)) h0 h1 h2 h3 r e
def f32 (s : cS) (x1 : Int32) : Option (Int32 × cS) := f32_6 mm_U s x1 (0 : Int32) (x1 + (2 : Int32))
theorem t32 {d : Nat} {Z : Nat → ab_C} (s : cS) (x1 : Int32) (r : Int32 × cS) (e : f32 s x1 = some r) : ab_Rn (d + 1) 32 0 (lv_args 0 [.ref 11, .int x1]) [] (ch s Z) (.inl (some (.int r.1))) (ch r.2 Z) := by
  unfold f32 at e
  obtain ⟨l, hl⟩ : ∃ l, l = (lv_args 0 [.ref 11, .int x1]) := ⟨_, rfl⟩
  rw [← hl]
  have h0 : ab_get l 0 = some (.ref 11) := by rw [hl]; rfl
  have h1 : ab_get l 1 = some (.int x1) := by rw [hl]; rfl
  refine r_iconst (pc := 0) p32 k32_0 (v := (0 : Int32)) rfl ?_
  refine r_istore_n (pc := 1) p32 k32_1 (by decide) (fun l g h2 => ?_)
  have h0 := g 0 _ (by decide) h0 (Or.inl rfl)
  have h1 := g 1 _ (by decide) h1 (Or.inl rfl)
  refine r_iload_n (pc := 2) p32 k32_2 h1 ?_
  refine r_iconst (pc := 3) p32 k32_3 (v := (2 : Int32)) rfl ?_
  refine r_iadd (pc := 4) p32 k32_4 ?_
  refine r_istore_n (pc := 5) p32 k32_5 (by decide) (fun l g h3 => ?_)
  have h0 := g 0 _ (by decide) h0 (Or.inl rfl)
  have h1 := g 1 _ (by decide) h1 (Or.inl rfl)
  have h2 := g 2 _ (by decide) h2 (Or.inl rfl)
  exact t32_6 mm_U s l x1 (0 : Int32) (x1 + (2 : Int32)) h0 h1 h2 h3 r e

theorem p34 : ab_prog[34]? = some (ab_m34, ab_c34) := rfl
theorem k34_0 : ab_fetch ab_c34 0 = some (.iconst 0, 1, 0, 0) := rfl
theorem k34_1 : ab_fetch ab_c34 1 = some (.istore_n 2, 1, 0, 0) := rfl
theorem k34_2 : ab_fetch ab_c34 2 = some (.iload_n 1, 1, 0, 0) := rfl
theorem k34_3 : ab_fetch ab_c34 3 = some (.istore_n 3, 1, 0, 0) := rfl
theorem k34_4 : ab_fetch ab_c34 4 = some (.iload_n 3, 1, 0, 0) := rfl
theorem k34_5 : ab_fetch ab_c34 5 = some (.aload_n 0, 1, 0, 0) := rfl
theorem k34_6 : ab_fetch ab_c34 6 = some (.getfield 50, 3, 4, 10) := rfl
theorem k34_9 : ab_fetch ab_c34 9 = some (.if_icmp .ge 34, 3, 43, 0) := rfl
theorem k34_12 : ab_fetch ab_c34 12 = some (.aload_n 0, 1, 0, 0) := rfl
theorem k34_13 : ab_fetch ab_c34 13 = some (.iload_n 3, 1, 0, 0) := rfl
theorem k34_14 : ab_fetch ab_c34 14 = some (.invokevirtual 100, 3, 25, 1) := rfl
theorem k34_17 : ab_fetch ab_c34 17 = some (.invokestatic 143, 3, 28, 1) := rfl
theorem k34_20 : ab_fetch ab_c34 20 = some (.ifCond .eq 23, 3, 43, 0) := rfl
theorem k34_23 : ab_fetch ab_c34 23 = some (.iload_n 2, 1, 0, 0) := rfl
theorem k34_24 : ab_fetch ab_c34 24 = some (.bipush 10, 2, 0, 0) := rfl
theorem k34_26 : ab_fetch ab_c34 26 = some (.imul, 1, 0, 0) := rfl
theorem k34_27 : ab_fetch ab_c34 27 = some (.aload_n 0, 1, 0, 0) := rfl
theorem k34_28 : ab_fetch ab_c34 28 = some (.iload_n 3, 1, 0, 0) := rfl
theorem k34_29 : ab_fetch ab_c34 29 = some (.invokevirtual 100, 3, 25, 1) := rfl
theorem k34_32 : ab_fetch ab_c34 32 = some (.bipush 48, 2, 0, 0) := rfl
theorem k34_34 : ab_fetch ab_c34 34 = some (.isub, 1, 0, 0) := rfl
theorem k34_35 : ab_fetch ab_c34 35 = some (.iadd, 1, 0, 0) := rfl
theorem k34_36 : ab_fetch ab_c34 36 = some (.istore_n 2, 1, 0, 0) := rfl
theorem k34_37 : ab_fetch ab_c34 37 = some (.iinc 3 1, 3, 0, 0) := rfl
theorem k34_40 : ab_fetch ab_c34 40 = some (.goto (-36), 3, 4, 0) := rfl
theorem k34_43 : ab_fetch ab_c34 43 = some (.aload_n 0, 1, 0, 0) := rfl
theorem k34_44 : ab_fetch ab_c34 44 = some (.iconst 2, 1, 0, 0) := rfl
theorem k34_45 : ab_fetch ab_c34 45 = some (.iload_n 1, 1, 0, 0) := rfl
theorem k34_46 : ab_fetch ab_c34 46 = some (.iload_n 2, 1, 0, 0) := rfl
theorem k34_47 : ab_fetch ab_c34 47 = some (.invokevirtual 132, 3, 30, 3) := rfl
theorem k34_50 : ab_fetch ab_c34 50 = some (.iload_n 3, 1, 0, 0) := rfl
theorem k34_51 : ab_fetch ab_c34 51 = some (.ireturn, 1, 0, 0) := rfl
/- CodeSmith$Tokens splitDecimal(I)I -/
def f34_43 (s : cS) (x1 : Int32) (x2 : Int32) (x3 : Int32) : Option (Int32 × cS) := ((f30 s (2 : Int32) x1 x2).bind fun r1 => some (x3, r1))
theorem t34_43 {d : Nat} {Z : Nat → ab_C} : ∀ (s : cS) (l : ab_L) (x1 : Int32) (x2 : Int32) (x3 : Int32) (h0 : ab_get l 0 = some (.ref 11)) (h1 : ab_get l 1 = some (.int x1)) (h2 : ab_get l 2 = some (.int x2)) (h3 : ab_get l 3 = some (.int x3)) (r : Int32 × cS) (e : f34_43 s x1 x2 x3 = some r), ab_Rn (d + 1) 34 43 l [] (ch s Z) (.inl (some (.int r.1))) (ch r.2 Z) := by
  intro s l x1 x2 x3 h0 h1 h2 h3 r e
  unfold f34_43 at e
  refine r_aload_n (pc := 43) p34 k34_43 h0 ?_
  refine r_iconst (pc := 44) p34 k34_44 (v := (2 : Int32)) rfl ?_
  refine r_iload_n (pc := 45) p34 k34_45 h1 ?_
  refine r_iload_n (pc := 46) p34 k34_46 h2 ?_
  obtain ⟨r1, er1, e⟩ := of_bind e
  refine c_cv (i := 11) rfl (pc := 47) p34 k34_47 rfl p30 (r := []) rfl rfl rfl rfl rfl rfl (t30 s (2 : Int32) x1 x2 r1 er1) (w := []) rfl ?_
  refine r_iload_n (pc := 50) p34 k34_50 h3 ?_
  obtain rfl := Option.some.inj e
  exact r_retI (pc := 51) p34 k34_51 rfl
def f34_4 : Nat → cS → Int32 → Int32 → Int32 → Option (Int32 × cS)
  | 0, _, _, _, _ => none
  | u + 1, s, x1, x2, x3 => (if (s.1 11 10) ≤ x3 then f34_43 s x1 x2 x3 else ((f25 s x3).bind fun r1 => (if (f28 r1) = 0 then f34_43 s x1 x2 x3 else ((f25 s x3).bind fun r2 => f34_4 u s x1 ((x2 * (10 : Int32)) + (r2 - (48 : Int32))) (x3 + (1 : Int32))))))
theorem t34_4 {d : Nat} {Z : Nat → ab_C} : ∀ u : Nat, ∀ (s : cS) (l : ab_L) (x1 : Int32) (x2 : Int32) (x3 : Int32) (h0 : ab_get l 0 = some (.ref 11)) (h1 : ab_get l 1 = some (.int x1)) (h2 : ab_get l 2 = some (.int x2)) (h3 : ab_get l 3 = some (.int x3)) (r : Int32 × cS) (e : f34_4 u s x1 x2 x3 = some r), ab_Rn (d + 1) 34 4 l [] (ch s Z) (.inl (some (.int r.1))) (ch r.2 Z) := by
  intro u
  induction u with
  | zero => intro s l x1 x2 x3 h0 h1 h2 h3 r e; rw [f34_4] at e; cases e
  | succ u ih =>
    intro s l x1 x2 x3 h0 h1 h2 h3 r e
    rw [f34_4] at e
    refine r_iload_n (pc := 4) p34 k34_4 h3 ?_
    refine r_aload_n (pc := 5) p34 k34_5 h0 ?_
    refine c_get (i := 11) rfl (pc := 6) p34 k34_6 rfl rfl (v := .int (s.1 11 10)) rfl ?_
    refine r_ic_ge (pc := 9) p34 k34_9 (fun c => ?_) (fun c => ?_)
    · have e := (if_pos c).symm.trans e
      exact t34_43 s l x1 x2 x3 h0 h1 h2 h3 r e
    · have e := (if_neg c).symm.trans e
      refine r_aload_n (pc := 12) p34 k34_12 h0 ?_
      refine r_iload_n (pc := 13) p34 k34_13 h3 ?_
      obtain ⟨r1, er1, e⟩ := of_bind e
      refine c_cv (i := 11) rfl (pc := 14) p34 k34_14 rfl p25 (r := []) rfl rfl rfl rfl rfl rfl (t25 s x3 r1 er1) (w := [.int r1]) rfl ?_
      refine r_csv (pc := 17) p34 k34_17 rfl rfl p28 (r := []) rfl rfl rfl rfl (t28 r1 _ rfl) (w := [.int (f28 r1)]) rfl ?_
      refine r_if_eq (pc := 20) p34 k34_20 (fun c => ?_) (fun c => ?_)
      · have e := (if_pos c).symm.trans e
        exact t34_43 s l x1 x2 x3 h0 h1 h2 h3 r e
      · have e := (if_neg c).symm.trans e
        refine r_iload_n (pc := 23) p34 k34_23 h2 ?_
        refine r_bipush (pc := 24) p34 k34_24 (v := (10 : Int32)) rfl ?_
        refine r_imul (pc := 26) p34 k34_26 ?_
        refine r_aload_n (pc := 27) p34 k34_27 h0 ?_
        refine r_iload_n (pc := 28) p34 k34_28 h3 ?_
        obtain ⟨r2, er2, e⟩ := of_bind e
        refine c_cv (i := 11) rfl (pc := 29) p34 k34_29 rfl p25 (r := [.int (x2 * (10 : Int32))]) rfl rfl rfl rfl rfl rfl (t25 s x3 r2 er2) (w := [.int r2, .int (x2 * (10 : Int32))]) rfl ?_
        refine r_bipush (pc := 32) p34 k34_32 (v := (48 : Int32)) rfl ?_
        refine r_isub (pc := 34) p34 k34_34 ?_
        refine r_iadd (pc := 35) p34 k34_35 ?_
        refine r_istore_n (pc := 36) p34 k34_36 (by decide) (fun l g h2 => ?_)
        have h0 := g 0 _ (by decide) h0 (Or.inl rfl)
        have h1 := g 1 _ (by decide) h1 (Or.inl rfl)
        have h3 := g 3 _ (by decide) h3 (Or.inl rfl)
        refine r_iinc (pc := 37) p34 k34_37 h3 (by decide) (v := (x3 + (1 : Int32))) rfl (fun l g h3 => ?_)
        have h0 := g 0 _ (by decide) h0 (Or.inl rfl)
        have h1 := g 1 _ (by decide) h1 (Or.inl rfl)
        have h2 := g 2 _ (by decide) h2 (Or.inl rfl)
        refine r_goto (pc := 40) p34 k34_40 ?_
        exact ih s l x1 ((x2 * (10 : Int32)) + (r2 - (48 : Int32))) (x3 + (1 : Int32)) h0 h1 h2 h3 r e
def f34 (s : cS) (x1 : Int32) : Option (Int32 × cS) := f34_4 mm_U s x1 (0 : Int32) x1
theorem t34 {d : Nat} {Z : Nat → ab_C} (s : cS) (x1 : Int32) (r : Int32 × cS) (e : f34 s x1 = some r) : ab_Rn (d + 1) 34 0 (lv_args 0 [.ref 11, .int x1]) [] (ch s Z) (.inl (some (.int r.1))) (ch r.2 Z) := by
  unfold f34 at e
  obtain ⟨l, hl⟩ : ∃ l, l = (lv_args 0 [.ref 11, .int x1]) := ⟨_, rfl⟩
  rw [← hl]
  have h0 : ab_get l 0 = some (.ref 11) := by rw [hl]; rfl
  have h1 : ab_get l 1 = some (.int x1) := by rw [hl]; rfl
  refine r_iconst (pc := 0) p34 k34_0 (v := (0 : Int32)) rfl ?_
  refine r_istore_n (pc := 1) p34 k34_1 (by decide) (fun l g h2 => ?_)
  have h0 := g 0 _ (by decide) h0 (Or.inl rfl)
  have h1 := g 1 _ (by decide) h1 (Or.inl rfl)
  refine r_iload_n (pc := 2) p34 k34_2 h1 ?_
  refine r_istore_n (pc := 3) p34 k34_3 (by decide) (fun l g h3 => ?_)
  have h0 := g 0 _ (by decide) h0 (Or.inl rfl)
  have h1 := g 1 _ (by decide) h1 (Or.inl rfl)
  have h2 := g 2 _ (by decide) h2 (Or.inl rfl)
  exact t34_4 mm_U s l x1 (0 : Int32) x1 h0 h1 h2 h3 r e

theorem p37 : ab_prog[37]? = some (ab_m37, ab_c37) := rfl
theorem k37_0 : ab_fetch ab_c37 0 = some (.iload_n 0, 1, 0, 0) := rfl
theorem k37_1 : ab_fetch ab_c37 1 = some (.lookupswitch 69 #[(34, 67), (39, 67), (48, 65), (92, 67), (110, 59), (116, 62)], 59, 0, 0) := rfl
theorem k37_60 : ab_fetch ab_c37 60 = some (.bipush 10, 2, 0, 0) := rfl
theorem k37_62 : ab_fetch ab_c37 62 = some (.ireturn, 1, 0, 0) := rfl
theorem k37_63 : ab_fetch ab_c37 63 = some (.bipush 9, 2, 0, 0) := rfl
theorem k37_65 : ab_fetch ab_c37 65 = some (.ireturn, 1, 0, 0) := rfl
theorem k37_66 : ab_fetch ab_c37 66 = some (.iconst 0, 1, 0, 0) := rfl
theorem k37_67 : ab_fetch ab_c37 67 = some (.ireturn, 1, 0, 0) := rfl
theorem k37_68 : ab_fetch ab_c37 68 = some (.iload_n 0, 1, 0, 0) := rfl
theorem k37_69 : ab_fetch ab_c37 69 = some (.ireturn, 1, 0, 0) := rfl
theorem k37_70 : ab_fetch ab_c37 70 = some (.iconst (-1), 1, 0, 0) := rfl
theorem k37_71 : ab_fetch ab_c37 71 = some (.ireturn, 1, 0, 0) := rfl
/- CodeSmith$Tokens escaped(I)I -/
def f37 (x0 : Int32) : Int32 := (if x0 = 34 then x0 else if x0 = 39 then x0 else if x0 = 48 then (0 : Int32) else if x0 = 92 then x0 else if x0 = 110 then (10 : Int32) else if x0 = 116 then (9 : Int32) else (-1 : Int32))
theorem t37 {d : Nat} {h : ab_H} (x0 : Int32) (r : Int32) (e : f37 x0 = r) : ab_Rn d 37 0 (lv_args 0 [.int x0]) [] h (.inl (some (.int r))) h := by
  unfold f37 at e
  obtain ⟨l, hl⟩ : ∃ l, l = (lv_args 0 [.int x0]) := ⟨_, rfl⟩
  rw [← hl]
  have h0 : ab_get l 0 = some (.int x0) := by rw [hl]; rfl
  refine r_iload_n (pc := 0) p37 k37_0 h0 ?_
  by_cases c0 : x0 = 34
  · have e := (if_pos c0).symm.trans e
    refine r_sw (t := 68) (st' := []) (pc := 1) p37 k37_1 rfl rfl rfl (by rw [c0]; rfl) ?_
    refine r_iload_n (pc := 68) p37 k37_68 h0 ?_
    subst e
    exact r_retI (pc := 69) p37 k37_69 rfl
  have e := (if_neg c0).symm.trans e
  by_cases c1 : x0 = 39
  · have e := (if_pos c1).symm.trans e
    refine r_sw (t := 68) (st' := []) (pc := 1) p37 k37_1 rfl rfl rfl (by rw [c1]; rfl) ?_
    refine r_iload_n (pc := 68) p37 k37_68 h0 ?_
    subst e
    exact r_retI (pc := 69) p37 k37_69 rfl
  have e := (if_neg c1).symm.trans e
  by_cases c2 : x0 = 48
  · have e := (if_pos c2).symm.trans e
    refine r_sw (t := 66) (st' := []) (pc := 1) p37 k37_1 rfl rfl rfl (by rw [c2]; rfl) ?_
    refine r_iconst (pc := 66) p37 k37_66 (v := (0 : Int32)) rfl ?_
    subst e
    exact r_retI (pc := 67) p37 k37_67 rfl
  have e := (if_neg c2).symm.trans e
  by_cases c3 : x0 = 92
  · have e := (if_pos c3).symm.trans e
    refine r_sw (t := 68) (st' := []) (pc := 1) p37 k37_1 rfl rfl rfl (by rw [c3]; rfl) ?_
    refine r_iload_n (pc := 68) p37 k37_68 h0 ?_
    subst e
    exact r_retI (pc := 69) p37 k37_69 rfl
  have e := (if_neg c3).symm.trans e
  by_cases c4 : x0 = 110
  · have e := (if_pos c4).symm.trans e
    refine r_sw (t := 60) (st' := []) (pc := 1) p37 k37_1 rfl rfl rfl (by rw [c4]; rfl) ?_
    refine r_bipush (pc := 60) p37 k37_60 (v := (10 : Int32)) rfl ?_
    subst e
    exact r_retI (pc := 62) p37 k37_62 rfl
  have e := (if_neg c4).symm.trans e
  by_cases c5 : x0 = 116
  · have e := (if_pos c5).symm.trans e
    refine r_sw (t := 63) (st' := []) (pc := 1) p37 k37_1 rfl rfl rfl (by rw [c5]; rfl) ?_
    refine r_bipush (pc := 63) p37 k37_63 (v := (9 : Int32)) rfl ?_
    subst e
    exact r_retI (pc := 65) p37 k37_65 rfl
  have e := (if_neg c5).symm.trans e
  refine r_lswd (T := 70) (pc := 1) p37 k37_1 (by decide) (by decide) (by decide) (by
      intro q hq
      simp only [List.mem_cons, List.not_mem_nil, or_false] at hq
      rcases hq with rfl | rfl | rfl | rfl | rfl | rfl
      · exact fun hh => c0 (Int32.toInt_inj.mp hh.symm)
      · exact fun hh => c1 (Int32.toInt_inj.mp hh.symm)
      · exact fun hh => c2 (Int32.toInt_inj.mp hh.symm)
      · exact fun hh => c3 (Int32.toInt_inj.mp hh.symm)
      · exact fun hh => c4 (Int32.toInt_inj.mp hh.symm)
      · exact fun hh => c5 (Int32.toInt_inj.mp hh.symm)) ?_
  refine r_iconst (pc := 70) p37 k37_70 (v := (-1 : Int32)) rfl ?_
  subst e
  exact r_retI (pc := 71) p37 k37_71 rfl

theorem p36 : ab_prog[36]? = some (ab_m36, ab_c36) := rfl
theorem k36_0 : ab_fetch ab_c36 0 = some (.aload_n 0, 1, 0, 0) := rfl
theorem k36_1 : ab_fetch ab_c36 1 = some (.iload_n 1, 1, 0, 0) := rfl
theorem k36_2 : ab_fetch ab_c36 2 = some (.invokevirtual 100, 3, 25, 1) := rfl
theorem k36_5 : ab_fetch ab_c36 5 = some (.istore_n 3, 1, 0, 0) := rfl
theorem k36_6 : ab_fetch ab_c36 6 = some (.iload_n 3, 1, 0, 0) := rfl
theorem k36_7 : ab_fetch ab_c36 7 = some (.bipush 92, 2, 0, 0) := rfl
theorem k36_9 : ab_fetch ab_c36 9 = some (.if_icmp .ne 14, 3, 23, 0) := rfl
theorem k36_12 : ab_fetch ab_c36 12 = some (.aload_n 0, 1, 0, 0) := rfl
theorem k36_13 : ab_fetch ab_c36 13 = some (.iload_n 1, 1, 0, 0) := rfl
theorem k36_14 : ab_fetch ab_c36 14 = some (.iconst 1, 1, 0, 0) := rfl
theorem k36_15 : ab_fetch ab_c36 15 = some (.iadd, 1, 0, 0) := rfl
theorem k36_16 : ab_fetch ab_c36 16 = some (.invokevirtual 100, 3, 25, 1) := rfl
theorem k36_19 : ab_fetch ab_c36 19 = some (.invokestatic 119, 3, 37, 1) := rfl
theorem k36_22 : ab_fetch ab_c36 22 = some (.ireturn, 1, 0, 0) := rfl
theorem k36_23 : ab_fetch ab_c36 23 = some (.iload_n 3, 1, 0, 0) := rfl
theorem k36_24 : ab_fetch ab_c36 24 = some (.bipush 32, 2, 0, 0) := rfl
theorem k36_26 : ab_fetch ab_c36 26 = some (.if_icmp .lt 18, 3, 44, 0) := rfl
theorem k36_29 : ab_fetch ab_c36 29 = some (.iload_n 3, 1, 0, 0) := rfl
theorem k36_30 : ab_fetch ab_c36 30 = some (.bipush 126, 2, 0, 0) := rfl
theorem k36_32 : ab_fetch ab_c36 32 = some (.if_icmp .gt 12, 3, 44, 0) := rfl
theorem k36_35 : ab_fetch ab_c36 35 = some (.iload_n 3, 1, 0, 0) := rfl
theorem k36_36 : ab_fetch ab_c36 36 = some (.iload_n 2, 1, 0, 0) := rfl
theorem k36_37 : ab_fetch ab_c36 37 = some (.if_icmp .eq 7, 3, 44, 0) := rfl
theorem k36_40 : ab_fetch ab_c36 40 = some (.iload_n 3, 1, 0, 0) := rfl
theorem k36_41 : ab_fetch ab_c36 41 = some (.goto 4, 3, 45, 0) := rfl
theorem k36_44 : ab_fetch ab_c36 44 = some (.iconst (-1), 1, 0, 0) := rfl
theorem k36_45 : ab_fetch ab_c36 45 = some (.ireturn, 1, 0, 0) := rfl
/- CodeSmith$Tokens meaning(II)I -/
def f36 (s : cS) (x1 : Int32) (x2 : Int32) : Option Int32 := ((f25 s x1).bind fun r1 => (if r1 = (92 : Int32) then ((f25 s (x1 + (1 : Int32))).bind fun r2 => some (f37 r2)) else (if r1 < (32 : Int32) then some (-1 : Int32) else (if (126 : Int32) < r1 then some (-1 : Int32) else (if r1 = x2 then some (-1 : Int32) else some r1)))))
theorem t36 {d : Nat} {Z : Nat → ab_C} (s : cS) (x1 : Int32) (x2 : Int32) (r : Int32) (e : f36 s x1 x2 = some r) : ab_Rn (d + 1) 36 0 (lv_args 0 [.ref 11, .int x1, .int x2]) [] (ch s Z) (.inl (some (.int r))) (ch s Z) := by
  unfold f36 at e
  obtain ⟨l, hl⟩ : ∃ l, l = (lv_args 0 [.ref 11, .int x1, .int x2]) := ⟨_, rfl⟩
  rw [← hl]
  have h0 : ab_get l 0 = some (.ref 11) := by rw [hl]; rfl
  have h1 : ab_get l 1 = some (.int x1) := by rw [hl]; rfl
  have h2 : ab_get l 2 = some (.int x2) := by rw [hl]; rfl
  refine r_aload_n (pc := 0) p36 k36_0 h0 ?_
  refine r_iload_n (pc := 1) p36 k36_1 h1 ?_
  obtain ⟨r1, er1, e⟩ := of_bind e
  refine c_cv (i := 11) rfl (pc := 2) p36 k36_2 rfl p25 (r := []) rfl rfl rfl rfl rfl rfl (t25 s x1 r1 er1) (w := [.int r1]) rfl ?_
  refine r_istore_n (pc := 5) p36 k36_5 (by decide) (fun l g h3 => ?_)
  have h0 := g 0 _ (by decide) h0 (Or.inl rfl)
  have h1 := g 1 _ (by decide) h1 (Or.inl rfl)
  have h2 := g 2 _ (by decide) h2 (Or.inl rfl)
  refine r_iload_n (pc := 6) p36 k36_6 h3 ?_
  refine r_bipush (pc := 7) p36 k36_7 (v := (92 : Int32)) rfl ?_
  refine r_ic_ne (pc := 9) p36 k36_9 (fun c => ?_) (fun c => ?_)
  · have e := (if_neg c).symm.trans e
    refine r_iload_n (pc := 23) p36 k36_23 h3 ?_
    refine r_bipush (pc := 24) p36 k36_24 (v := (32 : Int32)) rfl ?_
    refine r_ic_lt (pc := 26) p36 k36_26 (fun c => ?_) (fun c => ?_)
    · have e := (if_pos c).symm.trans e
      refine r_iconst (pc := 44) p36 k36_44 (v := (-1 : Int32)) rfl ?_
      obtain rfl := Option.some.inj e
      exact r_retI (pc := 45) p36 k36_45 rfl
    · have e := (if_neg c).symm.trans e
      refine r_iload_n (pc := 29) p36 k36_29 h3 ?_
      refine r_bipush (pc := 30) p36 k36_30 (v := (126 : Int32)) rfl ?_
      refine r_ic_gt (pc := 32) p36 k36_32 (fun c => ?_) (fun c => ?_)
      · have e := (if_pos c).symm.trans e
        refine r_iconst (pc := 44) p36 k36_44 (v := (-1 : Int32)) rfl ?_
        obtain rfl := Option.some.inj e
        exact r_retI (pc := 45) p36 k36_45 rfl
      · have e := (if_neg c).symm.trans e
        refine r_iload_n (pc := 35) p36 k36_35 h3 ?_
        refine r_iload_n (pc := 36) p36 k36_36 h2 ?_
        refine r_ic_eq (pc := 37) p36 k36_37 (fun c => ?_) (fun c => ?_)
        · have e := (if_pos c).symm.trans e
          refine r_iconst (pc := 44) p36 k36_44 (v := (-1 : Int32)) rfl ?_
          obtain rfl := Option.some.inj e
          exact r_retI (pc := 45) p36 k36_45 rfl
        · have e := (if_neg c).symm.trans e
          refine r_iload_n (pc := 40) p36 k36_40 h3 ?_
          refine r_goto (pc := 41) p36 k36_41 ?_
          obtain rfl := Option.some.inj e
          exact r_retI (pc := 45) p36 k36_45 rfl
  · have e := (if_pos c).symm.trans e
    refine r_aload_n (pc := 12) p36 k36_12 h0 ?_
    refine r_iload_n (pc := 13) p36 k36_13 h1 ?_
    refine r_iconst (pc := 14) p36 k36_14 (v := (1 : Int32)) rfl ?_
    refine r_iadd (pc := 15) p36 k36_15 ?_
    obtain ⟨r2, er2, e⟩ := of_bind e
    refine c_cv (i := 11) rfl (pc := 16) p36 k36_16 rfl p25 (r := []) rfl rfl rfl rfl rfl rfl (t25 s (x1 + (1 : Int32)) r2 er2) (w := [.int r2]) rfl ?_
    refine r_csv (pc := 19) p36 k36_19 rfl rfl p37 (r := []) rfl rfl rfl rfl (t37 r2 _ rfl) (w := [.int (f37 r2)]) rfl ?_
    obtain rfl := Option.some.inj e
    exact r_retI (pc := 22) p36 k36_22 rfl

theorem p38 : ab_prog[38]? = some (ab_m38, ab_c38) := rfl
theorem k38_0 : ab_fetch ab_c38 0 = some (.aload_n 0, 1, 0, 0) := rfl
theorem k38_1 : ab_fetch ab_c38 1 = some (.iload_n 1, 1, 0, 0) := rfl
theorem k38_2 : ab_fetch ab_c38 2 = some (.invokevirtual 100, 3, 25, 1) := rfl
theorem k38_5 : ab_fetch ab_c38 5 = some (.bipush 92, 2, 0, 0) := rfl
theorem k38_7 : ab_fetch ab_c38 7 = some (.if_icmp .ne 7, 3, 14, 0) := rfl
theorem k38_10 : ab_fetch ab_c38 10 = some (.iconst 2, 1, 0, 0) := rfl
theorem k38_11 : ab_fetch ab_c38 11 = some (.goto 4, 3, 15, 0) := rfl
theorem k38_14 : ab_fetch ab_c38 14 = some (.iconst 1, 1, 0, 0) := rfl
theorem k38_15 : ab_fetch ab_c38 15 = some (.ireturn, 1, 0, 0) := rfl
/- CodeSmith$Tokens widthAt(I)I -/
def f38 (s : cS) (x1 : Int32) : Option Int32 := ((f25 s x1).bind fun r1 => (if r1 = (92 : Int32) then some (2 : Int32) else some (1 : Int32)))
theorem t38 {d : Nat} {Z : Nat → ab_C} (s : cS) (x1 : Int32) (r : Int32) (e : f38 s x1 = some r) : ab_Rn (d + 1) 38 0 (lv_args 0 [.ref 11, .int x1]) [] (ch s Z) (.inl (some (.int r))) (ch s Z) := by
  unfold f38 at e
  obtain ⟨l, hl⟩ : ∃ l, l = (lv_args 0 [.ref 11, .int x1]) := ⟨_, rfl⟩
  rw [← hl]
  have h0 : ab_get l 0 = some (.ref 11) := by rw [hl]; rfl
  have h1 : ab_get l 1 = some (.int x1) := by rw [hl]; rfl
  refine r_aload_n (pc := 0) p38 k38_0 h0 ?_
  refine r_iload_n (pc := 1) p38 k38_1 h1 ?_
  obtain ⟨r1, er1, e⟩ := of_bind e
  refine c_cv (i := 11) rfl (pc := 2) p38 k38_2 rfl p25 (r := []) rfl rfl rfl rfl rfl rfl (t25 s x1 r1 er1) (w := [.int r1]) rfl ?_
  refine r_bipush (pc := 5) p38 k38_5 (v := (92 : Int32)) rfl ?_
  refine r_ic_ne (pc := 7) p38 k38_7 (fun c => ?_) (fun c => ?_)
  · have e := (if_neg c).symm.trans e
    refine r_iconst (pc := 14) p38 k38_14 (v := (1 : Int32)) rfl ?_
    obtain rfl := Option.some.inj e
    exact r_retI (pc := 15) p38 k38_15 rfl
  · have e := (if_pos c).symm.trans e
    refine r_iconst (pc := 10) p38 k38_10 (v := (2 : Int32)) rfl ?_
    refine r_goto (pc := 11) p38 k38_11 ?_
    obtain rfl := Option.some.inj e
    exact r_retI (pc := 15) p38 k38_15 rfl

theorem p35 : ab_prog[35]? = some (ab_m35, ab_c35) := rfl
theorem k35_0 : ab_fetch ab_c35 0 = some (.aload_n 0, 1, 0, 0) := rfl
theorem k35_1 : ab_fetch ab_c35 1 = some (.iload_n 1, 1, 0, 0) := rfl
theorem k35_2 : ab_fetch ab_c35 2 = some (.iconst 1, 1, 0, 0) := rfl
theorem k35_3 : ab_fetch ab_c35 3 = some (.iadd, 1, 0, 0) := rfl
theorem k35_4 : ab_fetch ab_c35 4 = some (.bipush 39, 2, 0, 0) := rfl
theorem k35_6 : ab_fetch ab_c35 6 = some (.invokevirtual 170, 3, 36, 2) := rfl
theorem k35_9 : ab_fetch ab_c35 9 = some (.istore_n 2, 1, 0, 0) := rfl
theorem k35_10 : ab_fetch ab_c35 10 = some (.iload_n 1, 1, 0, 0) := rfl
theorem k35_11 : ab_fetch ab_c35 11 = some (.iconst 1, 1, 0, 0) := rfl
theorem k35_12 : ab_fetch ab_c35 12 = some (.iadd, 1, 0, 0) := rfl
theorem k35_13 : ab_fetch ab_c35 13 = some (.aload_n 0, 1, 0, 0) := rfl
theorem k35_14 : ab_fetch ab_c35 14 = some (.iload_n 1, 1, 0, 0) := rfl
theorem k35_15 : ab_fetch ab_c35 15 = some (.iconst 1, 1, 0, 0) := rfl
theorem k35_16 : ab_fetch ab_c35 16 = some (.iadd, 1, 0, 0) := rfl
theorem k35_17 : ab_fetch ab_c35 17 = some (.invokevirtual 173, 3, 38, 1) := rfl
theorem k35_20 : ab_fetch ab_c35 20 = some (.iadd, 1, 0, 0) := rfl
theorem k35_21 : ab_fetch ab_c35 21 = some (.istore_n 3, 1, 0, 0) := rfl
theorem k35_22 : ab_fetch ab_c35 22 = some (.aload_n 0, 1, 0, 0) := rfl
theorem k35_23 : ab_fetch ab_c35 23 = some (.iconst 2, 1, 0, 0) := rfl
theorem k35_24 : ab_fetch ab_c35 24 = some (.iload_n 1, 1, 0, 0) := rfl
theorem k35_25 : ab_fetch ab_c35 25 = some (.iload_n 2, 1, 0, 0) := rfl
theorem k35_26 : ab_fetch ab_c35 26 = some (.invokevirtual 132, 3, 30, 3) := rfl
theorem k35_29 : ab_fetch ab_c35 29 = some (.iload_n 2, 1, 0, 0) := rfl
theorem k35_30 : ab_fetch ab_c35 30 = some (.iconst (-1), 1, 0, 0) := rfl
theorem k35_31 : ab_fetch ab_c35 31 = some (.if_icmp .ne 13, 3, 44, 0) := rfl
theorem k35_34 : ab_fetch ab_c35 34 = some (.aload_n 0, 1, 0, 0) := rfl
theorem k35_35 : ab_fetch ab_c35 35 = some (.iload_n 3, 1, 0, 0) := rfl
theorem k35_36 : ab_fetch ab_c35 36 = some (.iconst 1, 1, 0, 0) := rfl
theorem k35_37 : ab_fetch ab_c35 37 = some (.isub, 1, 0, 0) := rfl
theorem k35_38 : ab_fetch ab_c35 38 = some (.invokevirtual 161, 3, 31, 1) := rfl
theorem k35_41 : ab_fetch ab_c35 41 = some (.goto 18, 3, 59, 0) := rfl
theorem k35_44 : ab_fetch ab_c35 44 = some (.aload_n 0, 1, 0, 0) := rfl
theorem k35_45 : ab_fetch ab_c35 45 = some (.iload_n 3, 1, 0, 0) := rfl
theorem k35_46 : ab_fetch ab_c35 46 = some (.invokevirtual 100, 3, 25, 1) := rfl
theorem k35_49 : ab_fetch ab_c35 49 = some (.bipush 39, 2, 0, 0) := rfl
theorem k35_51 : ab_fetch ab_c35 51 = some (.if_icmp .eq 8, 3, 59, 0) := rfl
theorem k35_54 : ab_fetch ab_c35 54 = some (.aload_n 0, 1, 0, 0) := rfl
theorem k35_55 : ab_fetch ab_c35 55 = some (.iload_n 3, 1, 0, 0) := rfl
theorem k35_56 : ab_fetch ab_c35 56 = some (.invokevirtual 161, 3, 31, 1) := rfl
theorem k35_59 : ab_fetch ab_c35 59 = some (.iload_n 3, 1, 0, 0) := rfl
theorem k35_60 : ab_fetch ab_c35 60 = some (.iconst 1, 1, 0, 0) := rfl
theorem k35_61 : ab_fetch ab_c35 61 = some (.iadd, 1, 0, 0) := rfl
theorem k35_62 : ab_fetch ab_c35 62 = some (.ireturn, 1, 0, 0) := rfl
/- CodeSmith$Tokens splitCharacter(I)I -/
def f35_59 (s : cS) (x3 : Int32) : Option (Int32 × cS) := some ((x3 + (1 : Int32)), s)
theorem t35_59 {d : Nat} {Z : Nat → ab_C} : ∀ (s : cS) (l : ab_L) (x3 : Int32) (h3 : ab_get l 3 = some (.int x3)) (r : Int32 × cS) (e : f35_59 s x3 = some r), ab_Rn (d + 2) 35 59 l [] (ch s Z) (.inl (some (.int r.1))) (ch r.2 Z) := by
  intro s l x3 h3 r e
  unfold f35_59 at e
  refine r_iload_n (pc := 59) p35 k35_59 h3 ?_
  refine r_iconst (pc := 60) p35 k35_60 (v := (1 : Int32)) rfl ?_
  refine r_iadd (pc := 61) p35 k35_61 ?_
  obtain rfl := Option.some.inj e
  exact r_retI (pc := 62) p35 k35_62 rfl
def f35 (s : cS) (x1 : Int32) : Option (Int32 × cS) := ((f36 s (x1 + (1 : Int32)) (39 : Int32)).bind fun r1 => ((f38 s (x1 + (1 : Int32))).bind fun r2 => ((f30 s (2 : Int32) x1 r1).bind fun r3 => (if r1 = (-1 : Int32) then f35_59 (f31 r3 (((x1 + (1 : Int32)) + r2) - (1 : Int32))) ((x1 + (1 : Int32)) + r2) else ((f25 r3 ((x1 + (1 : Int32)) + r2)).bind fun r4 => (if r4 = (39 : Int32) then f35_59 r3 ((x1 + (1 : Int32)) + r2) else f35_59 (f31 r3 ((x1 + (1 : Int32)) + r2)) ((x1 + (1 : Int32)) + r2)))))))
theorem t35 {d : Nat} {Z : Nat → ab_C} (s : cS) (x1 : Int32) (r : Int32 × cS) (e : f35 s x1 = some r) : ab_Rn (d + 2) 35 0 (lv_args 0 [.ref 11, .int x1]) [] (ch s Z) (.inl (some (.int r.1))) (ch r.2 Z) := by
  unfold f35 at e
  obtain ⟨l, hl⟩ : ∃ l, l = (lv_args 0 [.ref 11, .int x1]) := ⟨_, rfl⟩
  rw [← hl]
  have h0 : ab_get l 0 = some (.ref 11) := by rw [hl]; rfl
  have h1 : ab_get l 1 = some (.int x1) := by rw [hl]; rfl
  refine r_aload_n (pc := 0) p35 k35_0 h0 ?_
  refine r_iload_n (pc := 1) p35 k35_1 h1 ?_
  refine r_iconst (pc := 2) p35 k35_2 (v := (1 : Int32)) rfl ?_
  refine r_iadd (pc := 3) p35 k35_3 ?_
  refine r_bipush (pc := 4) p35 k35_4 (v := (39 : Int32)) rfl ?_
  obtain ⟨r1, er1, e⟩ := of_bind e
  refine c_cv (i := 11) rfl (pc := 6) p35 k35_6 rfl p36 (r := []) rfl rfl rfl rfl rfl rfl (t36 s (x1 + (1 : Int32)) (39 : Int32) r1 er1) (w := [.int r1]) rfl ?_
  refine r_istore_n (pc := 9) p35 k35_9 (by decide) (fun l g h2 => ?_)
  have h0 := g 0 _ (by decide) h0 (Or.inl rfl)
  have h1 := g 1 _ (by decide) h1 (Or.inl rfl)
  refine r_iload_n (pc := 10) p35 k35_10 h1 ?_
  refine r_iconst (pc := 11) p35 k35_11 (v := (1 : Int32)) rfl ?_
  refine r_iadd (pc := 12) p35 k35_12 ?_
  refine r_aload_n (pc := 13) p35 k35_13 h0 ?_
  refine r_iload_n (pc := 14) p35 k35_14 h1 ?_
  refine r_iconst (pc := 15) p35 k35_15 (v := (1 : Int32)) rfl ?_
  refine r_iadd (pc := 16) p35 k35_16 ?_
  obtain ⟨r2, er2, e⟩ := of_bind e
  refine c_cv (i := 11) rfl (pc := 17) p35 k35_17 rfl p38 (r := [.int (x1 + (1 : Int32))]) rfl rfl rfl rfl rfl rfl (t38 s (x1 + (1 : Int32)) r2 er2) (w := [.int r2, .int (x1 + (1 : Int32))]) rfl ?_
  refine r_iadd (pc := 20) p35 k35_20 ?_
  refine r_istore_n (pc := 21) p35 k35_21 (by decide) (fun l g h3 => ?_)
  have h0 := g 0 _ (by decide) h0 (Or.inl rfl)
  have h1 := g 1 _ (by decide) h1 (Or.inl rfl)
  have h2 := g 2 _ (by decide) h2 (Or.inl rfl)
  refine r_aload_n (pc := 22) p35 k35_22 h0 ?_
  refine r_iconst (pc := 23) p35 k35_23 (v := (2 : Int32)) rfl ?_
  refine r_iload_n (pc := 24) p35 k35_24 h1 ?_
  refine r_iload_n (pc := 25) p35 k35_25 h2 ?_
  obtain ⟨r3, er3, e⟩ := of_bind e
  refine c_cv (i := 11) rfl (pc := 26) p35 k35_26 rfl p30 (r := []) rfl rfl rfl rfl rfl rfl (t30 s (2 : Int32) x1 r1 r3 er3) (w := []) rfl ?_
  refine r_iload_n (pc := 29) p35 k35_29 h2 ?_
  refine r_iconst (pc := 30) p35 k35_30 (v := (-1 : Int32)) rfl ?_
  refine r_ic_ne (pc := 31) p35 k35_31 (fun c => ?_) (fun c => ?_)
  · have e := (if_neg c).symm.trans e
    refine r_aload_n (pc := 44) p35 k35_44 h0 ?_
    refine r_iload_n (pc := 45) p35 k35_45 h3 ?_
    obtain ⟨r4, er4, e⟩ := of_bind e
    refine c_cv (i := 11) rfl (pc := 46) p35 k35_46 rfl p25 (r := []) rfl rfl rfl rfl rfl rfl (t25 r3 ((x1 + (1 : Int32)) + r2) r4 er4) (w := [.int r4]) rfl ?_
    refine r_bipush (pc := 49) p35 k35_49 (v := (39 : Int32)) rfl ?_
    refine r_ic_eq (pc := 51) p35 k35_51 (fun c => ?_) (fun c => ?_)
    · have e := (if_pos c).symm.trans e
      exact t35_59 r3 l ((x1 + (1 : Int32)) + r2) h3 r e
    · have e := (if_neg c).symm.trans e
      refine r_aload_n (pc := 54) p35 k35_54 h0 ?_
      refine r_iload_n (pc := 55) p35 k35_55 h3 ?_
      refine c_cv (i := 11) rfl (pc := 56) p35 k35_56 rfl p31 (r := []) rfl rfl rfl rfl rfl rfl (t31 r3 ((x1 + (1 : Int32)) + r2) _ rfl) (w := []) rfl ?_
      exact t35_59 (f31 r3 ((x1 + (1 : Int32)) + r2)) l ((x1 + (1 : Int32)) + r2) h3 r e
  · have e := (if_pos c).symm.trans e
    refine r_aload_n (pc := 34) p35 k35_34 h0 ?_
    refine r_iload_n (pc := 35) p35 k35_35 h3 ?_
    refine r_iconst (pc := 36) p35 k35_36 (v := (1 : Int32)) rfl ?_
    refine r_isub (pc := 37) p35 k35_37 ?_
    refine c_cv (i := 11) rfl (pc := 38) p35 k35_38 rfl p31 (r := []) rfl rfl rfl rfl rfl rfl (t31 r3 (((x1 + (1 : Int32)) + r2) - (1 : Int32)) _ rfl) (w := []) rfl ?_
    refine r_goto (pc := 41) p35 k35_41 ?_
    exact t35_59 (f31 r3 (((x1 + (1 : Int32)) + r2) - (1 : Int32))) l ((x1 + (1 : Int32)) + r2) h3 r e
