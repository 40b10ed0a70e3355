/-! THE LAW'S LOOP: ab_Goal out of GoalP. -/
theorem i32_nat {n : Nat} (h : n < 2147483648) : (Int32.ofNat n).toInt = n := Int32.toInt_ofNat_of_lt h
theorem i32_addn {n j : Nat} (h : n + j < 2147483648) : Int32.ofNat n + Int32.ofNat j = Int32.ofNat (n + j) := by
  apply Int32.toInt_inj.mp
  rw [Int32.toInt_add, i32_nat (by omega), i32_nat (by omega), i32_nat h]
  have : ((n : Int) + (j : Int)) = ((n + j : Nat) : Int) := by omega
  rw [this, Int.bmod_eq_of_le (by omega) (by omega)]
theorem ib_nat {n L : Nat} (h : n < L) (hL : L < 2147483648) : ib (Int32.ofNat n) L := by
  intro hh
  rcases hh with hh | hh
  · rw [Int32.lt_iff_toInt_lt, i32_nat (by omega)] at hh
    have : (0 : Int32).toInt = 0 := rfl
    omega
  · have : (Int32.ofNat n).toNatClampNeg = n := by
      show (Int32.ofNat n).toInt.toNat = n
      rw [i32_nat (by omega)]; omega
    omega
section LL
variable {xs : Nat → Int32} {L d : Nat} {v : Int32} {h h' : ab_H}
theorem lw_init {l : ab_L} (h0 : ab_get l 0 = some (.retAddr 600)) (K : ∀ l : ab_L, ab_get l 0 = some (.retAddr 600) → ab_get l 1 = some (.ref 0) → ab_get l 2 = some (.ref 22) → ab_get l 3 = some (.ref 41) → ab_get l 4 = some (.int (0 : Int32)) → ab_Rl xs L (d + 2) 23 l [] (wd c0 m0 (fun _ => 0)) v h') : ab_Rl xs L (d + 2) 0 l [] [] v h' := by
  refine l_hp (h2 := ab_hl 0 ci_0) rfl ?_
  refine l_new (pc := 0) kL_0 (by decide) ?_
  refine l_op (pc := 3) kL_3 (st' := [.ref 0, .ref 0]) rfl (p' := 4) rfl ?_
  refine l_hp (h2 := ab_hl 1 ci_0) rfl ?_
  refine l_ci (pc := 4) kL_4 p0 (r := [.ref 0]) rfl rfl rfl rfl i0_1 (w2 := [.ref 0]) rfl ?_
  refine l_ast (pc := 7) (x := 0) kL_7 (fun l g h1 => ?_)
  have h0 := g 0 _ (by decide) h0 (Or.inl rfl)
  refine l_new (pc := 8) kL_8 (by decide) ?_
  refine l_op (pc := 11) kL_11 (st' := [.ref 22, .ref 22]) rfl (p' := 12) rfl ?_
  refine l_hp (h2 := ab_hl 23 ci_14) rfl ?_
  refine l_ci (pc := 12) kL_12 p108 (r := [.ref 22]) rfl rfl rfl rfl i108_23 (w2 := [.ref 22]) rfl ?_
  refine l_ast (pc := 15) (x := 22) kL_15 (fun l g h2 => ?_)
  have h0 := g 0 _ (by decide) h0 (Or.inl rfl)
  have h1 := g 1 _ (by decide) h1 (Or.inl rfl)
  refine l_op (pc := 16) kL_16 (st' := [.int (1 : Int32)]) rfl (p' := 17) rfl ?_
  refine l_newa (pc := 17) kL_17 (by decide) ?_
  refine l_ast (pc := 19) (x := 41) kL_19 (fun l g h3 => ?_)
  have h0 := g 0 _ (by decide) h0 (Or.inl rfl)
  have h1 := g 1 _ (by decide) h1 (Or.inl rfl)
  have h2 := g 2 _ (by decide) h2 (Or.inl rfl)
  refine l_hp (h2 := wd c0 m0 (fun _ => 0)) (ci_world (fun _ => 0)) ?_
  refine l_op (pc := 20) kL_20 (st' := [.int (0 : Int32)]) rfl (p' := 21) rfl ?_
  refine l_ist (pc := 21) (x := (0 : Int32)) kL_21 (by decide) (fun l g h4 => ?_)
  have h0 := g 0 _ (by decide) h0 (Or.inl rfl)
  have h1 := g 1 _ (by decide) h1 (Or.inl rfl)
  have h2 := g 2 _ (by decide) h2 (Or.inl rfl)
  have h3 := g 3 _ (by decide) h3 (Or.inl rfl)
  exact K l h0 h1 h2 h3 h4
theorem lw_out {l : ab_L} {i : Int32} (h0 : ab_get l 0 = some (.retAddr 600)) (h4 : ab_get l 4 = some (.int i)) (hi : Int32.ofNat L - 6 < i) : ab_Rl xs L d 23 l [] h 1 h := by
  refine l_ld (k := 4) (w := .int i) (pc := 23) kL_23 rfl h4 ld_i (p' := 25) rfl ?_
  refine l_ld (k := 0) (w := .retAddr 600) (pc := 25) kL_25 rfl h0 (ld_a (k4 := 0) rfl) (p' := 26) rfl ?_
  refine l_len (pc := 26) kL_26 ?_
  refine l_op (pc := 27) kL_27 (st' := [.int (6 : Int32), .int (Int32.ofNat L), .int i]) rfl (p' := 29) rfl ?_
  refine l_op (pc := 29) kL_29 (st' := [.int (Int32.ofNat L - 6), .int i]) rfl (p' := 30) rfl ?_
  refine l_br (pc := 30) (t := 320) (st' := []) kL_30 rfl rfl rfl (by simp [ab_br, ab_if2, hi]) ?_
  refine l_op (pc := 320) kL_320 (st' := [.int (1 : Int32)]) rfl (p' := 321) rfl ?_
  exact l_ret (pc := 321) kL_321 rfl rfl
theorem lw_in {l : ab_L} {i : Int32} {t : Nat} (h0 : ab_get l 0 = some (.retAddr 600)) (h4 : ab_get l 4 = some (.int i)) (hi : ¬ Int32.ofNat L - 6 < i) (b0 : ib i L) (ht : ab_tsw 40 274 0 6 #[44, 117, 142, 155, 199, 224, 249] [.int (xs i.toNatClampNeg &&& 7)] = some (t, [])) (K : ab_Rl xs L d t l [] h v h') : ab_Rl xs L d 23 l [] h v h' := by
  refine l_ld (k := 4) (w := .int i) (pc := 23) kL_23 rfl h4 ld_i (p' := 25) rfl ?_
  refine l_ld (k := 0) (w := .retAddr 600) (pc := 25) kL_25 rfl h0 (ld_a (k4 := 0) rfl) (p' := 26) rfl ?_
  refine l_len (pc := 26) kL_26 ?_
  refine l_op (pc := 27) kL_27 (st' := [.int (6 : Int32), .int (Int32.ofNat L), .int i]) rfl (p' := 29) rfl ?_
  refine l_op (pc := 29) kL_29 (st' := [.int (Int32.ofNat L - 6), .int i]) rfl (p' := 30) rfl ?_
  refine l_br (pc := 30) (t := 33) (st' := []) kL_30 rfl rfl rfl (by simp [ab_br, ab_if2, hi]) ?_
  refine l_ld (k := 0) (w := .retAddr 600) (pc := 33) kL_33 rfl h0 (ld_a (k4 := 0) rfl) (p' := 34) rfl ?_
  refine l_ld (k := 4) (w := .int i) (pc := 34) kL_34 rfl h4 ld_i (p' := 36) rfl ?_
  refine l_cell (pc := 36) kL_36 b0 ?_
  refine l_op (pc := 37) kL_37 (st' := [.int (7 : Int32), .int (xs i.toNatClampNeg)]) rfl (p' := 39) rfl ?_
  refine l_op (pc := 39) kL_39 (st' := [.int (xs i.toNatClampNeg &&& 7)]) rfl (p' := 40) rfl ?_
  exact l_br (pc := 40) (t := t) (st' := []) kL_40 rfl rfl rfl ht K
theorem lw_dft {x : Int32} (c0 : ¬ x = 0) (c1 : ¬ x = 1) (c2 : ¬ x = 2) (c3 : ¬ x = 3) (c4 : ¬ x = 4) (c5 : ¬ x = 5) (c6 : ¬ x = 6) : ab_tsw 40 274 0 6 #[44, 117, 142, 155, 199, 224, 249] [.int x] = some (314, []) := by
  refine tsw_d (by decide) (by decide) (by decide) ?_
  intro k hk hx
  have hk : k < 7 := hk
  have hk : k = 0 ∨ k = 1 ∨ k = 2 ∨ k = 3 ∨ k = 4 ∨ k = 5 ∨ k = 6 := by omega
  rcases hk with rfl | rfl | rfl | rfl | rfl | rfl | rfl
  · exact absurd (Int32.toInt_inj.mp (hx.trans rfl)) c0
  · exact absurd (Int32.toInt_inj.mp (hx.trans rfl)) c1
  · exact absurd (Int32.toInt_inj.mp (hx.trans rfl)) c2
  · exact absurd (Int32.toInt_inj.mp (hx.trans rfl)) c3
  · exact absurd (Int32.toInt_inj.mp (hx.trans rfl)) c4
  · exact absurd (Int32.toInt_inj.mp (hx.trans rfl)) c5
  · exact absurd (Int32.toInt_inj.mp (hx.trans rfl)) c6
theorem lw_next {l : ab_L} {i : Int32} (h0 : ab_get l 0 = some (.retAddr 600)) (h1 : ab_get l 1 = some (.ref 0)) (h2 : ab_get l 2 = some (.ref 22)) (h3 : ab_get l 3 = some (.ref 41)) (h4 : ab_get l 4 = some (.int i)) (K : ∀ l : ab_L, ab_get l 0 = some (.retAddr 600) → ab_get l 1 = some (.ref 0) → ab_get l 2 = some (.ref 22) → ab_get l 3 = some (.ref 41) → ab_get l 4 = some (.int (i + 6)) → ab_Rl xs L d 23 l [] h v h') : ab_Rl xs L d 314 l [] h v h' := by
  refine l_inc (pc := 314) kL_314 h4 (by decide) (y := i + 6) rfl (fun l g h4 => ?_)
  have h0 := g 0 _ (by decide) h0 (Or.inl rfl)
  have h1 := g 1 _ (by decide) h1 (Or.inl rfl)
  have h2 := g 2 _ (by decide) h2 (Or.inl rfl)
  have h3 := g 3 _ (by decide) h3 (Or.inl rfl)
  refine l_br (pc := 317) (t := 23) (st' := []) kL_317 rfl rfl rfl rfl ?_
  exact K l h0 h1 h2 h3 h4
end LL
theorem lw_lt {L n : Nat} (hL : L < 100000) (hn : n < 100000) : (Int32.ofNat L - 6 < Int32.ofNat n) ↔ L < n + 6 := by
  rw [Int32.lt_iff_toInt_lt, Int32.toInt_sub, i32_nat (by omega), i32_nat (by omega)]
  have : (6 : Int32).toInt = 6 := rfl
  rw [this, Int.bmod_eq_of_le (by omega) (by omega)]
  omega
theorem lw_loop {xs : Nat → Int32} {L : Nat} {CM : Nat → cS → mS → Prop} (hL : L ≤ 3072)
    (H : ∀ k c m, CM k c m → k < 512 →
  (∀ a b x y z : Int32, ∃ r c' m', f6 c a b x y z = some (r, c') ∧ f110 m a b x y z = some (r, m') ∧ CM (k + 1) c' m') ∧
  (∀ a : Int32, ∃ m', f111 m a = some ((f9 c a).1, m') ∧ CM (k + 1) (f9 c a).2 m') ∧
  (∃ m', f112 m = some (f10 c, m') ∧ CM (k + 1) c m') ∧
  ((∃ v c' m', f15 c = some (.inl (v, c')) ∧ f113 m = some (v, m') ∧ f109 m' = 0 ∧ CM (k + 1) c' m') ∨ (∃ v c' m', f15 c = some (.inr c') ∧ f113 m = some (v, m') ∧ f109 m' = 1 ∧ CM (k + 1) c' m')) ∧
  (∀ a : Int32, ∃ m', f174 m a = some (f11 c a, m') ∧ CM (k + 1) c m') ∧
  (∀ a : Int32, ∃ r m', f12 c a = some r ∧ f175 m a = some (r, m') ∧ CM (k + 1) c m') ∧
  (∀ a : Int32, ∃ r m', f14 c a = some r ∧ f176 m a = some (r, m') ∧ CM (k + 1) c m') ∧
  CM (k + 1) c m) : ∀ (j k : Nat) (c : cS) (m : mS) (w : Nat → Int64), 6 * (k + j) ≤ L → L < 6 * (k + j) + 6 → CM k c m → ∃ c' m' w', CM (k + j) c' m' ∧ ∀ l : ab_L, ab_get l 0 = some (.retAddr 600) → ab_get l 1 = some (.ref 0) → ab_get l 2 = some (.ref 22) → ab_get l 3 = some (.ref 41) → ab_get l 4 = some (.int (Int32.ofNat (6 * k))) → ab_Rl xs L (40 + 458) 23 l [] (wd c m w) 1 (wd c' m' w') := by
  intro j
  induction j with
  | zero =>
    intro k c m w h5 h6 hC
    exact ⟨c, m, w, hC, fun l h0 h1 h2 h3 h4 => lw_out h0 h4 ((lw_lt (by omega) (by omega)).mpr (by omega))⟩
  | succ j ih =>
    intro k c m w h5 h6 hC
    have hb : ∀ q : Nat, q ≤ 5 → ib (Int32.ofNat (6 * k) + Int32.ofNat q) L := by
      intro q hq
      rw [i32_addn (by omega)]
      exact ib_nat (by omega) (by omega)
    have b0 : ib (Int32.ofNat (6 * k)) L := ib_nat (by omega) (by omega)
    have b1 := hb 1 (by omega)
    have b2 := hb 2 (by omega)
    have b3 := hb 3 (by omega)
    have b4 := hb 4 (by omega)
    have b5 := hb 5 (by omega)
    have hi : ¬ Int32.ofNat L - 6 < Int32.ofNat (6 * k) := fun hh => by
      have := (lw_lt (by omega) (by omega)).mp hh
      omega
    have e6 : Int32.ofNat (6 * k) + 6 = Int32.ofNat (6 * (k + 1)) := by
      have : (6 : Int32) = Int32.ofNat 6 := rfl
      have e7 : 6 * k + 6 = 6 * (k + 1) := by omega
      rw [this, i32_addn (by omega), e7]
    have hk : k < 512 := by omega
    obtain ⟨H0, H1, H2, H3, H4, H5, H6, H7⟩ := H k c m hC hk
    have go : ∀ (c2 : cS) (m2 : mS) (w2 : Nat → Int64), CM (k + 1) c2 m2 → ∃ c' m' w', CM (k + (j + 1)) c' m' ∧ ∀ l : ab_L, ab_get l 0 = some (.retAddr 600) → ab_get l 1 = some (.ref 0) → ab_get l 2 = some (.ref 22) → ab_get l 3 = some (.ref 41) → ab_get l 4 = some (.int (Int32.ofNat (6 * k))) → ab_Rl xs L (40 + 458) 314 l [] (wd c2 m2 w2) 1 (wd c' m' w') := by
      intro c2 m2 w2 hC2
      obtain ⟨c', m', w', hC', hR⟩ := ih (k + 1) c2 m2 w2 (by omega) (by omega) hC2
      have ek : k + 1 + j = k + (j + 1) := by omega
      rw [ek] at hC'
      refine ⟨c', m', w', hC', fun l h0 h1 h2 h3 h4 => lw_next h0 h1 h2 h3 h4 (fun l h0 h1 h2 h3 h4 => ?_)⟩
      rw [e6] at h4
      exact hR l h0 h1 h2 h3 h4
    by_cases x0 : xs (Int32.ofNat (6 * k)).toNatClampNeg &&& 7 = 0
    · obtain ⟨r, c2, m2, e1, e2, hC2⟩ := H0 _ _ _ _ _
      obtain ⟨c', m', w', hC', hR⟩ := go c2 m2 w hC2
      exact ⟨c', m', w', hC', fun l h0 h1 h2 h3 h4 => lw_in (t := 84) h0 h4 hi b0 (by rw [x0]; rfl) (lw_feed (d := 40 + 457) h0 h1 h2 h3 h4 b0 b1 b2 b3 b4 b5 e1 e2 hR)⟩
    by_cases x1 : xs (Int32.ofNat (6 * k)).toNatClampNeg &&& 7 = 1
    · obtain ⟨m2, e2, hC2⟩ := H1 (xs (Int32.ofNat (6 * k) + (1 : Int32)).toNatClampNeg)
      obtain ⟨c', m', w', hC', hR⟩ := go _ m2 w hC2
      exact ⟨c', m', w', hC', fun l h0 h1 h2 h3 h4 => lw_in (t := 157) h0 h4 hi b0 (by rw [x1]; rfl) (lw_end h0 h1 h2 h3 h4 b0 b1 b2 b3 b4 b5 e2 hR)⟩
    by_cases x2 : xs (Int32.ofNat (6 * k)).toNatClampNeg &&& 7 = 2
    · obtain ⟨m2, e2, hC2⟩ := H2
      obtain ⟨c', m', w', hC', hR⟩ := go c m2 w hC2
      exact ⟨c', m', w', hC', fun l h0 h1 h2 h3 h4 => lw_in (t := 182) h0 h4 hi b0 (by rw [x2]; rfl) (lw_size h0 h1 h2 h3 h4 b0 b1 b2 b3 b4 b5 e2 hR)⟩
    by_cases x3 : xs (Int32.ofNat (6 * k)).toNatClampNeg &&& 7 = 3
    · rcases H3 with ⟨v, c2, m2, e1, e2, e3, hC2⟩ | ⟨v, c2, m2, e1, e2, e3, hC2⟩
      · obtain ⟨c', m', w', hC', hR⟩ := go c2 m2 (vp_updL w 0 v.toInt64) hC2
        exact ⟨c', m', w', hC', fun l h0 h1 h2 h3 h4 => lw_in (t := 195) h0 h4 hi b0 (by rw [x3]; rfl) (lw_asm0 (d := 40) h0 h1 h2 h3 h4 b0 b1 b2 b3 b4 b5 e1 e2 e3 hR)⟩
      · obtain ⟨c', m', w', hC', hR⟩ := go c2 m2 w hC2
        exact ⟨c', m', w', hC', fun l h0 h1 h2 h3 h4 => lw_in (t := 195) h0 h4 hi b0 (by rw [x3]; rfl) (lw_asm1 (d := 40) h0 h1 h2 h3 h4 b0 b1 b2 b3 b4 b5 e1 e2 e3 hR)⟩
    by_cases x4 : xs (Int32.ofNat (6 * k)).toNatClampNeg &&& 7 = 4
    · obtain ⟨m2, e2, hC2⟩ := H4 (xs (Int32.ofNat (6 * k) + (1 : Int32)).toNatClampNeg)
      obtain ⟨c', m', w', hC', hR⟩ := go c m2 w hC2
      exact ⟨c', m', w', hC', fun l h0 h1 h2 h3 h4 => lw_in (t := 239) h0 h4 hi b0 (by rw [x4]; rfl) (lw_error h0 h1 h2 h3 h4 b0 b1 b2 b3 b4 b5 e2 hR)⟩
    by_cases x5 : xs (Int32.ofNat (6 * k)).toNatClampNeg &&& 7 = 5
    · obtain ⟨r, m2, e1, e2, hC2⟩ := H5 (xs (Int32.ofNat (6 * k) + (1 : Int32)).toNatClampNeg)
      obtain ⟨c', m', w', hC', hR⟩ := go c m2 w hC2
      exact ⟨c', m', w', hC', fun l h0 h1 h2 h3 h4 => lw_in (t := 264) h0 h4 hi b0 (by rw [x5]; rfl) (lw_image (d := 40 + 457) h0 h1 h2 h3 h4 b0 b1 b2 b3 b4 b5 e1 e2 hR)⟩
    by_cases x6 : xs (Int32.ofNat (6 * k)).toNatClampNeg &&& 7 = 6
    · obtain ⟨r, m2, e1, e2, hC2⟩ := H6 (xs (Int32.ofNat (6 * k) + (1 : Int32)).toNatClampNeg)
      obtain ⟨c', m', w', hC', hR⟩ := go c m2 w hC2
      exact ⟨c', m', w', hC', fun l h0 h1 h2 h3 h4 => lw_in (t := 289) h0 h4 hi b0 (by rw [x6]; rfl) (lw_about h0 h1 h2 h3 h4 b0 b1 b2 b3 b4 b5 e1 e2 hR)⟩
    obtain ⟨c', m', w', hC', hR⟩ := go c m w H7
    exact ⟨c', m', w', hC', fun l h0 h1 h2 h3 h4 => lw_in (t := 314) h0 h4 hi b0 (lw_dft x0 x1 x2 x3 x4 x5 x6) (hR l h0 h1 h2 h3 h4)⟩
/-- the world's size -/
theorem ca9_sz (a : Nat × Nat × (Nat → Int32)) : ab_sz1 (ca9 a) = if a.1 = 9 then 6 else a.2.1 := by
  unfold ca9
  by_cases h : a.1 = 9
  · have : (a.1 == 9) = true := by simpa using h
    rw [this, if_pos h]; rfl
  · have : (a.1 == 9) = false := by simpa using h
    rw [this, if_neg h]; rfl
def sz_e : List Nat := [4, 0, 9, 0, 0, 0, 0, 0, 0, 0, 0, 18, 0, 0, 0, 0, 16, 6, 5, 0, 5, 0, 48, 33, 83, 51, 65536, 65536, 65536, 17500, 17500, 17500, 17500, 17500, 2, 130840, 160, 160, 160, 160, 160, 1]
theorem sz_pw (c : cS) (m : mS) (w : Nat → Int64) (i : Nat) : ab_sz1 (cc_F c (mm_F m (zo w)) i) ≤ (bif cfr i then (if (c.2.2.1 i).1 = 9 then 6 else (c.2.2.1 i).2.1) else 0) + sz_e.getD i 0 := by
  by_cases hc : cfr i = true
  · rw [cc_arr hc, hc, ca9_sz]
    exact Nat.le_add_right _ _
  · have hi : i < 42 := by
      refine Nat.lt_of_not_le (fun hh => hc ?_)
      unfold cfr
      split
      all_goals first | omega | skip
      simp; omega
    have hi : i = 0 ∨ i = 1 ∨ i = 2 ∨ i = 3 ∨ i = 4 ∨ i = 5 ∨ i = 6 ∨ i = 7 ∨ i = 8 ∨ i = 9 ∨ i = 10 ∨ i = 11 ∨ i = 12 ∨ i = 13 ∨ i = 14 ∨ i = 15 ∨ i = 16 ∨ i = 17 ∨ i = 18 ∨ i = 19 ∨ i = 20 ∨ i = 21 ∨ i = 22 ∨ i = 23 ∨ i = 24 ∨ i = 25 ∨ i = 26 ∨ i = 27 ∨ i = 28 ∨ i = 29 ∨ i = 30 ∨ i = 31 ∨ i = 32 ∨ i = 33 ∨ i = 34 ∨ i = 35 ∨ i = 36 ∨ i = 37 ∨ i = 38 ∨ i = 39 ∨ i = 40 ∨ i = 41 := by omega
    rcases hi with rfl | rfl | rfl | rfl | rfl | rfl | rfl | rfl | rfl | rfl | rfl | rfl | rfl | rfl | rfl | rfl | rfl | rfl | rfl | rfl | rfl | rfl | rfl | rfl | rfl | rfl | rfl | rfl | rfl | rfl | rfl | rfl | rfl | rfl | rfl | rfl | rfl | rfl | rfl | rfl | rfl | rfl
    · show (4 : Nat) ≤ 0 + 4; omega
    · exact absurd rfl hc
    · show (9 : Nat) ≤ 0 + 9; omega
    · exact absurd rfl hc
    · exact absurd rfl hc
    · exact absurd rfl hc
    · exact absurd rfl hc
    · exact absurd rfl hc
    · exact absurd rfl hc
    · exact absurd rfl hc
    · exact absurd rfl hc
    · show (18 : Nat) ≤ 0 + 18; omega
    · exact absurd rfl hc
    · exact absurd rfl hc
    · exact absurd rfl hc
    · exact absurd rfl hc
    · show (16 : Nat) ≤ 0 + 16; omega
    · show (6 : Nat) ≤ 0 + 6; omega
    · show (5 : Nat) ≤ 0 + 5; omega
    · exact absurd rfl hc
    · show (5 : Nat) ≤ 0 + 5; omega
    · exact absurd rfl hc
    · show (48 : Nat) ≤ 0 + 48; omega
    · show (33 : Nat) ≤ 0 + 33; omega
    · show (83 : Nat) ≤ 0 + 83; omega
    · show (51 : Nat) ≤ 0 + 51; omega
    · show (65536 : Nat) ≤ 0 + 65536; omega
    · show (65536 : Nat) ≤ 0 + 65536; omega
    · show (65536 : Nat) ≤ 0 + 65536; omega
    · show (17500 : Nat) ≤ 0 + 17500; omega
    · show (17500 : Nat) ≤ 0 + 17500; omega
    · show (17500 : Nat) ≤ 0 + 17500; omega
    · show (17500 : Nat) ≤ 0 + 17500; omega
    · show (17500 : Nat) ≤ 0 + 17500; omega
    · show (2 : Nat) ≤ 0 + 2; omega
    · show (130840 : Nat) ≤ 0 + 130840; omega
    · show (160 : Nat) ≤ 0 + 160; omega
    · show (160 : Nat) ≤ 0 + 160; omega
    · show (160 : Nat) ≤ 0 + 160; omega
    · show (160 : Nat) ≤ 0 + 160; omega
    · show (160 : Nat) ≤ 0 + 160; omega
    · show (1 : Nat) ≤ 0 + 1; omega
theorem sz_es : ∀ n : Nat, ((List.range n).map (fun i => sz_e.getD i 0)).sum ≤ 500000 := by
  have h42 : ∀ k : Nat, ((List.range (42 + k)).map (fun i => sz_e.getD i 0)).sum = 416029 := by
    intro k
    induction k with
    | zero => decide +kernel
    | succ k ih =>
      rw [← Nat.add_assoc, List.range_succ, List.map_append, List.sum_append, ih]
      have : sz_e.getD (42 + k) 0 = 0 := getD_out (by show 42 ≤ 42 + k; omega)
      simp only [List.map_cons, List.map_nil, List.sum_cons, List.sum_nil, this, Nat.add_zero]
  intro n
  have hm : ∀ k n : Nat, ((List.range n).map (fun i => sz_e.getD i 0)).sum ≤ ((List.range (n + k)).map (fun i => sz_e.getD i 0)).sum := by
    intro k n
    induction k with
    | zero => exact Nat.le_refl _
    | succ k ih =>
      rw [← Nat.add_assoc, List.range_succ, List.map_append, List.sum_append]
      omega
  have h1 := hm 42 n
  rw [Nat.add_comm n 42, h42] at h1
  omega
theorem wd_sz (c : cS) (m : mS) (w : Nat → Int64) : ab_sz (wd c m w) ≤ csz c + 900000 := by
  have key : ∀ n : Nat, ((List.range n).map (fun i => ab_sz1 (cc_F c (mm_F m (zo w)) i))).sum ≤ ((List.range n).map (fun i => bif cfr i then (if (c.2.2.1 i).1 = 9 then 6 else (c.2.2.1 i).2.1) else 0)).sum + ((List.range n).map (fun i => sz_e.getD i 0)).sum := by
    intro n
    induction n with
    | zero => exact Nat.le_refl _
    | succ n ih =>
      simp only [List.range_succ, List.map_append, List.sum_append, List.map_cons, List.map_nil, List.sum_cons, List.sum_nil]
      have := sz_pw c m w n
      omega
  have h1 := key (42 + c.2.2.2)
  have h2 := sz_es (42 + c.2.2.2)
  unfold wd ch ab_sz ab_hl csz
  rw [List.map_map]
  exact Nat.le_trans h1 (by omega)
theorem goal_of (G : GoalP) : ab_Goal := by
  intro xs L hL
  obtain ⟨CM, hI, hR, H⟩ := G
  obtain ⟨c', m', w', hC, hrun⟩ := lw_loop (xs := xs) hL H (L / 6) 0 c0 m0 (fun _ => 0) (by omega) (by omega) hI
  have h1 : ab_Rl xs L (496 + 2) 0 [(0, .retAddr 600)] [] [] 1 (wd c' m' w') := lw_init rfl (fun l h0 h1 h2 h3 h4 => hrun l h0 h1 h2 h3 h4)
  obtain ⟨n, hn⟩ := h1
  have hb := hR _ c' m' hC (by omega)
  refine ⟨n, 498, wd c' m' w', by decide, hn, ?_, ?_⟩
  · unfold wd ch
    rw [ab_hl_len]
    omega
  · have := wd_sz c' m' w'
    omega
