/-! CONSTANT STRINGS: length and charAt. -/
theorem p52 : ab_prog[52]? = some (ab_m52, ab_c52) := rfl
theorem k52_0 : ab_fetch ab_c52 0 = some (.aload_n 0, 1, 0, 0) := rfl
theorem k52_1 : ab_fetch ab_c52 1 = some (.getfield 9, 3, 100, 0) := rfl
theorem k52_4 : ab_fetch ab_c52 4 = some (.arraylength, 1, 0, 0) := rfl
theorem k52_5 : ab_fetch ab_c52 5 = some (.aload_n 0, 1, 0, 0) := rfl
theorem k52_6 : ab_fetch ab_c52 6 = some (.invokevirtual 335, 3, 53, 0) := rfl
theorem k52_9 : ab_fetch ab_c52 9 = some (.ishr, 1, 0, 0) := rfl
theorem k52_10 : ab_fetch ab_c52 10 = some (.ireturn, 1, 0, 0) := rfl
theorem p53 : ab_prog[53]? = some (ab_m53, ab_c53) := rfl
theorem k53_0 : ab_fetch ab_c53 0 = some (.getstatic 38, 3, 1, 1) := rfl
theorem k53_3 : ab_fetch ab_c53 3 = some (.ifCond .eq 10, 3, 13, 0) := rfl
theorem k53_6 : ab_fetch ab_c53 6 = some (.aload_n 0, 1, 0, 0) := rfl
theorem k53_7 : ab_fetch ab_c53 7 = some (.getfield 15, 3, 100, 1) := rfl
theorem k53_10 : ab_fetch ab_c53 10 = some (.goto 4, 3, 14, 0) := rfl
theorem k53_13 : ab_fetch ab_c53 13 = some (.iconst 1, 1, 0, 0) := rfl
theorem k53_14 : ab_fetch ab_c53 14 = some (.ireturn, 1, 0, 0) := rfl
theorem p54 : ab_prog[54]? = some (ab_m54, ab_c54) := rfl
theorem k54_0 : ab_fetch ab_c54 0 = some (.aload_n 0, 1, 0, 0) := rfl
theorem k54_1 : ab_fetch ab_c54 1 = some (.invokevirtual 492, 3, 55, 0) := rfl
theorem k54_4 : ab_fetch ab_c54 4 = some (.ifCond .eq 12, 3, 16, 0) := rfl
theorem k54_7 : ab_fetch ab_c54 7 = some (.aload_n 0, 1, 0, 0) := rfl
theorem k54_8 : ab_fetch ab_c54 8 = some (.getfield 9, 3, 100, 0) := rfl
theorem k54_11 : ab_fetch ab_c54 11 = some (.iload_n 1, 1, 0, 0) := rfl
theorem k54_12 : ab_fetch ab_c54 12 = some (.invokestatic 495, 3, 56, 2) := rfl
theorem k54_15 : ab_fetch ab_c54 15 = some (.ireturn, 1, 0, 0) := rfl
theorem k54_16 : ab_fetch ab_c54 16 = some (.aload_n 0, 1, 0, 0) := rfl
theorem k54_17 : ab_fetch ab_c54 17 = some (.getfield 9, 3, 100, 0) := rfl
theorem k54_20 : ab_fetch ab_c54 20 = some (.iload_n 1, 1, 0, 0) := rfl
theorem k54_24 : ab_fetch ab_c54 24 = some (.ireturn, 1, 0, 0) := rfl
theorem p55 : ab_prog[55]? = some (ab_m55, ab_c55) := rfl
theorem k55_0 : ab_fetch ab_c55 0 = some (.getstatic 38, 3, 1, 1) := rfl
theorem k55_3 : ab_fetch ab_c55 3 = some (.ifCond .eq 14, 3, 17, 0) := rfl
theorem k55_6 : ab_fetch ab_c55 6 = some (.aload_n 0, 1, 0, 0) := rfl
theorem k55_7 : ab_fetch ab_c55 7 = some (.getfield 15, 3, 100, 1) := rfl
theorem k55_10 : ab_fetch ab_c55 10 = some (.ifCond .ne 7, 3, 17, 0) := rfl
theorem k55_13 : ab_fetch ab_c55 13 = some (.iconst 1, 1, 0, 0) := rfl
theorem k55_14 : ab_fetch ab_c55 14 = some (.goto 4, 3, 18, 0) := rfl
theorem k55_17 : ab_fetch ab_c55 17 = some (.iconst 0, 1, 0, 0) := rfl
theorem k55_18 : ab_fetch ab_c55 18 = some (.ireturn, 1, 0, 0) := rfl
theorem p56 : ab_prog[56]? = some (ab_m56, ab_c56) := rfl
theorem k56_0 : ab_fetch ab_c56 0 = some (.iload_n 1, 1, 0, 0) := rfl
theorem k56_1 : ab_fetch ab_c56 1 = some (.aload_n 0, 1, 0, 0) := rfl
theorem k56_2 : ab_fetch ab_c56 2 = some (.arraylength, 1, 0, 0) := rfl
theorem k56_3 : ab_fetch ab_c56 3 = some (.invokestatic 9, 3, 177, 2) := rfl
theorem k56_6 : ab_fetch ab_c56 6 = some (.aload_n 0, 1, 0, 0) := rfl
theorem k56_7 : ab_fetch ab_c56 7 = some (.iload_n 1, 1, 0, 0) := rfl
theorem k56_8 : ab_fetch ab_c56 8 = some (.baload, 1, 0, 0) := rfl
theorem k56_9 : ab_fetch ab_c56 9 = some (.sipush 255, 3, 0, 0) := rfl
theorem k56_12 : ab_fetch ab_c56 12 = some (.iand, 1, 0, 0) := rfl
theorem k56_13 : ab_fetch ab_c56 13 = some (.i2c, 1, 0, 0) := rfl
theorem k56_14 : ab_fetch ab_c56 14 = some (.ireturn, 1, 0, 0) := rfl
theorem p177 : ab_prog[177]? = some (ab_m177, ab_c177) := rfl
theorem k177_0 : ab_fetch ab_c177 0 = some (.iload_n 0, 1, 0, 0) := rfl
theorem k177_1 : ab_fetch ab_c177 1 = some (.iload_n 1, 1, 0, 0) := rfl
theorem k177_2 : ab_fetch ab_c177 2 = some (.getstatic 1053, 3, 501, 2) := rfl
theorem k177_5 : ab_fetch ab_c177 5 = some (.invokestatic 1059, 3, 178, 3) := rfl
theorem k177_8 : ab_fetch ab_c177 8 = some (.pop, 1, 0, 0) := rfl
theorem k177_9 : ab_fetch ab_c177 9 = some (.return_, 1, 0, 0) := rfl
theorem p178 : ab_prog[178]? = some (ab_m178, ab_c178) := rfl
theorem k178_0 : ab_fetch ab_c178 0 = some (.iload_n 0, 1, 0, 0) := rfl
theorem k178_1 : ab_fetch ab_c178 1 = some (.ifCond .lt 8, 3, 9, 0) := rfl
theorem k178_4 : ab_fetch ab_c178 4 = some (.iload_n 0, 1, 0, 0) := rfl
theorem k178_5 : ab_fetch ab_c178 5 = some (.iload_n 1, 1, 0, 0) := rfl
theorem k178_6 : ab_fetch ab_c178 6 = some (.if_icmp .lt 10, 3, 16, 0) := rfl
theorem k178_9 : ab_fetch ab_c178 9 = some (.aload_n 2, 1, 0, 0) := rfl
theorem k178_10 : ab_fetch ab_c178 10 = some (.iload_n 0, 1, 0, 0) := rfl
theorem k178_11 : ab_fetch ab_c178 11 = some (.iload_n 1, 1, 0, 0) := rfl
theorem k178_15 : ab_fetch ab_c178 15 = some (.athrow, 1, 0, 0) := rfl
theorem k178_16 : ab_fetch ab_c178 16 = some (.iload_n 0, 1, 0, 0) := rfl
theorem k178_17 : ab_fetch ab_c178 17 = some (.ireturn, 1, 0, 0) := rfl
theorem st_len : ab_strs.length = 106 := rfl
theorem st_at {k : Nat} (h : k < 106) : ab_strs[200 + k - 200]? = some (ab_strs.getD k []) := by
  rw [Nat.add_sub_cancel_left]
  have : k < ab_strs.length := by rw [st_len]; exact h
  rw [List.getElem?_eq_getElem this, List.getD_eq_getElem?_getD, List.getElem?_eq_getElem this]
  rfl
theorem st_ok : ab_strs.all (fun s => Nat.blt s.length 1000 && s.all (fun b => decide (((b &&& 255).toUInt32 % 65536).toInt32 = b) && ab_nar .char b)) = true := by decide +kernel
theorem st_ok1 {k : Nat} (h : k < 106) : (ab_strs.getD k []).length < 1000 ∧ ∀ b ∈ ab_strs.getD k [], ((b &&& 255).toUInt32 % 65536).toInt32 = b ∧ ab_nar .char b = true := by
  have h1 := st_at h
  have h2 := List.all_eq_true.mp st_ok _ (List.mem_of_getElem? h1)
  simp only [Bool.and_eq_true, List.all_eq_true, decide_eq_true_eq] at h2
  exact ⟨by simpa using h2.1, h2.2⟩
theorem getD_mem {q : List Int32} {i : Nat} (h : i < q.length) : q.getD i 0 ∈ q := by
  rw [List.getD_eq_getElem?_getD, List.getElem?_eq_getElem h]
  exact List.getElem_mem h
theorem i32_lt_of {j : Int32} {m : Nat} (hm : m < 2147483648) (h : ib j m) : j < Int32.ofNat m := by
  rw [Int32.lt_iff_toInt_lt, Int32.toInt_ofNat_of_lt hm]
  have h1 : ¬ j.toInt < 0 := fun hh => h (Or.inl (Int32.lt_iff_toInt_lt.mpr hh))
  have h2 : ¬ m ≤ j.toInt.toNat := fun hh => h (Or.inr hh)
  omega
theorem t53 {d : Nat} {h : ab_H} (k : Nat) (hk : k < 106) : ab_Rn d 53 0 (lv_args 0 [.retAddr k]) [] h (.inl (some (.int 0))) h := by
  refine r_gstI p53 k53_0 ?_
  refine r_if_eq (pc := 3) p53 k53_3 (fun c => absurd c (by decide)) (fun _ => ?_)
  refine r_aloadS_n (pc := 6) (i := k) p53 k53_6 rfl ?_
  refine r_sget (pc := 7) (v := .int 0) p53 k53_7 (by simp only [ab_sfv, if_pos hk]) ?_
  refine r_goto (pc := 10) p53 k53_10 ?_
  exact r_ret (pc := 14) p53 k53_14 rfl rfl
theorem t52 {d : Nat} {h : ab_H} (k : Nat) (hk : k < 106) : ab_Rn (d + 1) 52 0 (lv_args 0 [.retAddr k]) [] h (.inl (some (.int (Int32.ofNat (sl k))))) h := by
  refine r_aloadS_n (pc := 0) (i := k) p52 k52_0 rfl ?_
  refine r_sget (pc := 1) (v := .retAddr (200 + k)) p52 k52_1 (by simp only [ab_sfv, if_pos hk]) ?_
  refine r_nx (z := (5, lv_args 0 [.retAddr k], [.int (Int32.ofNat (sl k))], h)) (pc := 4) p52 k52_4 ?_ ?_
  · simp only [ab_nx, ab_op, ab_ld, ab_sto, ab_br, ab_hp, ab_alen, Option.map_none, ab_con, ab_slen, st_at hk]
    rw [if_neg (by omega), if_pos (by omega)]
    rfl
  refine r_aloadS_n (pc := 5) (i := k) p52 k52_5 rfl ?_
  refine r_cvs (pc := 6) (k := k) hk p52 k52_6 rfl p53 (r := [.int (Int32.ofNat (sl k))]) rfl rfl rfl rfl rfl (t53 k hk) (w := [.int 0, .int (Int32.ofNat (sl k))]) rfl ?_
  refine r_ishr (pc := 9) p52 k52_9 ?_
  have e : Int32.ofNat (sl k) >>> ((0 : Int32) &&& 31) = Int32.ofNat (sl k) := by simp
  rw [e]
  exact r_retI (pc := 10) p52 k52_10 rfl
theorem t55 {d : Nat} {h : ab_H} (k : Nat) (hk : k < 106) : ab_Rn d 55 0 (lv_args 0 [.retAddr k]) [] h (.inl (some (.int 1))) h := by
  refine r_gstI p55 k55_0 ?_
  refine r_if_eq (pc := 3) p55 k55_3 (fun c => absurd c (by decide)) (fun _ => ?_)
  refine r_aloadS_n (pc := 6) (i := k) p55 k55_6 rfl ?_
  refine r_sget (pc := 7) (v := .int 0) p55 k55_7 (by simp only [ab_sfv, if_pos hk]) ?_
  refine r_if_ne (pc := 10) p55 k55_10 (fun c => absurd rfl c) (fun _ => ?_)
  refine r_iconst (pc := 13) p55 k55_13 (v := 1) rfl ?_
  refine r_goto (pc := 14) p55 k55_14 ?_
  exact r_retZ (pc := 18) p55 k55_18 rfl (Or.inr rfl)
theorem t178 {d : Nat} {h : ab_H} (j m : Int32) (h0 : ¬ j < 0) (h1 : j < m) : ab_Rn d 178 0 (lv_args 0 [.int j, .int m, .float 1]) [] h (.inl (some (.int j))) h := by
  refine r_iload_n (pc := 0) (x := j) p178 k178_0 rfl ?_
  refine r_if_lt (pc := 1) p178 k178_1 (fun c => absurd c h0) (fun _ => ?_)
  refine r_iload_n (pc := 4) (x := j) p178 k178_4 rfl ?_
  refine r_iload_n (pc := 5) (x := m) p178 k178_5 rfl ?_
  refine r_ic_lt (pc := 6) p178 k178_6 (fun _ => ?_) (fun c => absurd h1 c)
  refine r_iload_n (pc := 16) (x := j) p178 k178_16 rfl ?_
  exact r_retI (pc := 17) p178 k178_17 rfl
theorem t177 {d : Nat} {h : ab_H} (j m : Int32) (h0 : ¬ j < 0) (h1 : j < m) : ab_Rn (d + 1) 177 0 (lv_args 0 [.int j, .int m]) [] h (.inl none) h := by
  refine r_iload_n (pc := 0) (x := j) p177 k177_0 rfl ?_
  refine r_iload_n (pc := 1) (x := m) p177 k177_1 rfl ?_
  refine r_gstF (pc := 2) p177 k177_2 ?_
  refine r_csv (pc := 5) p177 k177_5 rfl rfl p178 (r := []) rfl rfl rfl rfl (t178 j m h0 h1) (w := [.int j]) rfl ?_
  refine r_pop (pc := 8) p177 k177_8 rfl ?_
  exact r_retV (pc := 9) p177 k177_9 rfl
theorem t56 {d : Nat} {h : ab_H} (k : Nat) (j : Int32) (c : cJ k j) : ab_Rn (d + 2) 56 0 (lv_args 0 [.retAddr (200 + k), .int j]) [] h (.inl (some (.int (sc k j)))) h := by
  obtain ⟨hk, hj⟩ := c
  have hs := st_ok1 hk
  have hm : sc k j ∈ ab_strs.getD k [] := by
    have : j.toNatClampNeg < (ab_strs.getD k []).length := by
      have h2 : ¬ sl k ≤ j.toNatClampNeg := fun hh => hj (Or.inr hh)
      unfold sl at h2; omega
    exact getD_mem this
  have h2 := hs.2 _ hm
  refine r_iload_n (pc := 0) (x := j) p56 k56_0 rfl ?_
  refine r_aloadS_n (pc := 1) (i := 200 + k) p56 k56_1 rfl ?_
  refine r_nx (z := (3, lv_args 0 [.retAddr (200 + k), .int j], [.int (Int32.ofNat (sl k)), .int j], h)) (pc := 2) p56 k56_2 ?_ ?_
  · simp only [ab_nx, ab_op, ab_ld, ab_sto, ab_br, ab_hp, ab_alen, Option.map_none, ab_con, ab_slen, st_at hk]
    rw [if_neg (by omega), if_pos (by omega)]
    rfl
  refine r_csv (pc := 3) p56 k56_3 rfl rfl p177 (r := []) rfl rfl rfl rfl (t177 j _ (fun hh => hj (Or.inl hh)) (i32_lt_of (by unfold sl; omega) hj)) (w := []) rfl ?_
  refine r_aloadS_n (pc := 6) (i := 200 + k) p56 k56_6 rfl ?_
  refine r_iload_n (pc := 7) (x := j) p56 k56_7 rfl ?_
  refine r_nx (z := (9, lv_args 0 [.retAddr (200 + k), .int j], [.int (sc k j)], h)) (pc := 8) p56 k56_8 ?_ ?_
  · simp only [ab_nx, ab_op, ab_ld, ab_sto, ab_br, ab_hp, ab_ald, Option.map_none, ab_con, ab_sbld, st_at hk]
    have hj2 : ¬ (j < 0 ∨ (ab_strs.getD k []).length ≤ j.toNatClampNeg) := hj
    rw [if_pos (by omega), if_pos hj2]
    rfl
  refine r_sipush (pc := 9) p56 k56_9 (v := 255) rfl ?_
  refine r_iand (pc := 12) p56 k56_12 ?_
  refine r_i2c (pc := 13) p56 k56_13 ?_
  rw [h2.1]
  exact r_ret (pc := 14) p56 k56_14 rfl (by show ab_ret (some .char) _ _ = _; simp only [ab_ret, h2.2, if_true])
theorem t54 {d : Nat} {h : ab_H} (k : Nat) (j : Int32) (c : cJ k j) : ab_Rn (d + 3) 54 0 (lv_args 0 [.retAddr k, .int j]) [] h (.inl (some (.int (sc k j)))) h := by
  have hk := c.1
  have hm : sc k j ∈ ab_strs.getD k [] := by
    have : j.toNatClampNeg < (ab_strs.getD k []).length := by
      have h2 : ¬ sl k ≤ j.toNatClampNeg := fun hh => c.2 (Or.inr hh)
      unfold sl at h2; omega
    exact getD_mem this
  have h2 := (st_ok1 hk).2 _ hm
  refine r_aloadS_n (pc := 0) (i := k) p54 k54_0 rfl ?_
  refine r_cvs (pc := 1) (k := k) hk p54 k54_1 rfl p55 (r := []) rfl rfl rfl rfl rfl (t55 k hk) (w := [.int 1]) rfl ?_
  refine r_if_eq (pc := 4) p54 k54_4 (fun c => absurd c (by decide)) (fun _ => ?_)
  refine r_aloadS_n (pc := 7) (i := k) p54 k54_7 rfl ?_
  refine r_sget (pc := 8) (v := .retAddr (200 + k)) p54 k54_8 (by simp only [ab_sfv, if_pos hk]) ?_
  refine r_iload_n (pc := 11) (x := j) p54 k54_11 rfl ?_
  refine r_csv (pc := 12) p54 k54_12 rfl rfl p56 (r := []) rfl rfl rfl rfl (t56 k j c) (w := [.int (sc k j)]) rfl ?_
  exact r_ret (pc := 15) p54 k54_15 rfl (by show ab_ret (some .char) _ _ = _; simp only [ab_ret, h2.2, if_true])
