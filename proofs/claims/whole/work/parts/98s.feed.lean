/-! BOTH take text. -/
/-- the five words' bytes -/
def sel (a b x y z : Int32) (j : Nat) : Int32 := if 4 ≤ j then (if 8 ≤ j then (if 12 ≤ j then (if 16 ≤ j then z else y) else x) else b) else a
def fwb (a b x y z : Int32) (j : Nat) : Int32 := (sel a b x y z j >>> (nn (24 - 8 * (j % 4)) &&& 31)).toInt8.toInt32
def FX (w : Nat → Int32) (tl : Nat) (f : Nat → Int32) (j : Nat) : Nat → Int32 := fun i => if tl ≤ i ∧ i < tl + j then w (i - tl) else f i
theorem FX_0 (w : Nat → Int32) (tl : Nat) (f : Nat → Int32) : FX w tl f 0 = f := by
  funext i
  unfold FX
  rw [if_neg (by omega)]
theorem FX_s (w : Nat → Int32) (tl : Nat) (f : Nat → Int32) (j : Nat) : upd (FX w tl f j) (tl + j) (w j) = FX w tl f (j + 1) := by
  funext i
  unfold upd FX
  by_cases c : i = tl + j
  · rw [if_pos c, if_pos (by omega), show i - tl = j by omega]
  · rw [if_neg c]
    by_cases c2 : tl ≤ i ∧ i < tl + j
    · rw [if_pos c2, if_pos (by omega)]
    · rw [if_neg c2, if_neg (by omega)]
section FC
variable {s0 s : cS} {w : Nat → Int32} {tl : Nat}
def FD (s0 : cS) (w : Nat → Int32) (tl j : Nat) (s : cS) : Prop := WF [(0, 1)] [s0.2.1 0 0] s0 s ∧ s.1 0 1 = nn (tl + j) ∧ (s.2.2.1 (s0.2.1 0 0)).2.2 = FX w tl (s0.2.2.1 (s0.2.1 0 0)).2.2 j
theorem st8 (hA : cA s0 0 (s0.2.1 0 0)) (hc : cl s0 (s0.2.1 0 0) ≤ 65536) {j : Nat} (H : FD s0 w tl j s) (hj : tl + j < cl s0 (s0.2.1 0 0)) (u : Nat) {v x2 : Int32} (hx : ¬ x2 < 0) (hv : (v >>> (x2 &&& 31)).toInt8.toInt32 = w j) : ∃ s', f8_3 (u + 1) s v x2 = f8_3 u s' v (x2 + -8) ∧ FD s0 w tl (j + 1) s' := by
  obtain ⟨F, h1, h2⟩ := H
  have e0 : s.2.1 0 0 = s0.2.1 0 0 := by rw [F.2.1]
  have hA1 : cA s 0 (s0.2.1 0 0) := ⟨hA.1, by rw [F.2.2.1]; exact hA.2.1, by rw [(F.2.2.2.1 _).1]; exact hA.2.2⟩
  have hcl : cl s (s0.2.1 0 0) = cl s0 (s0.2.1 0 0) := (F.2.2.2.1 _).2
  rw [f8_3, if_neg hx, e0, if_pos hA1, h1, if_neg (show ¬ Int32.ofNat (cl s (s0.2.1 0 0)) ≤ nn (tl + j) from fun h => by rw [hcl] at h; have := (nn_le (by omega) (by omega)).mp h; omega), if_pos ⟨hA1, by rw [hcl]; exact (nn_ib (by omega)).mpr hj⟩, i8_i8, hv, nn_add1]
  refine ⟨_, rfl, ?_, rfl, ?_⟩
  · have F2 := WF_w F (q := s0.2.1 0 0) (List.mem_singleton.mpr rfl) (nn (tl + j)) (w j)
    exact WF_trans F2 (WF_cf (CF_g (CF_refl _ _) (by decide) _))
  · show ((cw s (s0.2.1 0 0) (nn (tl + j)) (w j)).2.2.1 (s0.2.1 0 0)).2.2 = _
    rw [cw_eq, nn_tn (by omega)]
    show upd (s.2.2.1 (s0.2.1 0 0)).2.2 (tl + j) (w j) = _
    rw [h2, FX_s]
theorem c_8 (hA : cA s0 0 (s0.2.1 0 0)) (hc : cl s0 (s0.2.1 0 0) ≤ 65536) {j : Nat} (H : FD s0 w tl j s) (hj : tl + j + 4 ≤ cl s0 (s0.2.1 0 0)) {v : Int32} (hv : ∀ t, t < 4 → (v >>> (nn (24 - 8 * t) &&& 31)).toInt8.toInt32 = w (j + t)) : ∃ s', f8 s v = some s' ∧ FD s0 w tl (j + 4) s' := by
  unfold f8
  obtain ⟨s1, a1, H1⟩ := st8 hA hc H (by omega) 199999 (v := v) (x2 := 24) (by decide) (hv 0 (by decide))
  obtain ⟨s2, a2, H2⟩ := st8 hA hc H1 (by omega) 199998 (v := v) (x2 := 16) (by decide) (hv 1 (by decide))
  obtain ⟨s3, a3, H3⟩ := st8 hA hc H2 (by omega) 199997 (v := v) (x2 := 8) (by decide) (hv 2 (by decide))
  obtain ⟨s4, a4, H4⟩ := st8 hA hc H3 (by omega) 199996 (v := v) (x2 := 0) (by decide) (hv 3 (by decide))
  refine ⟨s4, ?_, H4⟩
  rw [show mm_U = 199999 + 1 from rfl, a1, show (24 : Int32) + -8 = 16 from rfl, show (199999 : Nat) = 199998 + 1 from rfl, a2, show (16 : Int32) + -8 = 8 from rfl, show (199998 : Nat) = 199997 + 1 from rfl, a3, show (8 : Int32) + -8 = 0 from rfl, show (199997 : Nat) = 199996 + 1 from rfl, a4, show (199996 : Nat) = 199995 + 1 from rfl, f8_3, if_pos (by decide)]
theorem c_652 (hA : cA s0 0 (s0.2.1 0 0)) (hc : cl s0 (s0.2.1 0 0) ≤ 65536) (h1 : s0.1 0 1 = nn tl) (hj : tl + 20 ≤ cl s0 (s0.2.1 0 0)) (a b x y z : Int32) : ∃ s', f6_52 s0 a b x y z = some (1, s') ∧ FD s0 (fwb a b x y z) tl 20 s' := by
  have H0 : FD s0 (fwb a b x y z) tl 0 s0 := ⟨WF_refl _ _ _, h1, (FX_0 _ _ _).symm⟩
  obtain ⟨s1, a1, H1⟩ := c_8 hA hc H0 (by omega) (v := a) (fun t ht => by
    unfold fwb sel
    rw [if_neg (by omega), show (0 + t) % 4 = t by omega])
  obtain ⟨s2, a2, H2⟩ := c_8 hA hc H1 (by omega) (v := b) (fun t ht => by
    unfold fwb sel
    rw [if_pos (by omega), if_neg (by omega), show (0 + 4 + t) % 4 = t by omega])
  obtain ⟨s3, a3, H3⟩ := c_8 hA hc H2 (by omega) (v := x) (fun t ht => by
    unfold fwb sel
    rw [if_pos (by omega), if_pos (by omega), if_neg (by omega), show (0 + 4 + 4 + t) % 4 = t by omega])
  obtain ⟨s4, a4, H4⟩ := c_8 hA hc H3 (by omega) (v := y) (fun t ht => by
    unfold fwb sel
    rw [if_pos (by omega), if_pos (by omega), if_pos (by omega), if_neg (by omega), show (0 + 4 + 4 + 4 + t) % 4 = t by omega])
  obtain ⟨s5, a5, H5⟩ := c_8 hA hc H4 (by omega) (v := z) (fun t ht => by
    unfold fwb sel
    rw [if_pos (by omega), if_pos (by omega), if_pos (by omega), if_pos (by omega), show (0 + 4 + 4 + 4 + 4 + t) % 4 = t by omega])
  refine ⟨s5, ?_, H5⟩
  unfold f6_52
  rw [a1, Option.bind_some, a2, Option.bind_some, a3, Option.bind_some, a4, Option.bind_some, a5]
  rfl
end FC
section FM
variable {m m0 : mS} {w : Nat → Int32} {tl : Nat}
def FE (m0 : mS) (w : Nat → Int32) (tl j : Nat) (m : mS) : Prop := m.1 = m0.1 ∧ (∀ k, ¬ k = 4 → m.2 k = m0.2 k) ∧ m.2 4 = FX w tl (m0.2 4) j
theorem st110 (a b x y z : Int32) (u : Nat) (m : mS) (j : Nat) (hj : j < 20) : f110_22 (u + 1) m a b x y z (nn j) = f110_75 (f110_22 u) m a b x y z (nn j) (sel a b x y z j) := by
  have h : j = 0 ∨ j = 1 ∨ j = 2 ∨ j = 3 ∨ j = 4 ∨ j = 5 ∨ j = 6 ∨ j = 7 ∨ j = 8 ∨ j = 9 ∨ j = 10 ∨ j = 11 ∨ j = 12 ∨ j = 13 ∨ j = 14 ∨ j = 15 ∨ j = 16 ∨ j = 17 ∨ j = 18 ∨ j = 19 := by omega
  rw [f110_22]
  rcases h with rfl | rfl | rfl | rfl | rfl | rfl | rfl | rfl | rfl | rfl | rfl | rfl | rfl | rfl | rfl | rfl | rfl | rfl | rfl | rfl
  all_goals rfl
theorem m_110 (a b x y z : Int32) (h5 : m0.1 5 = nn tl) (htl : tl + 20 ≤ 65536) : ∃ m', f110 m0 a b x y z = some (1, mg m' 5 (nn (tl + 20))) ∧ FE (mg m0 3 0) (fwb a b x y z) tl 20 m' := by
  have lp : ∀ (d j u : Nat) (m1 : mS), 20 - j = d → j ≤ 20 → d < u → FE (mg m0 3 0) (fwb a b x y z) tl j m1 → ∃ m', f110_22 u m1 a b x y z (nn j) = some (1, mg m' 5 (nn (tl + 20))) ∧ FE (mg m0 3 0) (fwb a b x y z) tl 20 m' := by
    intro d
    induction d with
    | zero =>
      intro j u m1 hd hj hu H
      have eu : u = (u - 1) + 1 := by omega
      have ej : j = 20 := by omega
      subst ej
      have e5 : m1.1 5 = nn tl := by rw [H.1]; exact h5
      rw [eu, f110_22, if_pos (by decide)]
      unfold f110_109
      rw [e5, show (20 : Int32) = nn 20 from rfl, nn_add]
      exact ⟨m1, rfl, H⟩
    | succ d ih =>
      intro j u m1 hd hj hu H
      have eu : u = (u - 1) + 1 := by omega
      have e5 : m1.1 5 = nn tl := by rw [H.1]; exact h5
      have em : nn j - nn j / 4 * 4 = nn (j % 4) := nn_mod (b := 4) (by omega) (by decide)
      have e8 : (8 : Int32) * nn (j % 4) = nn (8 * (j % 4)) := (Int32.ofNat_mul 8 (j % 4)).symm
      rw [eu, st110 _ _ _ _ _ _ _ j (by omega)]
      unfold f110_75
      rw [e5, nn_add, if_pos ((nn_ib (by omega)).mpr (by omega)), em, e8, show (24 : Int32) = nn 24 from rfl, nn_sub (by omega), i8_i8, nn_add1]
      refine ih (j + 1) (u - 1) _ (by omega) (by omega) (by omega) ⟨H.1, fun k hk => ?_, ?_⟩
      · rw [← H.2.1 k hk]
        show mm_bu m1.2 4 _ k = _
        unfold mm_bu
        rw [if_neg hk]
      · show upd (m1.2 4) (nn (tl + j)).toNatClampNeg (fwb a b x y z j) = _
        rw [nn_tn (by omega), H.2.2, FX_s]
  unfold f110
  rw [h5, show (20 : Int32) = nn 20 from rfl, nn_add, show (65536 : Int32) = nn 65536 from rfl, nn_le2 (by omega) (by omega), if_pos (by omega)]
  exact lp 20 0 mm_U (mg m0 3 0) (by omega) (by omega) (by show _ < 200000; omega) ⟨rfl, fun _ _ => rfl, (FX_0 _ _ _).symm⟩
end FM
