/-! THE CALL feed. -/
section FT
variable {k tl L Ls : Nat} {c : cS} {m : mS}
theorem IMX_of {c' : cS} {m' : mS} (h1 : c'.2.1 16 0 = c.2.1 16 0) (h2 : ∀ j, c'.1 (c.2.1 16 0) j = c.1 (c.2.1 16 0) j) (h3 : c'.2.1 (c.2.1 16 0) 4 = c.2.1 (c.2.1 16 0) 4) (h4 : c'.2.2.1 (c.2.1 (c.2.1 16 0) 4) = c.2.2.1 (c.2.1 (c.2.1 16 0) 4)) (m7 : m'.1 7 = m.1 7) (m8 : m'.1 8 = m.1 8) (m9 : m'.1 9 = m.1 9) (m10 : m'.1 10 = m.1 10) (m6 : m'.2 6 = m.2 6) (h : IMX c m) : IMX c' m' := by
  unfold IMX cl at h ⊢
  rw [h1, h2, h2, h2, h2, h3, h4, m7, m8, m9, m10, m6]
  exact h
/-- the text's array is made anew -/
def ng (c : cS) (l : Nat) : cS := cr (cy (cn c 0 (2 * l)) (c.2.1 0 0) 0 (42 + c.2.2.2) 0 (nn l)) 0 0 (42 + c.2.2.2)
theorem ng_r (c : cS) (l : Nat) : (ng c l).2.1 0 0 = 42 + c.2.2.2 := rfl
theorem ng_o (c : cS) (l : Nat) {p q : Nat} (h : ¬ (p, q) = (0, 0)) : (ng c l).2.1 p q = c.2.1 p q := by
  show (if q = 0 ∧ p = 0 then _ else c.2.1 p q) = _
  rw [if_neg (fun hh => h (by rw [hh.1, hh.2]))]
theorem ng_k (c : cS) (l : Nat) {q : Nat} (h : ¬ q = 42 + c.2.2.2) : (ng c l).2.2.1 q = c.2.2.1 q := by
  show (if q = 42 + c.2.2.2 then _ else (cn c 0 (2 * l)).2.2.1 q) = _
  rw [if_neg h]
  show (if q = 42 + c.2.2.2 then _ else c.2.2.1 q) = _
  rw [if_neg h]
theorem ng_c {c : cS} {l : Nat} (hA : cA c 0 (c.2.1 0 0)) (hl : l ≤ 100000) : (ng c l).2.2.1 (42 + c.2.2.2) = (0, 2 * l, va_cpy (c.2.2.1 (c.2.1 0 0)).2.2 (fun _ => 0) 0 0 l) := by
  have hq : ¬ c.2.1 0 0 = 42 + c.2.2.2 := by have := hA.2.1; omega
  have e1 : (cn c 0 (2 * l)).2.2.1 (c.2.1 0 0) = c.2.2.1 (c.2.1 0 0) := by
    show (if c.2.1 0 0 = 42 + c.2.2.2 then _ else c.2.2.1 _) = _
    rw [if_neg hq]
  have e2 : (cn c 0 (2 * l)).2.2.1 (42 + c.2.2.2) = (0, 2 * l, fun _ => 0) := by
    show (if 42 + c.2.2.2 = 42 + c.2.2.2 then _ else _) = _
    rw [if_pos rfl]
  show (if 42 + c.2.2.2 = 42 + c.2.2.2 then (((cn c 0 (2 * l)).2.2.1 (42 + c.2.2.2)).1, ((cn c 0 (2 * l)).2.2.1 (42 + c.2.2.2)).2.1, va_cpy ((cn c 0 (2 * l)).2.2.1 (c.2.1 0 0)).2.2 ((cn c 0 (2 * l)).2.2.1 (42 + c.2.2.2)).2.2 ((0 : Int32)).toNatClampNeg ((0 : Int32)).toNatClampNeg (nn l).toNatClampNeg) else _) = _
  rw [if_pos rfl, e1, e2, nn_tn (by omega)]
  rfl
theorem fits_b {x : Int32} (h : x.toInt8.toInt32 = x) : fits .byte (.int x) = true := by
  obtain ⟨n, hn, e⟩ := i8_ex x.toInt8
  have key : ∀ n : Nat, n < 256 → fits .byte (.int ((Int8.ofNat n).toInt32)) = true := by decide +kernel
  have := key n hn
  rw [← e, h] at this
  exact this
theorem f7_at {c : cS} {l : Nat} (hA : cA c 0 (c.2.1 0 0)) (hl : cl c (c.2.1 0 0) = l) (h0 : 0 < l) (h1 : l ≤ 100000) (hb : ∀ i, ((c.2.2.1 (c.2.1 0 0)).2.2 i).toInt8.toInt32 = (c.2.2.1 (c.2.1 0 0)).2.2 i) : f7 c (c.2.1 0 0) (nn (2 * l)) = some (42 + c.2.2.2, cy (cn c 0 (2 * l)) (c.2.1 0 0) 0 (42 + c.2.2.2) 0 (nn l)) := by
  have hq : ¬ c.2.1 0 0 = 42 + c.2.2.2 := by have := hA.2.1; omega
  have e1 : (cn c 0 (2 * l)).2.2.1 (c.2.1 0 0) = c.2.2.1 (c.2.1 0 0) := by
    show (if c.2.1 0 0 = 42 + c.2.2.2 then _ else c.2.2.1 _) = _
    rw [if_neg hq]
  have e2 : (cn c 0 (2 * l)).2.2.1 (42 + c.2.2.2) = (0, 2 * l, fun _ => 0) := by
    show (if 42 + c.2.2.2 = 42 + c.2.2.2 then _ else _) = _
    rw [if_pos rfl]
  have hcl : cl (cn c 0 (2 * l)) (c.2.1 0 0) = l := by show ((cn c 0 (2 * l)).2.2.1 _).2.1 = l; rw [e1]; exact hl
  have hA1 : cA (cn c 0 (2 * l)) 0 (c.2.1 0 0) := ⟨hA.1, by show _ < 42 + (c.2.2.2 + 1); have := hA.2.1; omega, by rw [e1]; exact hA.2.2⟩
  have hA2 : cA (cn c 0 (2 * l)) 0 (42 + c.2.2.2) := ⟨cfr_n _, by show 42 + c.2.2.2 < 42 + (c.2.2.2 + 1); omega, by rw [e2]⟩
  have z0 : ((0 : Int32)).toNatClampNeg = 0 := rfl
  have tL : (nn l).toNatClampNeg = l := nn_tn (by omega)
  have hmin : (if nn (2 * l) < Int32.ofNat (cl (cn c 0 (2 * l)) (c.2.1 0 0)) then nn (2 * l) else Int32.ofNat (cl (cn c 0 (2 * l)) (c.2.1 0 0))) = nn l := by
    rw [hcl, if_neg]
    show ¬ nn (2 * l) < nn l
    rw [nn_lt (by omega) (by omega)]
    omega
  unfold f7
  rw [if_pos hA, hl, if_neg (show ¬ nn (2 * l) = nn l by rw [nn_eq (by omega) (by omega)]; omega), if_pos ⟨nn_neg (by omega), by rw [nn_tn (by omega)]; omega⟩, nn_tn (a := 2 * l) (by omega), if_pos hA1, hmin, if_pos]
  refine ⟨hA1, hA2, by decide, by decide, nn_neg (by omega), ?_, ?_, fun _ i hi => ?_⟩
  · rw [z0, tL, hcl]; omega
  · rw [z0, tL]; show 0 + l ≤ ((cn c 0 (2 * l)).2.2.1 (42 + c.2.2.2)).2.1; rw [e2]; show 0 + l ≤ 2 * l; omega
  · rw [e1]; exact fits_b (hb _)
theorem RSX_ng {l : Nat} (R : RSX c k L Ls) (hl : cl c (c.2.1 0 0) = l) (h1 : 2 * l ≤ 65536) : RSX (ng c l) k L Ls := by
  obtain ⟨r1, r2, r3, r4, r5, r6, r7, r8, r9, r10, r11, r12, r13, r14⟩ := R
  obtain ⟨t1, t2, t3, t4, t5, t6, t7⟩ := r1
  have gn : (ng c l).2.2.2 = c.2.2.2 + 1 := rfl
  have hc := ng_c r9.1 (l := l) (by omega)
  have hS : SEP (ng c l) := SEP_new (i := 0) (j := 0) (by decide) (ng_r c l) (fun p q h => ng_o c l h) gn r8
  have g1 : ∀ q, q < 42 + c.2.2.2 → (ng c l).2.2.1 q = c.2.2.1 q := fun q hq => ng_k c l (by omega)
  have hcA : ∀ t q, cA c t q → cA (ng c l) t q := fun t q h => ⟨h.1, by rw [gn]; have := h.2.1; omega, by rw [g1 q h.2.1]; exact h.2.2⟩
  have hcl : ∀ t q, cA c t q → cl (ng c l) q = cl c q := fun t q h => by unfold cl; rw [g1 q h.2.1]
  have hnA : cA (ng c l) 0 (42 + c.2.2.2) := ⟨cfr_n _, by rw [gn]; omega, by rw [hc]⟩
  have hnl : cl (ng c l) (42 + c.2.2.2) = 2 * l := by unfold cl; rw [hc]
  have e11 : ∀ q, (ng c l).2.1 11 q = c.2.1 11 q := fun q => ng_o c l (fun h => by have := congrArg Prod.fst h; simp only at this; omega)
  have e2 : ∀ q, (ng c l).2.1 2 q = c.2.1 2 q := fun q => ng_o c l (fun h => by have := congrArg Prod.fst h; simp only at this; omega)
  have e18 : ∀ q, (ng c l).2.1 18 q = c.2.1 18 q := fun q => ng_o c l (fun h => by have := congrArg Prod.fst h; simp only at this; omega)
  have e20 : ∀ q, (ng c l).2.1 20 q = c.2.1 20 q := fun q => ng_o c l (fun h => by have := congrArg Prod.fst h; simp only at this; omega)
  have e16 : ∀ q, (ng c l).2.1 16 q = c.2.1 16 q := fun q => ng_o c l (fun h => by have := congrArg Prod.fst h; simp only at this; omega)
  have hz : csz (ng c l) = csz c + 2 * l := by
    have := csz_new (c := c) (c' := ng c l) (t := 0) (m := 2 * l) rfl (fun q hq => by rw [ng_k c l (by omega)]; exact ⟨rfl, rfl⟩) (by rw [hc]; exact ⟨rfl, rfl⟩)
    rw [if_neg (by decide)] at this
    exact this
  have hTA : TA (ng c l) L := by
    unfold TA
    rw [e11, e11, e11, hcl 1 _ t1, hcl 1 _ t2, hcl 1 _ t3]
    exact ⟨hcA _ _ t1, hcA _ _ t2, hcA _ _ t3, t4, t5, t6, t7⟩
  have h2k : ∀ kk, 3 ≤ kk → kk ≤ 8 → cA (ng c l) 1 ((ng c l).2.1 2 kk) ∧ cl (ng c l) ((ng c l).2.1 2 kk) = Ls := fun kk h3 h8 => by
    rw [e2, hcl 1 _ (r5 kk h3 h8).1]
    exact ⟨hcA _ _ (r5 kk h3 h8).1, (r5 kk h3 h8).2⟩
  have r9' := r9.2.1
  unfold RSX
  rw [e2, ng_r, e18, e20, e16, e16, hz, gn, hcl 1 _ r4.1, hcl 0 _ r10.1, hcl 0 _ r11.1, hnl]
  exact ⟨hTA, r2, r3, ⟨hcA _ _ r4.1, r4.2⟩, h2k, r6, r7, hS, ⟨hnA, by omega, h1⟩, ⟨hcA _ _ r10.1, r10.2⟩, ⟨hcA _ _ r11.1, r11.2⟩, r12, by omega, by omega⟩
theorem e_110 (h : CMX k c m) (hk : k < 512) (a b x y z : Int32) : ∃ r c' m', f6 c a b x y z = some (r, c') ∧ f110 m a b x y z = some (r, m') ∧ CMX (k + 1) c' m' := by
  obtain ⟨tl, L, Ls, R, h1, T, h3, h4, h5⟩ := h
  have r9 := R.2.2.2.2.2.2.2.2.1
  -- with room
  have room : ∃ c1, f6 c a b x y z = f6_52 c1 a b x y z ∧ RSX c1 k L Ls ∧ TPX c1 m tl ∧ ERX c1 m ∧ IMX c1 m ∧ tl + 20 ≤ cl c1 (c1.2.1 0 0) := by
    obtain ⟨t1, t2, t3, t4, t5, t6⟩ := T
    generalize hl : cl c (c.2.1 0 0) = l at r9 t3
    unfold f6
    rw [t1, show (20 : Int32) = nn 20 from rfl, nn_add, show (65536 : Int32) = nn 65536 from rfl, nn_le2 (by omega) (by omega), if_pos (by omega), if_pos r9.1, hl, show Int32.ofNat l = nn l from rfl, nn_le2 (by omega) (by omega)]
    by_cases c1 : tl + 20 ≤ l
    · rw [if_pos c1]
      exact ⟨c, rfl, R, ⟨t1, t2, by omega, t4, t5, t6⟩, h4, h5, by omega⟩
    · rw [if_neg c1, if_pos r9.1]
      have e2 : nn l * 2 = nn (2 * l) := by rw [Nat.mul_comm]; exact (Int32.ofNat_mul l 2).symm
      rw [e2, if_pos ((nn_lt (by omega) (by omega)).mpr (by omega)), f7_at r9.1 hl (by omega) (by omega) t5]
      have hc := ng_c r9.1 (l := l) (by omega)
      have SP := R.2.2.2.2.2.2.2.1
      have R12 := R.2.2.2.2.2.2.2.2.2.2.2.1
      have hq4 : c.2.1 (c.2.1 16 0) 4 < 42 + c.2.2.2 := by
        rcases R12 with h | h <;> rw [h.1]
        · exact SP.2 (18, 4) (by decide)
        · exact SP.2 (20, 4) (by decide)
      refine ⟨ng c l, rfl, RSX_ng R hl (by omega), ?_, h4, IMX_of (ng_o c l (by decide)) (fun _ => rfl) (ng_o c l (fun h => by have := congrArg Prod.snd h; simp only at this; omega)) (ng_k c l (by omega)) rfl rfl rfl rfl rfl h5, ?_⟩
      · unfold TPX cl
        rw [ng_r, hc]
        refine ⟨t1, t2, by show tl ≤ 2 * l; omega, fun i hi => ?_, fun i => ?_, t6⟩
        · show b8 (va_cpy _ _ 0 0 l i) = _
          unfold va_cpy
          rw [if_pos (by omega), Nat.sub_zero, Nat.zero_add]
          exact t4 i hi
        · show (va_cpy (c.2.2.1 (c.2.1 0 0)).2.2 (fun _ => 0) 0 0 l i).toInt8.toInt32 = va_cpy (c.2.2.1 (c.2.1 0 0)).2.2 (fun _ => 0) 0 0 l i
          unfold va_cpy
          split
          · exact t5 _
          · rfl
      · unfold cl
        rw [ng_r, hc]
        show tl + 20 ≤ 2 * l
        omega
  obtain ⟨c1, e1, R1, ⟨t1, t2, t3, t4, t5, t6⟩, E1, I1, hr⟩ := room
  have r9 := R1.2.2.2.2.2.2.2.2.1
  obtain ⟨s', a1, F, F1, F2⟩ := c_652 r9.1 r9.2.2 t1 hr a b x y z
  obtain ⟨m', b1, G1, G2, G3⟩ := m_110 (m0 := m) (tl := tl) a b x y z t2 (by omega)
  have G3 : m'.2 4 = FX (fwb a b x y z) tl (m.2 4) 20 := G3
  have gi : ∀ j, ¬ j = 3 → m'.1 j = m.1 j := fun j hj => by
    rw [G1]
    show upd m.1 3 0 j = _
    unfold upd
    rw [if_neg hj]
  have gi5 : ∀ j, ¬ j = 3 → ¬ j = 5 → (mg m' 5 (nn (tl + 20))).1 j = m.1 j := fun j hj h5 => by
    show upd m'.1 5 _ j = _
    unfold upd
    rw [if_neg h5, gi j hj]
  have SP := R1.2.2.2.2.2.2.2.1
  have R12 := R1.2.2.2.2.2.2.2.2.2.2.2.1
  have hw : ∀ j, (fwb a b x y z j).toInt8.toInt32 = fwb a b x y z j := fun j => i8_i8 _
  have f01 : ∀ i j, ¬ (i, j) = (0, 1) → s'.1 i j = c1.1 i j := fun i j h => F.1 i j (by simpa using h)
  have e00 : s'.2.1 0 0 = c1.2.1 0 0 := by rw [F.2.1]
  refine ⟨1, s', mg m' 5 (nn (tl + 20)), e1.trans a1, b1, tl + 20, L, Ls, RSX_k (RSX_wf F R1), by omega, ⟨F1, rfl, ?_, ?_, ?_, ?_⟩, ?_, ?_, ?_⟩
  · show _ ≤ (s'.2.2.1 _).2.1
    rw [e00, (F.2.2.2.1 _).2]
    exact hr
  · intro i hi
    show b8 _ = b8 (m'.2 4 i)
    rw [e00, F2, G3]
    unfold FX
    split
    · rfl
    · exact t4 i (by omega)
  · intro i
    rw [e00, F2]
    unfold FX
    split
    · exact hw _
    · exact t5 i
  · intro i
    show (m'.2 4 i).toInt8.toInt32 = m'.2 4 i
    rw [G3]
    unfold FX
    split
    · exact hw _
    · exact t6 i
  · rw [gi5 38 (by decide) (by decide)]; exact h3
  · unfold ERX
    rw [gi5 11 (by decide) (by decide), gi5 12 (by decide) (by decide), gi5 13 (by decide) (by decide), f01 11 0 (by decide), f01 11 1 (by decide), f01 11 2 (by decide)]
    exact E1
  · refine IMX_of (by rw [F.2.1]) (fun j => f01 _ j (fun h => by have := congrArg Prod.fst h; simp only at this; omega)) (by rw [F.2.1]) ?_ (gi5 7 (by decide) (by decide)) (gi5 8 (by decide) (by decide)) (gi5 9 (by decide) (by decide)) (gi5 10 (by decide) (by decide)) (G2 6 (by decide)) I1
    refine F.2.2.2.2 _ (fun hh => ?_)
    have hh := List.mem_singleton.mp hh
    rcases R12 with h | h <;> rw [h.1] at hh
    · have := SP.1 (18, 4) (by decide) (0, 0) (by decide) hh
      cases this
    · have := SP.1 (20, 4) (by decide) (0, 0) (by decide) hh
      cases this
end FT
