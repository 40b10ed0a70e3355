/-! THE IMAGE of the reference. -/
section HI
variable {m0 m : mS} {f : Nat → Int32}
def RHD (f : Nat → Int32) (ent base : Int32) (tt dd : Nat) : Nat → Int32 := if 0 < dd then pws 84 (phw (nn (hdl dd + tt)) base (nn dd) 6) (pws 52 (phw (nn (hdl dd)) 0 (nn tt) 5) (pws 0 (hwd ent 2) f 13) 8) 8 else pws 52 (phw (nn (hdl dd)) 0 (nn tt) 5) (pws 0 (hwd ent 1) f 13) 8
/-- a byte of the sections -/
def sby (m : mS) (tt o : Nat) : Int32 := (if tt ≤ o then m.2 36 (65420 + o - tt) else m.2 36 o).toInt8.toInt32
theorem m_199 {tt dd h : Nat} (h8 : m.1 8 = nn tt) (h9 : m.1 9 = nn dd) (htd : tt + dd ≤ 65420) (hh : h ≤ 116) (hf : m.2 6 = f) : ∃ m', f170_199 mm_U m (nn h) 0 = f170_258 m' (nn h) ∧ RD m (fun j => if h ≤ j ∧ j < h + (tt + dd) then sby m tt (j - h) else f j) m' := by
  have lp : ∀ (r i u : Nat) (m1 : mS), tt + dd - i = r → i ≤ tt + dd → r < u → RD m (fun j => if h ≤ j ∧ j < h + i then sby m tt (j - h) else f j) m1 → ∃ m', f170_199 u m1 (nn h) (nn i) = f170_258 m' (nn h) ∧ RD m (fun j => if h ≤ j ∧ j < h + (tt + dd) then sby m tt (j - h) else f j) m' := by
    intro r
    induction r with
    | zero =>
      intro i u m1 hr hi hu H
      have eu : u = (u - 1) + 1 := by omega
      have ei : i = tt + dd := by omega
      subst ei
      rw [eu, f170_199, H.1, h8, h9, nn_add, nn_le2 (by omega) (by omega), if_pos (by omega)]
      exact ⟨m1, rfl, H⟩
    | succ r ih =>
      intro i u m1 hr hi hu H
      have eu : u = (u - 1) + 1 := by omega
      have e36 : m1.2 36 = m.2 36 := H.2.1 36 (by decide)
      have key : ∀ v, v.toInt8.toInt32 = sby m tt i → ∃ m', f170_251 (f170_199 (u - 1)) m1 (nn h) (nn i) v (nn h + nn i) = f170_258 m' (nn h) ∧ RD m (fun j => if h ≤ j ∧ j < h + (tt + dd) then sby m tt (j - h) else f j) m' := by
        intro v hv
        unfold f170_251
        rw [nn_add, if_pos ((nn_ib (by omega)).mpr (by omega)), nn_add1]
        refine ih (i + 1) (u - 1) _ (by omega) (by omega) (by omega) ⟨H.1, fun j hj => (mb_n6 _ _ hj).trans (H.2.1 j hj), ?_⟩
        rw [mb_6, nn_tn (by omega), H.2.2, hv]
        funext j
        unfold upd
        by_cases c : j = h + i
        · rw [if_pos c, if_pos (by omega), show j - h = i by omega]
        · rw [if_neg c]
          show (if h ≤ j ∧ j < h + i then sby m tt (j - h) else f j) = _
          by_cases c2 : h ≤ j ∧ j < h + i
          · rw [if_pos c2, if_pos (by omega)]
          · rw [if_neg c2, if_neg (by omega)]
      rw [eu, f170_199, H.1, h8, h9, nn_add, nn_le2 (by omega) (by omega), if_neg (by omega), nn_le2 (by omega) (by omega)]
      by_cases c : tt ≤ i
      · rw [if_pos c, show (65420 : Int32) = nn 65420 from rfl, nn_add, nn_sub (by omega), if_pos ((nn_ib (by omega)).mpr (by omega)), nn_tn (by omega), e36]
        exact key _ (by unfold sby; rw [if_pos c])
      · rw [if_neg c, if_pos ((nn_ib (by omega)).mpr (by omega)), nn_tn (by omega), e36]
        exact key _ (by unfold sby; rw [if_neg c])
  exact lp (tt + dd) 0 mm_U m (by omega) (by omega) (by show _ < 200000; omega) ⟨rfl, fun _ _ => rfl, by
    rw [hf]
    funext j
    rw [if_neg (by omega)]⟩
theorem m_170 {tt dd : Nat} {ent base : Int32} (h35 : m.2 35 0 = nn tt) (h351 : m.2 35 1 = nn dd) (h34 : m.1 34 = base) (htd : tt + dd ≤ 65420) (hent : ∀ m1 g, RD m g m1 → f171 m1 = some ent) : ∃ m', f170 m = some m' ∧ FR [7, 8, 9, 10] [6] m m' ∧ m'.1 7 = nn (hdl dd + tt + dd) ∧ m'.1 8 = nn tt ∧ m'.1 9 = nn dd ∧ m'.1 10 = m.1 26 ∧ m'.2 6 = fun j => if hdl dd ≤ j ∧ j < hdl dd + (tt + dd) then sby m tt (j - hdl dd) else RHD (m.2 6) ent base tt dd j := by
  have hh := hdl_le dd
  have H0 : RD m (m.2 6) m := ⟨rfl, fun _ _ => rfl, rfl⟩
  have i0 : ib (0 : Int32) 2 := by decide
  have i1 : ib (1 : Int32) 2 := by decide
  have tn0 : (0 : Int32).toNatClampNeg = 0 := rfl
  have tn1 : (1 : Int32).toNatClampNeg = 1 := rfl
  -- behind the head
  have fin : ∀ m1, RD m (RHD (m.2 6) ent base tt dd) m1 → ∃ m', f170_177 m1 (nn (hdl dd)) = some m' ∧ FR [7, 8, 9, 10] [6] m m' ∧ m'.1 7 = nn (hdl dd + tt + dd) ∧ m'.1 8 = nn tt ∧ m'.1 9 = nn dd ∧ m'.1 10 = m.1 26 ∧ m'.2 6 = fun j => if hdl dd ≤ j ∧ j < hdl dd + (tt + dd) then sby m tt (j - hdl dd) else RHD (m.2 6) ent base tt dd j := by
    intro m1 H
    have e35 : m1.2 35 = m.2 35 := H.2.1 35 (by decide)
    have e36 : m1.2 36 = m.2 36 := H.2.1 36 (by decide)
    unfold f170_177
    rw [if_pos i0, if_pos i1, tn0, tn1, e35, h35, h351]
    have F1 : FR [7, 8, 9, 10] [6] m (mg (mg m1 8 (nn tt)) 9 (nn dd)) := FR_g (FR_g ⟨fun k _ => by rw [H.1], fun k hk => H.2.1 k (by simpa using hk)⟩ (by decide) _) (by decide) _
    obtain ⟨m2, b1, b2⟩ := m_199 (m := mg (mg m1 8 (nn tt)) 9 (nn dd)) (f := RHD (m.2 6) ent base tt dd) (tt := tt) (dd := dd) (h := hdl dd) rfl rfl htd (by omega) H.2.2
    have e8 : m2.1 8 = nn tt := by rw [b2.1]; rfl
    have e9 : m2.1 9 = nn dd := by rw [b2.1]; rfl
    have e26 : m2.1 26 = m.1 26 := by rw [b2.1, F1.1 26 (by decide)]
    have F2 : FR [7, 8, 9, 10] [6] m m2 := ⟨fun k hk => by rw [b2.1]; exact F1.1 k hk, fun k hk => by rw [b2.2.1 k (by simpa using hk)]; exact F1.2 k hk⟩
    refine ⟨mg (mg m2 7 (nn (hdl dd + tt + dd))) 10 (m.1 26), ?_, FR_g (FR_g F2 (by decide) _) (by decide) _, rfl, e8, e9, rfl, ?_⟩
    · rw [b1]
      unfold f170_258
      rw [e8, e9, nn_add, nn_add]
      show some (mg (mg m2 7 (nn (hdl dd + tt + dd))) 10 (m2.1 26)) = _
      rw [e26]
    · show m2.2 6 = _
      rw [b2.2.2]
      funext j
      have : ∀ o, sby (mg (mg m1 8 (nn tt)) 9 (nn dd)) tt o = sby m tt o := by
        intro o
        unfold sby
        show (if tt ≤ o then m1.2 36 (65420 + o - tt) else m1.2 36 o).toInt8.toInt32 = _
        rw [e36]
      rw [this]
  have go : ∀ (cnt : Nat), (cnt = 1 ∨ cnt = 2) → (0 < dd ↔ cnt = 2) → ∃ m', f170_14 m (nn cnt) = some m' ∧ FR [7, 8, 9, 10] [6] m m' ∧ m'.1 7 = nn (hdl dd + tt + dd) ∧ m'.1 8 = nn tt ∧ m'.1 9 = nn dd ∧ m'.1 10 = m.1 26 ∧ m'.2 6 = fun j => if hdl dd ≤ j ∧ j < hdl dd + (tt + dd) then sby m tt (j - hdl dd) else RHD (m.2 6) ent base tt dd j := by
    intro cnt hc hd
    have eh : (52 : Int32) + 32 * nn cnt = nn (hdl dd) := by
      unfold hdl
      rcases hc with rfl | rfl
      · rw [if_neg (fun h => by have := hd.mp h; omega)]; rfl
      · rw [if_pos (hd.mpr rfl)]; rfl
    unfold f170_14
    rw [eh]
    obtain ⟨m1, a1, H1⟩ := m_25 H0 hent (nn cnt) (nn (hdl dd))
    have e35 : m1.2 35 = m.2 35 := H1.2.1 35 (by decide)
    obtain ⟨m2, a2, H2⟩ := m_173 H1 (nn (hdl dd)) 0 (nn tt) 5 0 (by omega)
    have e352 : m2.2 35 = m.2 35 := H2.2.1 35 (by decide)
    rw [a1]
    unfold f170_133
    have q1 : m1.2 35 (0 : Int32).toNatClampNeg = nn tt := by rw [e35]; exact h35
    have q2 : m2.2 35 (0 : Int32).toNatClampNeg = nn tt := by rw [e352]; exact h35
    have q3 : m2.2 35 (1 : Int32).toNatClampNeg = nn dd := by rw [e352]; exact h351
    rw [if_pos i0, q1, show f173 m1 0 (nn (hdl dd)) 0 (nn tt) 5 = some m2 from a2, Option.bind_some]
    rcases hc with rfl | rfl
    · have hdn : ¬ 0 < dd := fun h => by have := hd.mp h; omega
      rw [if_neg (by decide)]
      refine fin m2 ?_
      unfold RHD
      rw [if_neg hdn]
      exact H2
    · have hdp : 0 < dd := hd.mpr rfl
      obtain ⟨m3, a3, H3⟩ := m_173 H2 (nn (hdl dd + tt)) base (nn dd) 6 1 (by omega)
      rw [if_pos (show nn 2 = 2 from rfl), if_pos i0, if_pos i1, q2, q3, nn_add, H2.1, h34, show f173 m2 1 (nn (hdl dd + tt)) base (nn dd) 6 = some m3 from a3, Option.bind_some]
      refine fin m3 ?_
      unfold RHD
      rw [if_pos hdp]
      exact H3
  unfold f170
  rw [if_pos i1, tn1, h351]
  have h9 : nn dd ≤ 0 ↔ dd ≤ 0 := nn_le (b := 0) (by omega) (by decide)
  by_cases c : 0 < dd
  · rw [if_neg (fun h => by have := h9.mp h; omega)]
    exact go 2 (Or.inr rfl) ⟨fun _ => rfl, fun _ => c⟩
  · rw [if_pos (h9.mpr (by omega))]
    exact go 1 (Or.inl rfl) ⟨fun h => absurd h c, fun h => by omega⟩
/-- both heads agree -/
theorem hd_cmp {f g : Nat → Int32} {ent cnt : Int32} (hc : cnt = 1 ∨ cnt = 2) (h0 : ∀ i, i < 52 → f i = 0) : ∀ i, i < 52 → CH f ent cnt i = pws 0 (hwd ent cnt) g 13 i := by
  have key : ∀ j t, j < 13 → t < 4 → CH f ent cnt (4 * j + t) = (hwd ent cnt j >>> (nn (8 * t) &&& 31)).toInt8.toInt32 := by
    have z0 : ∀ t, t < 4 → (0 : Int32) = ((0 : Int32) >>> (nn (8 * t) &&& 31)).toInt8.toInt32 := by decide
    have z1 : ∀ t, t < 4 → 2 ≤ t → (0 : Int32) = ((1 : Int32) >>> (nn (8 * t) &&& 31)).toInt8.toInt32 := by decide
    have z2 : ∀ t, t < 4 → 2 ≤ t → (0 : Int32) = ((2 : Int32) >>> (nn (8 * t) &&& 31)).toInt8.toInt32 := by decide
    have w1 : ∀ t, t < 2 → ((2 : Int32) >>> (nn (8 * t) &&& 31)).toInt8.toInt32 = ((15925250 : Int32) >>> (nn (8 * t) &&& 31)).toInt8.toInt32 := by decide
    have w2 : ∀ t, t < 2 → ((243 : Int32) >>> (nn (8 * t) &&& 31)).toInt8.toInt32 = ((15925250 : Int32) >>> (nn (8 * (t + 2)) &&& 31)).toInt8.toInt32 := by decide
    have w3 : ∀ t, t < 2 → ((52 : Int32) >>> (nn (8 * t) &&& 31)).toInt8.toInt32 = ((2097204 : Int32) >>> (nn (8 * t) &&& 31)).toInt8.toInt32 := by decide
    have w4 : ∀ t, t < 2 → ((32 : Int32) >>> (nn (8 * t) &&& 31)).toInt8.toInt32 = ((2097204 : Int32) >>> (nn (8 * (t + 2)) &&& 31)).toInt8.toInt32 := by decide
    intro j t hj ht
    have y0 := z0 t ht
    have y1 := z1 t ht
    have y2 := z2 t ht
    have hz := h0 (4 * j + t) (by omega)
    have hj : j = 0 ∨ j = 1 ∨ j = 2 ∨ j = 3 ∨ j = 4 ∨ j = 5 ∨ j = 6 ∨ j = 7 ∨ j = 8 ∨ j = 9 ∨ j = 10 ∨ j = 11 ∨ j = 12 := by omega
    have ht : t = 0 ∨ t = 1 ∨ t = 2 ∨ t = 3 := by omega
    rcases hj with rfl | rfl | rfl | rfl | rfl | rfl | rfl | rfl | rfl | rfl | rfl | rfl | rfl
    case' inr.inr.inr.inr.inr.inr.inr.inr.inr.inr.inr.inl =>
      rcases hc with rfl | rfl
    all_goals rcases ht with rfl | rfl | rfl | rfl
    all_goals first | rfl | exact hz.trans y0 | exact hz.trans (y1 (by decide)) | exact hz.trans (y2 (by decide)) | exact w1 0 (by decide) | exact w1 1 (by decide) | exact w2 0 (by decide) | exact w2 1 (by decide) | exact w3 0 (by decide) | exact w3 1 (by decide) | exact w4 0 (by decide) | exact w4 1 (by decide)
  intro i hi
  have := pws_in 0 (hwd ent cnt) g 13 (i / 4) (i % 4) (by omega) (by omega)
  rw [show 0 + 4 * (i / 4) + i % 4 = i by omega] at this
  rw [this, ← key (i / 4) (i % 4) (by omega) (by omega), show 4 * (i / 4) + i % 4 = i by omega]
theorem hd_all {f g : Nat → Int32} {ent base : Int32} {tt dd : Nat} (h0 : ∀ i, i < hdl dd → f i = 0) : (∀ i, i < hdl dd → CHD f ent base tt dd i = RHD g ent base tt dd i) ∧ ∀ i, hdl dd ≤ i → CHD f ent base tt dd i = f i := by
  have hout : ∀ (cnt : Int32) i, 52 ≤ i → CH f ent cnt i = f i := by
    intro cnt i hi
    unfold CH pw
    rw [if_neg (by omega), if_neg (by omega), if_neg (by omega), if_neg (by omega), if_neg (by omega), if_neg (by omega), if_neg (by omega), if_neg (by omega), if_neg (by omega), if_neg (by omega)]
  unfold CHD RHD
  by_cases c : 0 < dd
  · have hv : hdl dd = 116 := by unfold hdl; rw [if_pos c]
    rw [if_pos c, if_pos c, hv]
    rw [hv] at h0
    refine ⟨fun i hi => ?_, fun i hi => ?_⟩
    · exact pws_c _ _ _ _ _ _ (fun n1 => pws_c _ _ _ _ _ _ (fun n2 => hd_cmp (Or.inr rfl) (fun i hi => h0 i (by omega)) i (by omega)))
    · rw [pws_out _ _ _ _ _ (by omega), pws_out _ _ _ _ _ (by omega), hout _ _ (by omega)]
  · have hv : hdl dd = 84 := by unfold hdl; rw [if_neg c]
    rw [if_neg c, if_neg c, hv]
    rw [hv] at h0
    refine ⟨fun i hi => ?_, fun i hi => ?_⟩
    · exact pws_c _ _ _ _ _ _ (fun n1 => hd_cmp (Or.inl rfl) (fun i hi => h0 i (by omega)) i (by omega))
    · rw [pws_out _ _ _ _ _ (by omega), hout _ _ (by omega)]
end HI
