/-! THE REFERENCE's instructions are the class's. -/
theorem sz4 {f : Int32} (h : f = 7 ∨ f = 8 ∨ f = 9 ∨ f = 10 ∨ f = 11 ∨ f = 12 ∨ f = 13) (off : Nat) (q : Rd) : sSz f off q = 4 := by
  rcases h with rfl | rfl | rfl | rfl | rfl | rfl | rfl <;> rfl
theorem y7 (c h : Int32) (off : Nat) (q : Rd) : sByt 7 c h off q = le (sAlw c q.1) 4 0 := rfl
theorem y8 (c h : Int32) (off : Nat) (q : Rd) : sByt 8 c h off q = le (sAlw c q.1 ||| (q.1.2.2.2.1 <<< ((20 : Int32) &&& 31))) 4 0 := rfl
theorem y9 (c h : Int32) (off : Nat) (q : Rd) : sByt 9 c h off q = le (sAlw c q.1 ||| (q.1.2.2.2.1 <<< ((20 : Int32) &&& 31))) 4 0 := rfl
theorem y10 (c h : Int32) (off : Nat) (q : Rd) : sByt 10 c h off q = le ((sAlw c q.1 ||| ((q.1.2.2.2.1 >>> ((5 : Int32) &&& 31)) <<< ((25 : Int32) &&& 31))) ||| ((q.1.2.2.2.1 &&& (31 : Int32)) <<< ((7 : Int32) &&& 31))) 4 0 := rfl
theorem y11 (c h : Int32) (off : Nat) (q : Rd) : sByt 11 c h off q = le (sAlw c q.1 ||| f95 (q.1.2.2.2.1 - h)) 4 0 := rfl
theorem y12 (c h : Int32) (off : Nat) (q : Rd) : sByt 12 c h off q = le (sAlw c q.1 ||| (q.1.2.2.2.1 <<< ((12 : Int32) &&& 31))) 4 0 := rfl
theorem y13 (c h : Int32) (off : Nat) (q : Rd) : sByt 13 c h off q = le (sAlw c q.1 ||| f96 (q.1.2.2.2.1 - h)) 4 0 := rfl
theorem w7 (h : Int32) (o : Op) : sBad 7 h o = false := rfl
theorem w8 (h : Int32) (o : Op) : sBad 8 h o = decide (o.2.2.2.1 < -2048 ∨ (2047 : Int32) < o.2.2.2.1) := rfl
theorem w9' (h : Int32) (o : Op) : sBad 9 h o = decide (o.2.2.2.1 < 0 ∨ (31 : Int32) < o.2.2.2.1) := rfl
theorem w10 (h : Int32) (o : Op) : sBad 10 h o = decide (o.2.2.2.1 < -2048 ∨ (2047 : Int32) < o.2.2.2.1) := rfl
theorem w11 (h : Int32) (o : Op) : sBad 11 h o = decide (¬ (o.2.2.2.1 - h) &&& 1 = 0 ∨ o.2.2.2.1 - h < -4096 ∨ (4096 : Int32) ≤ o.2.2.2.1 - h) := rfl
theorem w12 (h : Int32) (o : Op) : sBad 12 h o = decide (o.2.2.2.1 < 0 ∨ (1048575 : Int32) < o.2.2.2.1) := rfl
theorem w13 (h : Int32) (o : Op) : sBad 13 h o = decide (¬ (o.2.2.2.1 - h) &&& 1 = 0 ∨ o.2.2.2.1 - h < -1048576 ∨ (1048576 : Int32) ≤ o.2.2.2.1 - h) := rfl
/-- what an instruction does, as the spec has it -/
def IFIN (m m' : mS) (B : Nat → Nat) (z : Nat) (tb : List Sy) (ln : Nat) (base here : Int32) (ag : Bool) (P : Ps) (j : Nat) (ts : List Tk) : Prop := ∃ o d' bs, FR IQ AQ m m' ∧ MSx m' B z d' ∧ xOps (B, tb, ln, base, here, if ag = true then 2 else 1) (pat (xPat B j ts).1) ((xPat B j ts).2, op0.2) ts = some (pr o d') ∧ PSm m' ag P bs ∧ (∀ r, d' = .inl r → bs.length = sSz (sFrm j) (sEnd P) (o, [], none, r)) ∧ (ag = false → m'.1 37 = 0) ∧ (ag = true → ∀ r, d' = .inl r → m'.1 37 = eb (sBad (sFrm j) here o) ∧ (sBad (sFrm j) here o = false → bs = sByt (sFrm j) (sCod j) here (sEnd P) (o, [], none, r)))
section MF
variable {m m' : mS} {B : Nat → Nat} {tl z ln : Nat} {tb : List Sy} {base here : Int32} {ag : Bool} {P : Ps} {ts : List Tk} {j : Nat}
theorem e37 {ag : Bool} {C : Prop} {dc9 : Decidable C} (h : ag = true) : (if ag = true ∧ C then (1 : Int32) else 0) = eb (decide C) := by
  unfold eb
  by_cases c : C
  · rw [if_pos ⟨h, c⟩, if_pos (decide_eq_true c)]
  · rw [if_neg (fun h => c h.2), if_neg (by rw [decide_eq_false c]; decide)]
theorem IF_of {ps : List Int32} {o : Op} {x : Int32} {k : Nat} {d' : Rx (List Tk)} {v : Int32} (hx : xPat B j ts = (k, x)) (hp : pat k = ps) (hs : sFrm j = 7 ∨ sFrm j = 8 ∨ sFrm j = 9 ∨ sFrm j = 10 ∨ sFrm j = 11 ∨ sFrm j = 12 ∨ sFrm j = 13) (I : IRX m m' B z (B, tb, ln, base, here, if ag = true then 2 else 1) ps (x, op0.2) (.inl ts) o d' ag P v) (h0 : ag = false → m'.1 37 = 0) (h1 : ag = true → m'.1 37 = eb (sBad (sFrm j) here o) ∧ (∀ r : List Tk, sByt (sFrm j) (sCod j) here (sEnd P) (o, [], none, r) = le v 4 0)) : IFIN m m' B z tb ln base here ag P j ts := by
  obtain ⟨i1, i2, i3, i4⟩ := I
  refine ⟨o, d', _, i1, i2, ?_, i4, fun r _ => ?_, h0, fun hag r _ => ⟨(h1 hag).1, fun _ => ((h1 hag).2 r).symm⟩⟩
  · rw [hx]; dsimp only; rw [hp]; exact i3
  · rw [le_len, sz4 hs]
theorem xPat_p (h1 : ¬ j = 39) (h2 : ¬ j = 40) : xPat B j ts = (sPat j, 0) := by
  unfold xPat
  rw [if_neg (fun h => h1 h.1), if_neg (fun h => h2 h.1)]
theorem xPat_40 (B : Nat → Nat) (ts : List Tk) : xPat B 40 ts = (7, 1) ∨ xPat B 40 ts = (sPat 40, 0) := by
  unfold xPat
  rw [if_neg (fun h => absurd h.1 (by decide))]
  split <;> (split <;> simp)
theorem f138_at {x : Nat} (hx : x < 60) : f138 m (nn x) = f138_16 m (nn x) (if 51 ≤ x then 0 else mm_prt x) := by
  unfold f138
  rw [show (51 : Int32) = nn 51 from rfl, nn_le2 (by omega) (by omega)]
  by_cases c : 51 ≤ x
  · rw [if_pos c, if_pos c]
  · rw [if_neg c, if_neg c, if_pos ((nn_ib (by omega)).mpr (by omega)), nn_tn (by omega)]
theorem isR_at {t : Tk} {r : List Tk} (hY : ∀ i, (m.2 4 i).toInt8.toInt32 = m.2 4 i) (M : MC m B z (t :: r)) : (m.1 20 = 1 ↔ t.1 = 1) ∧ (t.1 = 1 → f134 m (m.1 21) (m.1 18 - m.1 21) = some (rgI (tname B t))) := by
  obtain ⟨T, t', r', e0, e1, e2, e3, e4, e5, e6, e7, e8, e9, e10, e11, e12⟩ := M
  obtain ⟨rfl, rfl⟩ := List.cons.inj e0
  refine ⟨by rw [e2]; exact tcode_1, fun h => ?_⟩
  obtain ⟨n1, n2⟩ := e12 h
  rw [e1, e3, nn_sub (by omega)]
  exact m_reg T.2.1 T.2.2.2 hY T.2.2.1 n2 (by omega)
theorem mw60 {j : Nat} (hj : j < 83) (hx : ¬ mw j = 53) (hx2 : ¬ mw j = 54) : ¬ j = 39 ∧ ¬ j = 40 := ⟨fun h => hx ((tN j hj).1.mpr h), fun h => hx2 ((tN j hj).2.mpr h)⟩
theorem m_138 (hj : j < 83) (hx : mw j < 60) (C : MCX m B tl z tb ln base here ag P) (h37 : m.1 37 = 0) (hr : ag = true → sEnd P + 4 ≤ 65420) (M : MSx m B z (.inl ts)) : ∃ m', f138 m (nn (mw j)) = some m' ∧ IFIN m m' B z tb ln base here ag P j ts := by
  rw [f138_at hx]
  by_cases c1 : mw j < 18
  · obtain ⟨n39, n40⟩ := mw60 hj (by omega) (by omega)
    obtain ⟨t1, t2, t3⟩ := tA j hj c1
    rw [if_neg (by omega)]
    obtain ⟨m', o, d', a1, a2, a3⟩ := i_A c1 (mm_prt (mw j)) C hr (B, tb, ln, base, here, if ag = true then 2 else 1) rfl (0, op0.2) M
    refine ⟨m', a1, IF_of (xPat_p n39 n40) t2 (Or.inl t1) a2 (fun _ => a3.trans h37) (fun _ => ⟨?_, fun r => ?_⟩)⟩
    · rw [t1, w7, a3, h37]; rfl
    · rw [t1, y7, t3]
      exact congrArg (fun w => le w 4 0) (bA _ _ _ _ _ o.2.2.2).symm
  by_cases c2 : mw j < 27
  · obtain ⟨n39, n40⟩ := mw60 hj (by omega) (by omega)
    obtain ⟨t1, t2, t3⟩ := tB j hj (by omega) c2
    rw [if_neg (by omega)]
    obtain ⟨m', o, d', v, a1, a2, a3, a4, a5⟩ := i_B (x := mw j) (by omega) c2 (mm_prt (mw j)) C h37 hr (0, op0.2) M
    have hf : sFrm j = 8 ∨ sFrm j = 9 := by rw [t1]; split; exact Or.inr rfl; exact Or.inl rfl
    refine ⟨m', a1, IF_of (xPat_p n39 n40) t2 (by rcases hf with h | h; exact Or.inr (Or.inl h); exact Or.inr (Or.inr (Or.inl h))) a2 (fun h => by rw [a5, h, if_neg (fun h => by cases h.1)]) (fun h => ⟨?_, fun r => ?_⟩)⟩
    · rw [a5, e37 h, a4 h]
      by_cases c : 24 ≤ mw j
      · rw [if_pos c] at t1
        rw [t1, w9']
        simp only [if_pos c]
      · rw [if_neg c] at t1
        rw [t1, w8]
        simp only [if_neg c]
    · have hv := a4 h
      have ho : o = (o.1, o.2.1, 0, v, o.2.2.2.2) := by
        rw [hv]
        have : o.2.2.1 = 0 := a3
        rw [← this]
      have hy : sByt (sFrm j) (sCod j) here (sEnd P) (o, [], none, r) = le (sAlw (sCod j) o ||| (o.2.2.2.1 <<< ((20 : Int32) &&& 31))) 4 0 := by
        rcases hf with h | h
        · rw [h, y8]
        · rw [h, y9]
      rw [hy]
      refine congrArg (fun w => le w 4 0) ?_
      rw [← hv]
      conv => lhs; rw [ho]
      by_cases c : mw j = 26
      · rw [if_pos c] at t3 ⊢
        rw [t3]
        exact (bB 1024 v o.2.1 _ o.1 o.2.2.2.2 19).symm
      · rw [if_neg c] at t3 ⊢
        rw [t3]
        have := bB 0 v o.2.1 (mm_prt (mw j)) o.1 o.2.2.2.2 19
        rw [Int32.or_zero] at this
        exact this.symm
  by_cases c3 : mw j < 32
  · obtain ⟨n39, n40⟩ := mw60 hj (by omega) (by omega)
    obtain ⟨t1, t2, t3⟩ := tC j hj (by omega) c3
    rw [if_neg (by omega)]
    obtain ⟨m', o, d', v, a1, a2, a3, a4, a5⟩ := i_C (x := mw j) (by omega) c3 (mm_prt (mw j)) C h37 hr (0, op0.2) rfl M
    refine ⟨m', a1, IF_of (xPat_p n39 n40) t2 (Or.inr (Or.inl t1)) a2 (fun h => by rw [a5, h, if_neg (fun h => by cases h.1)]) (fun h => ⟨?_, fun r => ?_⟩)⟩
    · rw [a5, e37 h, a4 h, t1, w8]
    · have hv := a4 h
      have ho : o = (o.1, o.2.1, 0, v, o.2.2.2.2) := by
        rw [hv]
        have : o.2.2.1 = 0 := a3
        rw [← this]
      rw [t1, y8, t3]
      refine congrArg (fun w => le w 4 0) ?_
      show sAlw _ o ||| (o.2.2.2.1 <<< ((20 : Int32) &&& 31)) = _
      rw [← hv]
      conv => lhs; rw [ho]
      exact (bB0 v o.2.1 _ o.1 o.2.2.2.2 3).symm
  by_cases c4 : mw j < 35
  · obtain ⟨n39, n40⟩ := mw60 hj (by omega) (by omega)
    obtain ⟨t1, t2, t3⟩ := tS j hj (by omega) c4
    rw [if_neg (by omega)]
    obtain ⟨m', o, d', v, a1, a2, a3, a4, a5⟩ := i_S (x := mw j) (by omega) c4 (mm_prt (mw j)) C h37 hr (0, op0.2) rfl M
    refine ⟨m', a1, IF_of (xPat_p n39 n40) t2 (Or.inr (Or.inr (Or.inr (Or.inl t1)))) a2 (fun h => by rw [a5, h, if_neg (fun h => by cases h.1)]) (fun h => ⟨?_, fun r => ?_⟩)⟩
    · rw [a5, e37 h, a4 h, t1, w10]
    · have hv := a4 h
      have ho : o = (0, o.2.1, o.2.2.1, v, o.2.2.2.2) := by
        rw [hv]
        have : o.1 = 0 := a3
        rw [← this]
      rw [t1, y10, t3]
      refine congrArg (fun w => le w 4 0) ?_
      show (sAlw _ o ||| ((o.2.2.2.1 >>> ((5 : Int32) &&& 31)) <<< ((25 : Int32) &&& 31))) ||| ((o.2.2.2.1 &&& (31 : Int32)) <<< ((7 : Int32) &&& 31)) = _
      rw [← hv]
      conv => lhs; rw [ho]
      exact (bS v o.2.1 _ o.2.2.1 o.2.2.2.2).symm
  by_cases c5 : mw j < 51
  · obtain ⟨n39, n40⟩ := mw60 hj (by omega) (by omega)
    obtain ⟨t1, t2, t3⟩ := tD j hj (by omega) c5
    rw [if_neg (by omega), f16_hi (by omega) (by omega), if_neg (by omega), if_pos c5]
    obtain ⟨v1, m1, d1, e1, a1, a2, a3, a4, a5⟩ := m_139 (MCX_Y C) M
    have C1 := MCX_fr (fq a2) C
    have k1 : m1.1 37 = 0 := by rw [a2.1 37 (by decide)]; exact h37
    -- behind the registers a and b
    have fin : ∀ (mm : mS) (dd : Rx (List Tk)) (a b : Int32) (ps : List Int32), FR IQ AP m mm → MSx mm B z dd → MCX mm B tl z tb ln base here ag P → mm.1 37 = 0 → pat (sPat j) = ps → xD (xOps (B, tb, ln, base, here, if ag = true then 2 else 1) ps (0, op0.2)) (.inl ts) = xD (xOps (B, tb, ln, base, here, if ag = true then 2 else 1) [101] (0, a, b, 0, true)) dd → ∃ m', f138_327 mm b a (mm_prt (mw j)) = some m' ∧ IFIN m m' B z tb ln base here ag P j ts := by
      intro mm dd a b ps F Mm Cm km hp hs
      obtain ⟨m', d', v, v', e', g1, g2, g3, g4, g5, g6, g7, g8⟩ := i_D0 rfl Cm km hr (0, a, b, 0, true) Mm (mm_prt (mw j)) a b
      refine ⟨m', g1, IF_of (xPat_p n39 n40) hp (Or.inr (Or.inr (Or.inr (Or.inr (Or.inl t1))))) ⟨FR_trans (FR_mono F (fun _ h => h) (by decide)) g2, g3, hs.trans g4, g6⟩ g7 (fun h => ⟨?_, fun r => ?_⟩)⟩
      · obtain ⟨q1, q2⟩ := g8 h
        rw [t1, w11]
        show m'.1 37 = eb (decide (¬ (v' - here) &&& 1 = 0 ∨ v' - here < -4096 ∨ (4096 : Int32) ≤ v' - here))
        rw [g5 h, far_b] at q1 q2
        by_cases cf : ¬ (v' - here) &&& 1 = 0 ∨ v' - here < -4096 ∨ (4096 : Int32) ≤ v' - here
        · rw [decide_eq_true cf]; exact q1 cf
        · rw [decide_eq_false cf]; exact q2 cf
      · rw [t1, y11, t3, g5 h]
        exact congrArg (fun w => le w 4 0) (bD _ a b v' (v' - here) e').symm
    by_cases c45 : 45 ≤ mw j
    · rw [a1, Option.bind_some, if_pos c45, f276_at c5]
      rw [if_neg (by omega), if_neg (by omega)] at t2
      by_cases c49 : mw j < 49
      · rw [if_pos c49] at t2
        rw [if_neg (by unfold sw; simp; omega)]
        exact fin m1 e1 v1 0 _ (fq a2) a3 C1 k1 t2 ((ops_a (E := (B, tb, ln, base, here, if ag = true then 2 else 1)) (ps := [44, 101]) (o := (0, op0.2)) a4).trans (ops_s (k := 44) (ps := [101]) (Or.inl rfl) a5))
      · rw [if_neg c49] at t2
        rw [if_pos (by unfold sw; simp; omega)]
        exact fin m1 e1 0 v1 _ (fq a2) a3 C1 k1 t2 ((ops_b (E := (B, tb, ln, base, here, if ag = true then 2 else 1)) (ps := [44, 101]) (o := (0, op0.2)) a4).trans (ops_s (k := 44) (ps := [101]) (Or.inl rfl) a5))
    · obtain ⟨v2, m2, d2, e2, b1, b2, b3, b4, b5⟩ := m_139 (MCX_Y C1) a3
      have C2 := MCX_fr (fq b2) C1
      have k2 : m2.1 37 = 0 := by rw [b2.1 37 (by decide)]; exact k1
      rw [a1, Option.bind_some, if_neg c45, b1, Option.bind_some, f276_at c5]
      by_cases c41 : mw j < 41
      · rw [if_pos c41] at t2
        rw [if_neg (by unfold sw; simp; omega)]
        exact fin m2 e2 v1 v2 _ (FR_trans (fq a2) (fq b2)) b3 C2 k2 t2 (((ops_a (E := (B, tb, ln, base, here, if ag = true then 2 else 1)) (ps := [44, 98, 44, 101]) (o := (0, op0.2)) a4).trans (ops_s (k := 44) (ps := [98, 44, 101]) (Or.inl rfl) a5)).trans ((ops_b (ps := [44, 101]) b4).trans (ops_s (k := 44) (ps := [101]) (Or.inl rfl) b5)))
      · rw [if_neg c41, if_pos (by omega)] at t2
        rw [if_pos (by unfold sw; simp; omega)]
        exact fin m2 e2 v2 v1 _ (FR_trans (fq a2) (fq b2)) b3 C2 k2 t2 (((ops_b (E := (B, tb, ln, base, here, if ag = true then 2 else 1)) (ps := [44, 97, 44, 101]) (o := (0, op0.2)) a4).trans (ops_s (k := 44) (ps := [97, 44, 101]) (Or.inl rfl) a5)).trans ((ops_a (ps := [44, 101]) b4).trans (ops_s (k := 44) (ps := [101]) (Or.inl rfl) b5)))
  rw [if_pos (by omega)]
  by_cases c6 : mw j < 53
  · obtain ⟨n39, n40⟩ := mw60 hj (by omega) (by omega)
    obtain ⟨t1, t2, t3⟩ := tE j hj (by omega) c6
    obtain ⟨m', o, d', v, a1, a2, a3, a3', a4, a5⟩ := i_E (x := mw j) (by omega) c6 0 C h37 hr (0, op0.2) M
    refine ⟨m', a1, IF_of (xPat_p n39 n40) t2 (Or.inr (Or.inr (Or.inr (Or.inr (Or.inr (Or.inl t1)))))) a2 (fun h => by rw [a5, h, if_neg (fun h => by cases h.1)]) (fun h => ⟨?_, fun r => ?_⟩)⟩
    · rw [a5, e37 h, a4 h, t1, w12]
    · have hv := a4 h
      have ho : o = (o.1, 0, 0, v, o.2.2.2.2) := by
        rw [hv]
        exact Prod.ext rfl (Prod.ext a3 (Prod.ext a3' rfl))
      rw [t1, y12, t3]
      refine congrArg (fun w => le w 4 0) ?_
      show sAlw _ o ||| (o.2.2.2.1 <<< ((12 : Int32) &&& 31)) = _
      rw [← hv]
      conv => lhs; rw [ho]
      exact (bE o.1 v _ o.2.2.2.2).symm
  -- the rest by its number
  have e16 : f138_16 m (nn (mw j)) 0 = (if mw j = 53 then (if (m.1 11) = 0 then (if (m.1 20) = (1 : Int32) then ((f134 m (m.1 21) ((m.1 18) - (m.1 21))).bind fun r1 => (if r1 < 0 then f138_438 m else ((f139 m).bind fun r2 => f138_439 r2.2 r2.1))) else f138_438 m) else f138_438 m) else (if mw j = 54 then ((f140 m).bind fun r1 => (if (f142 r1.2 (44 : Int32)) = 0 then f138_477 r1.2 r1.1 (1 : Int32) else f138_477 r1.2 r1.1 (0 : Int32))) else (if mw j = 55 then f138_596 m (15 : Int32) else (if mw j = 56 then f138_596 m (115 : Int32) else (if mw j = 57 then f138_596 m (1048691 : Int32) else (if mw j = 58 then f138_596 m (19 : Int32) else f138_596 m (f160 (0 : Int32) (1 : Int32) (0 : Int32) (0 : Int32) (103 : Int32)))))))) := by
    unfold f138_16
    rw [show (18 : Int32) = nn 18 from rfl, nn_le2 (by omega) (by omega), if_pos (by omega), show (27 : Int32) = nn 27 from rfl, nn_le2 (by omega) (by omega), if_pos (by omega), show (35 : Int32) = nn 35 from rfl, nn_le2 (by omega) (by omega), if_pos (by omega), show (51 : Int32) = nn 51 from rfl, nn_le2 (by omega) (by omega), if_pos (by omega), show (53 : Int32) = nn 53 from rfl, nn_le2 (by omega) (by omega), if_pos (by omega), q_eq (x := nn 53) (k := 53) rfl (by omega) (by decide), q_eq (x := 54) (k := 54) rfl (by omega) (by decide), q_eq (x := 55) (k := 55) rfl (by omega) (by decide), q_eq (x := 56) (k := 56) rfl (by omega) (by decide), q_eq (x := 57) (k := 57) rfl (by omega) (by decide), q_eq (x := 58) (k := 58) rfl (by omega) (by decide)]
  rw [e16]
  obtain ⟨j1, j2, j3, j4, j5, j6, j7, j8, j9, j10⟩ := tJ
  by_cases c53 : mw j = 53
  · rw [if_pos c53]
    have hj39 := (tN j hj).1.mp c53
    subst hj39
    obtain ⟨hb, M1, M2, M3, M4⟩ := M
    obtain ⟨t, r, rfl, e20⟩ := MC_20 M1
    have hR := isR_at (MCX_Y C) M1
    have M : MSx m B z (.inl (t :: r)) := ⟨hb, M1, M2, M3, M4⟩
    rw [if_pos M3]
    -- behind the register
    have fin : ∀ (mm : mS) (dd : Rx (List Tk)) (rd x : Int32) (ps : List Int32) (k : Nat), FR IQ AP m mm → MSx mm B z dd → MCX mm B tl z tb ln base here ag P → mm.1 37 = 0 → xPat B 39 (t :: r) = (k, x) → pat k = ps → xD (xOps (B, tb, ln, base, here, if ag = true then 2 else 1) ps (x, op0.2)) (.inl (t :: r)) = xD (xOps (B, tb, ln, base, here, if ag = true then 2 else 1) [101] (rd, 0, 0, 0, true)) dd → ∃ m', f138_439 mm rd = some m' ∧ IFIN m m' B z tb ln base here ag P 39 (t :: r) := by
      intro mm dd rd x ps k F Mm Cm km hk hp hs
      obtain ⟨v, m2, d2, v', e', q1, q2, q3, q4, q5⟩ := m_145 Cm.1 Cm.2.1 true Mm
      have C2 := MCX_fr (fq q2) Cm
      obtain ⟨m3, g1, g2, g3, g4, g5, g6⟩ := m_164 C2 (by rw [q2.1 37 (by decide)]; exact km) hr q3 rd v
      have hs2 : xD (xOps (B, tb, ln, base, here, if ag = true then 2 else 1) [101] (rd, 0, 0, 0, true)) dd = some (pr (rd, 0, 0, v', e') d2) := (ops_e (E := (B, tb, ln, base, here, if ag = true then 2 else 1)) (ps := []) (o := (rd, 0, 0, 0, true)) (al_no (fun p r h => by cases h)) q4).trans ops_0
      refine ⟨m3, ?_, IF_of hk hp (Or.inr (Or.inr (Or.inr (Or.inr (Or.inr (Or.inr j2)))))) ⟨FR_trans (FR_mono F (fun _ h => h) (by decide)) (FR_trans (FR_mono q2 (by decide) (by decide)) g2), g3, hs.trans hs2, g4⟩ g5 (fun h => ⟨?_, fun r => ?_⟩)⟩
      · unfold f138_439
        rw [q1, Option.bind_some, g1]
        rfl
      · obtain ⟨p1, p2⟩ := g6 h
        rw [j2, w13]
        show m3.1 37 = eb (decide (¬ (v' - here) &&& 1 = 0 ∨ v' - here < -1048576 ∨ (1048576 : Int32) ≤ v' - here))
        rw [q5 h, far_j] at p1 p2
        by_cases cf : ¬ (v' - here) &&& 1 = 0 ∨ v' - here < -1048576 ∨ (1048576 : Int32) ≤ v' - here
        · rw [decide_eq_true cf]; exact p1 cf
        · rw [decide_eq_false cf]; exact p2 cf
      · rw [j2, y13, j4, q5 h]
        exact congrArg (fun w => le w 4 0) (bJ rd v' (v' - here) e').symm
    have short : isR B (t :: r) = false → ∃ m', f138_438 m = some m' ∧ IFIN m m' B z tb ln base here ag P 39 (t :: r) := by
      intro h
      exact fin m (.inl (t :: r)) 1 1 [101] 6 (FR_refl _ _ _) M C h37 (by unfold xPat; rw [if_pos ⟨rfl, h⟩]) j9 rfl
    by_cases c1' : t.1 = 1
    · rw [if_pos (hR.1.mpr c1'), hR.2 c1', Option.bind_some]
      cases hg : rg (tname B t) with
      | none =>
        rw [show rgI (tname B t) = -1 from rgI_m1.mpr hg, if_pos (by decide)]
        exact short (by unfold isR; simp [hg])
      | some n =>
        have hn := rg_lt hg
        have hisr : isR B (t :: r) = true := by unfold isR; simp [c1', hg]
        rw [show rgI (tname B t) = nn n by unfold rgI; rw [hg], if_neg (nn_neg (by omega))]
        obtain ⟨v1, m1, d1, e1, a1, a2, a3, a4, a5⟩ := m_139 (MCX_Y C) M
        rw [a1, Option.bind_some]
        refine fin m1 e1 v1 0 [100, 44, 101] (sPat 39) (fq a2) a3 (MCX_fr (fq a2) C) (by rw [a2.1 37 (by decide)]; exact h37) ?_ j3 ((ops_d (E := (B, tb, ln, base, here, if ag = true then 2 else 1)) (ps := [44, 101]) (o := (0, op0.2)) a4).trans (ops_s (k := 44) (ps := [101]) (Or.inl rfl) a5))
        unfold xPat
        rw [if_neg (fun h => by rw [hisr] at h; cases h.2), if_neg (fun h => absurd h.1 (by decide))]
    · rw [if_neg (fun h => c1' (hR.1.mp h))]
      exact short (by unfold isR; simp [c1'])
  rw [if_neg c53]
  by_cases c54 : mw j = 54
  · rw [if_pos c54]
    have hj40 := (tN j hj).2.mp c54
    subst hj40
    have M0 := M
    obtain ⟨hb, M1, M2, M3, M4⟩ := M
    obtain ⟨t, r, rfl, e20⟩ := MC_20 M1
    obtain ⟨v1, m1, d1, a1, a2, a3, a4⟩ := m_140 (MCX_Y C) M0
    have C1 := MCX_fr (fq a2) C
    have k1 : m1.1 37 = 0 := by rw [a2.1 37 (by decide)]; exact h37
    rw [a1, Option.bind_some]
    have e1 : f138_477 m1 v1 1 = (f144 m1 (f160 0 v1 0 1 103) 4).bind fun r => some r := rfl
    -- without a comma: a alone
    have fin : ∀ k x, xPat B 40 (t :: r) = (k, x) → xD (xOps (B, tb, ln, base, here, if ag = true then 2 else 1) (pat k) (x, op0.2)) (.inl (t :: r)) = some (pr (1, v1, 0, 0, true) d1) → ∃ m', f138_477 m1 v1 1 = some m' ∧ IFIN m m' B z tb ln base here ag P 40 (t :: r) := by
      intro k x hk hs
      obtain ⟨m', g1, g2, g3, g4⟩ := fin4b C1 a3 hr (f160 0 v1 0 1 103)
      have k' : m'.1 37 = 0 := by rw [g2.1 37 (by decide)]; exact k1
      refine ⟨m', g1, IF_of hk rfl (Or.inr (Or.inl j6)) ⟨FR_trans (FR_mono a2 (by decide) (by decide)) (FR_mono g2 (by decide) (by decide)), g3, hs, g4⟩ (fun _ => k') (fun h => ⟨?_, fun r => ?_⟩)⟩
      · rw [j6, w8, k']
        show (0 : Int32) = eb (decide ((0 : Int32) < -2048 ∨ (2047 : Int32) < 0))
        decide
      · rw [j6, y8, j8]
        have := bB0 0 v1 0 1 true 103
        rw [show ((0 : Int32) <<< ((12 : Int32) &&& 31)) ||| 103 = 103 by decide] at this
        exact congrArg (fun w => le w 4 0) this.symm
    have h7 : xD (xOps (B, tb, ln, base, here, if ag = true then 2 else 1) (pat 7) (1, op0.2)) (.inl (t :: r)) = some (pr (1, v1, 0, 0, true) d1) := by
      rw [j10]
      exact (ops_a (E := (B, tb, ln, base, here, if ag = true then 2 else 1)) (ps := []) (o := (1, op0.2)) a4).trans ops_0
    cases d1 with
    | inr p =>
      have n11 := MSx_ne a3
      have h142 : f142 m1 44 = 0 := by unfold f142; rw [if_neg n11]
      rw [if_pos (show f142 (v1, m1).2 44 = 0 from h142)]
      rcases xPat_40 B (t :: r) with hk | hk
      · exact fin 7 1 hk h7
      · refine fin (sPat 40) 0 hk ?_
        rw [j7]
        have a4 : xReg B (t :: r) = some (.inr p) := a4
        show xOps (B, tb, ln, base, here, if ag = true then 2 else 1) [100, 44, 101, 40, 97, 41] (0, op0.2) (t :: r) = some (.inr p)
        rw [xOps, if_neg (by decide), if_neg (by decide), if_pos rfl, show xReg (B, tb, ln, base, here, if ag = true then 2 else 1).1 (t :: r) = some (.inr p) from a4]
        rfl
    | inl r1 =>
      have hr1 : r1 = r := by
        have a4 : xReg B (t :: r) = some (.inl (v1, r1)) := a4
        unfold xReg at a4
        obtain ⟨x, x1, x2⟩ := xb_some a4
        have hx9 : x = r := by
          unfold xExp at x1
          simp only at x1
          split at x1
          · split at x1
            · cases x1
            · cases x1; rfl
          · cases x1
        split at x2
        · cases x2
        · have := Sum.inl.inj (Option.some.inj x2)
          rw [← hx9]
          exact (congrArg Prod.snd this).symm
      subst hr1
      have a3' := a3
      obtain ⟨hb1, N1, N2, N3, N4⟩ := a3
      obtain ⟨t2, r2, rfl, f20⟩ := MC_20 N1
      have h142 := m_is N1 N3 (k := 44) (by decide) (by decide) (by decide)
      by_cases cc : t2.1 = 44
      · have hf := MC_flaw N1 (by omega) (by omega) (by omega)
        rw [if_pos cc] at h142
        rw [if_neg (show ¬ f142 (v1, m1).2 44 = 0 from by show ¬ f142 m1 (nn 44) = 0; rw [h142]; decide)]
        obtain ⟨m2, b1, b2, b3⟩ := MSx_next a3' (by omega) hf
        have C2 := MCX_fr (FR_mono b2 (by decide) (by decide)) C1
        have k2 : m2.1 37 = 0 := by rw [b2.1 37 (by decide)]; exact k1
        obtain ⟨v, v', e', m3, d3, g1, g2, g3, g4, g5, g6⟩ := m_161 (o := (v1, op0.2)) rfl [] C2 k2 b3
        have C3 := MCX_fr g2 C2
        obtain ⟨m4, q1, q2, q3, q4⟩ := fin4b C3 g3 hr (f160 v (m3.1 47) 0 v1 103)
        have hx4 : xD (xExp 44) (.inl (t2 :: r2)) = some (.inl r2) := by
          show xExp 44 (t2 :: r2) = _
          unfold xExp
          simp only [if_pos cc, hf]
        have hk : xPat B 40 (t :: t2 :: r2) = (sPat 40, 0) := by
          unfold xPat
          rw [if_neg (fun h => absurd h.1 (by decide)), if_neg (fun h => by have := h.2; simp [cc] at this)]
        refine ⟨m4, ?_, IF_of (o := (v1, m3.1 47, 0, v', e')) hk j7 (Or.inr (Or.inl j6)) ⟨FR_trans (FR_trans (FR_mono a2 (by decide) (by decide)) (FR_mono b2 (by decide) (by decide))) (FR_trans (FR_mono g2 (by decide) (by decide)) (FR_mono q2 (by decide) (by decide))), q3, ?_, q4⟩ (fun h => by rw [q2.1 37 (by decide), g4, h, if_neg (fun h => by cases h.1)]) (fun h => ⟨?_, fun r => ?_⟩)⟩
        · show f138_477 m1 v1 0 = _
          unfold f138_477
          rw [if_pos rfl, b1, Option.bind_some]
          unfold f138_488
          rw [if_pos rfl, g1, Option.bind_some]
          unfold f138_501
          rw [if_pos rfl]
          exact q1
        · have h1 := (ops_d (E := (B, tb, ln, base, here, if ag = true then 2 else 1)) (ps := [44, 101, 40, 97, 41]) (o := (0, op0.2)) a4).trans (ops_s (k := 44) (ps := [101, 40, 97, 41]) (Or.inl rfl) hx4)
          exact (h1.trans g5).trans ops_0
        · rw [q2.1 37 (by decide), g4, e37 h, g6 h, j6, w8]
        · rw [j6, y8, j8]
          have := bB0 v (m3.1 47) 0 v1 e' 103
          rw [show ((0 : Int32) <<< ((12 : Int32) &&& 31)) ||| 103 = 103 by decide] at this
          rw [g6 h] at this ⊢
          exact congrArg (fun w => le w 4 0) this.symm
      · rw [if_neg cc] at h142
        rw [if_pos (show f142 (v1, m1).2 44 = 0 from h142)]
        refine fin 7 1 ?_ h7
        unfold xPat
        rw [if_neg (fun h => absurd h.1 (by decide)), if_pos ⟨rfl, by simp [cc]⟩]
  rw [if_neg c54]
  obtain ⟨n39, n40⟩ := mw60 hj c53 c54
  obtain ⟨t1, t2, t3⟩ := tF j hj (by omega) hx
  have fin : ∀ w : Int32, sCod j = w → ∃ m', f138_596 m w = some m' ∧ IFIN m m' B z tb ln base here ag P j ts := by
    intro w hw
    obtain ⟨m', g1, g2, g3, g4⟩ := fin4b C M hr w
    have k' : m'.1 37 = 0 := by rw [g2.1 37 (by decide)]; exact h37
    refine ⟨m', g1, IF_of (o := (0, op0.2)) (d' := .inl ts) (xPat_p n39 n40) t2 (Or.inl t1) ⟨FR_mono g2 (by decide) (by decide), g3, rfl, g4⟩ (fun _ => k') (fun h => ⟨by rw [t1, w7, k']; rfl, fun r => ?_⟩)⟩
    rw [t1, y7, hw]
    refine congrArg (fun w => le w 4 0) ?_
    show ((w ||| ((0 : Int32) <<< ((7 : Int32) &&& 31))) ||| ((0 : Int32) <<< ((15 : Int32) &&& 31))) ||| ((0 : Int32) <<< ((20 : Int32) &&& 31)) = w
    rw [z7, z15, z20, Int32.or_zero, Int32.or_zero, Int32.or_zero]
  by_cases q55 : mw j = 55
  · rw [if_pos q55] at t3 ⊢; exact fin _ t3
  rw [if_neg q55] at t3 ⊢
  by_cases q56 : mw j = 56
  · rw [if_pos q56] at t3 ⊢; exact fin _ t3
  rw [if_neg q56] at t3 ⊢
  by_cases q57 : mw j = 57
  · rw [if_pos q57] at t3 ⊢; exact fin _ t3
  rw [if_neg q57] at t3 ⊢
  by_cases q58 : mw j = 58
  · rw [if_pos q58] at t3 ⊢; exact fin _ t3
  rw [if_neg q58] at t3 ⊢
  exact fin _ t3
end MF
