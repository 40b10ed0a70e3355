/-! THE REFERENCE's other instructions are the class's. -/
theorem bG1 (k a y d K : Int32) (e : Int32 × Bool) : f160 k a y d K = sAlw (f160 k 0 y 0 K) (d, a, 0, e) := by
  unfold f160 sAlw
  dsimp only
  rw [z15, z7, z20, Int32.or_zero, Int32.or_zero, Int32.or_zero]
  generalize k <<< ((20 : Int32) &&& 31) = g0
  generalize a <<< ((15 : Int32) &&& 31) = g1
  generalize y <<< ((12 : Int32) &&& 31) = g2
  generalize d <<< ((7 : Int32) &&& 31) = g3
  ac_rfl
theorem bG2 (c b y d : Int32) (e : Int32 × Bool) : f143 c b 0 y d = sAlw (f143 c 0 0 y 0) (d, 0, b, e) := by
  unfold f143 sAlw
  dsimp only
  rw [z15, z7, z20, Int32.or_zero, Int32.or_zero, Int32.or_zero, Int32.or_zero, Int32.or_zero]
  generalize c <<< ((25 : Int32) &&& 31) = g0
  generalize b <<< ((20 : Int32) &&& 31) = g1
  generalize y <<< ((12 : Int32) &&& 31) = g2
  generalize d <<< ((7 : Int32) &&& 31) = g3
  generalize (51 : Int32) = g4
  ac_rfl
theorem bG3 (c a y d : Int32) (e : Int32 × Bool) : f143 c 0 a y d = sAlw (f143 c 0 0 y 0) (d, a, 0, e) := by
  unfold f143 sAlw
  dsimp only
  rw [z15, z7, z20, Int32.or_zero, Int32.or_zero, Int32.or_zero, Int32.or_zero]
  generalize c <<< ((25 : Int32) &&& 31) = g0
  generalize a <<< ((15 : Int32) &&& 31) = g1
  generalize y <<< ((12 : Int32) &&& 31) = g2
  generalize d <<< ((7 : Int32) &&& 31) = g3
  generalize (51 : Int32) = g4
  ac_rfl
theorem bJ2 (d v r : Int32) (b : Bool) : bJp d r = sAlw ((d <<< ((7 : Int32) &&& 31)) ||| 111) (0, 0, 0, v, b) ||| f96 r := by
  rw [bJ d v r b]
  unfold sAlw
  dsimp only
  rw [z7, z15, z20, Int32.or_zero, Int32.or_zero, Int32.or_zero, Int32.or_zero, Int32.or_zero]
  generalize d <<< ((7 : Int32) &&& 31) = g0
  generalize (111 : Int32) = g1
  generalize f96 r = g2
  ac_rfl
theorem y14 (c h : Int32) (off : Nat) (q : Rd) : sByt 14 c h off q = sFar q.1 := rfl
theorem y15 (c h : Int32) (off : Nat) (q : Rd) : sByt 15 c h off q = if isSh q.1 = true then le ((sCod 12 ||| (q.1.1 <<< ((7 : Int32) &&& 31))) ||| (q.1.2.2.2.1 <<< ((20 : Int32) &&& 31))) 4 0 else sFar q.1 := rfl
theorem sFar_len (o : Op) : (sFar o).length = 8 := by unfold sFar; rw [List.length_append, le_len, le_len]
section MX2
variable {m m' : mS} {B : Nat → Nat} {tl z ln : Nat} {tb : List Sy} {base here : Int32} {ag : Bool} {P : Ps} {ts : List Tk} {j : Nat} {d : Rx (List Tk)}
theorem m_165 (hj : j < 83) (h60 : 60 ≤ mw j) (h72 : mw j < 72) (C : MCX m B tl z tb ln base here ag P) (h37 : m.1 37 = 0) (hr : ag = true → sEnd P + 4 ≤ 65420) (hr8 : ag = true → sFrm j = 14 → sEnd P + 8 ≤ 65420) (hli : ag = true → sFrm j = 15 → LIH B tb ln base here ts (sEnd P)) (M : MSx m B z (.inl ts)) : ∃ m', f165 m (nn (mw j)) = some m' ∧ IFIN m m' B z tb ln base here ag P j ts := by
  obtain ⟨n39, n40⟩ := mw60 hj (by omega) (by omega)
  unfold f165
  rw [show (67 : Int32) = nn 67 from rfl, nn_le2 (by omega) (by omega), show (69 : Int32) = nn 69 from rfl, nn_le2 (by omega) (by omega), q_eq (x := nn 69) (k := 69) rfl (by omega) (by decide)]
  by_cases c1 : mw j < 67
  · obtain ⟨t1, t2, t3⟩ := tG j hj (by omega) c1
    rw [if_neg (by omega)]
    obtain ⟨v1, m1, d1, e1, a1, a2, a3, a4, a5⟩ := m_139 (MCX_Y C) M
    have C1 := MCX_fr (fq a2) C
    obtain ⟨v2, m2, e2, b1, b2, b3, b4⟩ := m_140 (MCX_Y C1) a3
    have C2 := MCX_fr (fq b2) C1
    rw [a1, Option.bind_some, b1, Option.bind_some]
    have fin : ∀ (w : Int32) (o : Op) (ps : List Int32), pat (sPat j) = ps → xD (xOps (B, tb, ln, base, here, if ag = true then 2 else 1) ps (0, op0.2)) (.inl ts) = some (pr o e2) → w = sAlw (sCod j) o → ∃ m', f165_131 m2 w = some m' ∧ IFIN m m' B z tb ln base here ag P j ts := by
      intro w o ps hp hs hw
      obtain ⟨m', g1, g2, g3, g4⟩ := fin4b C2 b3 hr w
      have k' : m'.1 37 = 0 := by rw [g2.1 37 (by decide), b2.1 37 (by decide), a2.1 37 (by decide)]; exact h37
      refine ⟨m', g1, IF_of (xPat_p n39 n40) hp (Or.inl t1) ⟨FR_trans (FR_mono a2 (by decide) (by decide)) (FR_trans (FR_mono b2 (by decide) (by decide)) (FR_mono g2 (by decide) (by decide))), g3, hs, g4⟩ (fun _ => k') (fun h => ⟨by rw [t1, w7, k']; rfl, fun r => ?_⟩)⟩
      rw [t1, y7, hw]
    have sa : xD (xOps (B, tb, ln, base, here, if ag = true then 2 else 1) [100, 44, 97] (0, op0.2)) (.inl ts) = some (pr (v1, v2, 0, 0, true) e2) := (((ops_d (E := (B, tb, ln, base, here, if ag = true then 2 else 1)) (ps := [44, 97]) (o := (0, op0.2)) a4).trans (ops_s (k := 44) (ps := [97]) (Or.inl rfl) a5)).trans (ops_a (ps := []) b4)).trans ops_0
    have sb : xD (xOps (B, tb, ln, base, here, if ag = true then 2 else 1) [100, 44, 98] (0, op0.2)) (.inl ts) = some (pr (v1, 0, v2, 0, true) e2) := (((ops_d (E := (B, tb, ln, base, here, if ag = true then 2 else 1)) (ps := [44, 98]) (o := (0, op0.2)) a4).trans (ops_s (k := 44) (ps := [98]) (Or.inl rfl) a5)).trans (ops_b (ps := []) b4)).trans ops_0
    rw [q_eq (x := 60) (k := 60) rfl (by omega) (by decide), q_eq (x := 61) (k := 61) rfl (by omega) (by decide), q_eq (x := 62) (k := 62) rfl (by omega) (by decide), q_eq (x := 63) (k := 63) rfl (by omega) (by decide), q_eq (x := 64) (k := 64) rfl (by omega) (by decide), q_eq (x := 65) (k := 65) rfl (by omega) (by decide)]
    by_cases q60 : mw j = 60
    · rw [if_pos (Or.inl q60)] at t2
      rw [if_pos q60] at t3 ⊢
      refine fin _ _ _ t2 sa ?_
      rw [t3, show (19 : Int32) = f160 0 0 0 0 19 by decide]
      rw [show f160 0 0 0 0 19 = (19 : Int32) by decide]
      have := bG1 0 v2 0 v1 19 (0, true)
      rw [show f160 0 0 0 0 19 = (19 : Int32) by decide] at this
      exact this
    rw [if_neg q60] at t3 ⊢
    by_cases q61 : mw j = 61
    · rw [if_pos (Or.inr (Or.inl q61))] at t2
      rw [if_pos q61] at t3 ⊢
      exact fin _ _ _ t2 sa (by rw [t3]; exact bG1 (-1) v2 4 v1 19 (0, true))
    rw [if_neg q61] at t3 ⊢
    by_cases q62 : mw j = 62
    · rw [if_neg (by omega)] at t2
      rw [if_pos q62] at t3 ⊢
      exact fin _ _ _ t2 sb (by rw [t3]; exact bG2 32 v2 0 v1 (0, true))
    rw [if_neg q62] at t3 ⊢
    by_cases q63 : mw j = 63
    · rw [if_pos (Or.inr (Or.inr (Or.inl q63)))] at t2
      rw [if_pos q63] at t3 ⊢
      exact fin _ _ _ t2 sa (by rw [t3]; exact bG1 1 v2 3 v1 19 (0, true))
    rw [if_neg q63] at t3 ⊢
    by_cases q64 : mw j = 64
    · rw [if_neg (by omega)] at t2
      rw [if_pos q64] at t3 ⊢
      exact fin _ _ _ t2 sb (by rw [t3]; exact bG2 0 v2 3 v1 (0, true))
    rw [if_neg q64] at t3 ⊢
    by_cases q65 : mw j = 65
    · rw [if_pos (Or.inr (Or.inr (Or.inr q65)))] at t2
      rw [if_pos q65]
      exact fin _ _ _ t2 sa (by rw [t3]; exact bG3 0 v2 2 v1 (0, true))
    rw [if_neg q65]
    rw [if_neg (by omega)] at t2
    exact fin _ _ _ t2 sb (by rw [t3]; exact bG2 0 v2 2 v1 (0, true))
  rw [if_pos (by omega)]
  by_cases c2 : mw j < 69
  · obtain ⟨t1, t2, t3⟩ := tH j hj (by omega) c2
    rw [if_neg (by omega)]
    obtain ⟨v, m2, d2, v', e', q1, q2, q3, q4, q5⟩ := m_145 C.1 C.2.1 true M
    have C2 := MCX_fr (fq q2) C
    obtain ⟨m3, g1, g2, g3, g4, g5, g6⟩ := m_164 C2 (by rw [q2.1 37 (by decide)]; exact h37) hr q3 (nn (mw j) - nn 67) v
    refine ⟨m3, by rw [q1, Option.bind_some, g1]; rfl, IF_of (o := (0, 0, 0, v', e')) (d' := d2) (xPat_p n39 n40) t2 (Or.inr (Or.inr (Or.inr (Or.inr (Or.inr (Or.inr t1)))))) ⟨FR_trans (FR_mono q2 (by decide) (by decide)) g2, g3, (ops_e (E := (B, tb, ln, base, here, if ag = true then 2 else 1)) (ps := []) (o := (0, op0.2)) (al_no (fun p r h => by cases h)) q4).trans ops_0, g4⟩ g5 (fun h => ⟨?_, fun r => ?_⟩)⟩
    · obtain ⟨p1, p2⟩ := g6 h
      rw [t1, w13]
      show m3.1 37 = eb (decide (¬ (v' - here) &&& 1 = 0 ∨ v' - here < -1048576 ∨ (1048576 : Int32) ≤ v' - here))
      rw [q5 h, far_j] at p1 p2
      by_cases cf : ¬ (v' - here) &&& 1 = 0 ∨ v' - here < -1048576 ∨ (1048576 : Int32) ≤ v' - here
      · rw [decide_eq_true cf]; exact p1 cf
      · rw [decide_eq_false cf]; exact p2 cf
    · rw [t1, y13, t3, q5 h]
      exact congrArg (fun w => le w 4 0) (bJ2 (nn (mw j) - nn 67) v' (v' - here) e').symm
  rw [if_pos (by omega)]
  by_cases c3 : mw j = 69
  · obtain ⟨t1, t2, t3⟩ := tI j hj c3
    rw [if_pos c3]
    obtain ⟨v1, m1, e1, a1, a2, a3, a4⟩ := m_140 (MCX_Y C) M
    have C1 := MCX_fr (fq a2) C
    obtain ⟨m', g1, g2, g3, g4⟩ := fin4b C1 a3 hr (f160 0 v1 0 0 103)
    have k' : m'.1 37 = 0 := by rw [g2.1 37 (by decide), a2.1 37 (by decide)]; exact h37
    refine ⟨m', by rw [a1, Option.bind_some]; exact g1, IF_of (o := (0, v1, 0, 0, true)) (d' := e1) (xPat_p n39 n40) t2 (Or.inl t1) ⟨FR_trans (FR_mono a2 (by decide) (by decide)) (FR_mono g2 (by decide) (by decide)), g3, (ops_a (E := (B, tb, ln, base, here, if ag = true then 2 else 1)) (ps := []) (o := (0, op0.2)) a4).trans ops_0, g4⟩ (fun _ => k') (fun h => ⟨by rw [t1, w7, k']; rfl, fun r => ?_⟩)⟩
    rw [t1, y7, t3]
    have := bG1 0 v1 0 0 103 (0, true)
    rw [show f160 0 0 0 0 103 = (103 : Int32) by decide] at this
    exact congrArg (fun w => le w 4 0) this.symm
  rw [if_neg c3]
  obtain ⟨v1, m1, d1, e1, a1, a2, a3, a4, a5, a6⟩ := m_139t (MCX_Y C) M
  have C1 := MCX_fr (fq a2) C
  have k1 : m1.1 37 = 0 := by rw [a2.1 37 (by decide)]; exact h37
  have hde : xD (xOps (B, tb, ln, base, here, if ag = true then 2 else 1) [100, 44, 101] (0, op0.2)) (.inl ts) = xD (xOps (B, tb, ln, base, here, if ag = true then 2 else 1) [101] (v1, 0, 0, 0, true)) e1 := (ops_d (E := (B, tb, ln, base, here, if ag = true then 2 else 1)) (ps := [44, 101]) (o := (0, op0.2)) a4).trans (ops_s (k := 44) (ps := [101]) (Or.inl rfl) a5)
  rw [a1, Option.bind_some, q_eq (x := 70) (k := 70) rfl (by omega) (by decide)]
  have b0 : bz (0 : Int32) := Or.inl rfl
  have b1 : bz (1 : Int32) := Or.inr rfl
  by_cases c4 : mw j = 70
  · obtain ⟨t1, t2⟩ := tL j hj c4
    rw [if_pos c4]
    have F2 : FR [38] [] m1 (mg m1 38 1) := FR_g (FR_refl _ _ _) (by decide) _
    have C2 := MCX_fr (FR_mono F2 (by decide) (by decide)) C1
    obtain ⟨v, m3, d3, v', e', q1, q2, q3, q4, q5⟩ := m_145 C2.1 C2.2.1 true (MSx_38 a3 b1)
    have C3 := MCX_fr (fq q2) C2
    obtain ⟨m4, g1, g2, g3, g4, g5⟩ := m_166 C3 q3 (fun h => hr8 h t1) (v1, 0, 0, v, e')
    have e207 : f165_207 m1 (nn (mw j)) v1 (m1.1 21) 1 = some m4 := by
      unfold f165_207
      rw [if_pos b1, if_neg (by decide)]
      have n71 : ∀ (A D : Option mS), (if nn (mw j) = (71 : Int32) then A else D) = D := fun A D => by rw [q_eq (x := 71) (k := 71) rfl (by omega) (by decide), if_neg (by omega)]
      have e234 : ∀ mo : Int32, f146 (mg m1 38 1) mo = some (v, m3) → f165_234 (mg m1 38 1) (nn (mw j)) v1 (m1.1 21) mo = some m4 := by
        intro mo hmo
        unfold f165_234
        rw [hmo, Option.bind_some, n71]
        unfold f165_272 f165_273
        rw [n71]
        unfold f165_308
        rw [if_pos rfl, g1]
        rfl
      unfold f145 f145_13 at q1
      have h19 : m1.1 19 = eb ag := C1.1.2.2.2.2.2.2.2
      rw [show (mg m1 38 1).1 19 = eb ag from h19] at q1
      rw [h19]
      have hq : ∀ mo : Int32, ((f146 (mg m1 38 1) mo).bind fun r1 => some (r1.1, r1.2)) = some (v, m3) → f146 (mg m1 38 1) mo = some (v, m3) := by
        intro mo h
        cases hf : f146 (mg m1 38 1) mo with
        | none => rw [hf] at h; cases h
        | some y => rw [hf] at h; exact h
      by_cases c : eb ag = 0
      · rw [if_pos c] at q1 ⊢
        exact e234 1 (hq 1 q1)
      · rw [if_neg c] at q1 ⊢
        exact e234 2 (hq 2 q1)
    refine ⟨m4, e207, (v1, 0, 0, v', e'), d3, _, FR_trans (FR_trans (FR_mono a2 (by decide) (by decide)) (FR_mono F2 (by decide) (by decide))) (FR_trans (FR_mono q2 (by decide) (by decide)) g2), g3, ?_, g4, fun r _ => ?_, fun _ => ?_, fun h r _ => ⟨?_, fun _ => ?_⟩⟩
    · rw [xPat_p n39 n40]
      dsimp only
      rw [t2]
      exact hde.trans ((ops_e (E := (B, tb, ln, base, here, if ag = true then 2 else 1)) (ps := []) (o := (v1, 0, 0, 0, true)) (al_no (fun p r h => by cases h)) q4).trans ops_0)
    · rw [sFar_len, t1]; rfl
    · rw [g5, q2.1 37 (by decide)]; exact k1
    · rw [g5, q2.1 37 (by decide), t1]; exact k1
    · rw [t1, y14, q5 h]
  rw [if_neg c4]
  have c5 : mw j = 71 := by omega
  obtain ⟨t1, t2⟩ := tM j hj c5
  have y71 : ∀ (A D : Option mS), (if nn (mw j) = (71 : Int32) then A else D) = A := fun A D => by rw [q_eq (x := 71) (k := 71) rfl (by omega) (by decide), if_pos c5]
  have F2 : FR [38] [] m1 (mg m1 38 0) := FR_g (FR_refl _ _ _) (by decide) _
  have C2 := MCX_fr (FR_mono F2 (by decide) (by decide)) C1
  have M2 := MSx_38 a3 b0
  -- it is tried
  have N := nvi_3 (here := here) C2.1.1 C2.1.2.1 C2.1.2.2.1 C2.1.2.2.2.1 C2.1.2.2.2.2.1 C2.1.2.2.2.2.2.1
  rw [C2.1.2.2.2.2.2.2.1] at N
  obtain ⟨v, e', m3, d3, q1, q2, q3, q4, q5⟩ := m_146 (e := true) N (Or.inr (Or.inr ⟨rfl, Or.inr rfl⟩)) C2.2.1 rfl (fun _ => rfl) M2
  have C3 := MCX_fr (fq q2) C2
  have k3 : m3.1 37 = 0 := by rw [q2.1 37 (by decide)]; exact k1
  have F3 : FR IQ AQ m m3 := FR_trans (FR_trans (FR_mono a2 (by decide) (by decide)) (FR_mono F2 (by decide) (by decide))) (FR_mono q2 (by decide) (by decide))
  have e207 : f165_207 m1 (nn (mw j)) v1 (m1.1 21) 0 = (if m3.1 38 = 0 then (if v < -2048 then f165_272 m3 (nn (mw j)) v1 (m1.1 21) v else (if (2047 : Int32) < v then f165_272 m3 (nn (mw j)) v1 (m1.1 21) v else f165_273 m3 (nn (mw j)) v1 (m1.1 21) v 1)) else f165_272 m3 (nn (mw j)) v1 (m1.1 21) v) := by
    unfold f165_207
    rw [if_pos b0, if_pos rfl]
    unfold f165_234
    rw [q1, Option.bind_some, y71]
  rw [e207]
  have f308_0 : ∀ mm w, f165_308 mm v1 w 0 = (f166 mm v1 w).bind fun r1 => some r1 := fun mm w => rfl
  have f308_1 : ∀ mm w, f165_308 mm v1 w 1 = (f144 mm (f160 w 0 0 v1 19) 4).bind fun r1 => some r1 := fun mm w => rfl
  have f273_1 : f165_273 m3 (nn (mw j)) v1 (m1.1 21) v 1 = f165_308 m3 v1 v 1 := by
    unfold f165_273
    rw [y71, if_neg (by decide)]
  have f272 : f165_272 m3 (nn (mw j)) v1 (m1.1 21) v = if m3.1 11 = 0 then ((f117 (mg m3 18 (m1.1 21))).bind fun r1 => ((f145 r1).bind fun r2 => f165_308 r2.2 v1 r2.1 0)) else f165_308 m3 v1 v 0 := by
    unfold f165_272 f165_273
    rw [y71, if_pos rfl]
  have hxp : ∀ o d', xD (xX (B, tb, ln, base, here, if ag = true then 2 else 1) true) e1 = some (prx o.2.2.2.1 o.2.2.2.2 d') → o.1 = v1 → o.2.1 = 0 → o.2.2.1 = 0 → xOps (B, tb, ln, base, here, if ag = true then 2 else 1) (pat (xPat B j ts).1) ((xPat B j ts).2, op0.2) ts = some (pr o d') := by
    intro o d' h h1 h2 h3
    rw [xPat_p n39 n40]
    dsimp only
    rw [t2]
    have := hde.trans ((ops_e (E := (B, tb, ln, base, here, if ag = true then 2 else 1)) (ps := []) (o := (v1, 0, 0, 0, true)) (al_no (fun p r h => by cases h)) h).trans ops_0)
    have ho : o = (v1, 0, 0, o.2.2.2.1, o.2.2.2.2) := Prod.ext h1 (Prod.ext h2 (Prod.ext h3 rfl))
    rw [ho]
    exact this
  -- the second time nothing fails here
  have hL : ag = true → ∃ t9 q, e1 = .inl t9 ∧ xX (B, tb.map (ez ln), ln, base, here, 1) true t9 = some (.inl q) ∧ (¬ isSh (0, 0, 0, q.1, q.2.1) = true → sEnd P + 8 ≤ 65420) := by
    intro h
    obtain ⟨w, tc, t9, q, l1, l2, l3, l4⟩ := hli h t1
    have a4 : xReg B ts = some (pr v1 d1) := a4
    rw [l1] at a4
    cases d1 with
    | inr p => cases a4
    | inl tc' =>
      have := Sum.inl.inj (Option.some.inj a4)
      have h2 : tc = tc' := congrArg Prod.snd this
      subst h2
      have a5 : xExp 44 tc = some e1 := a5
      rw [l2] at a5
      exact ⟨t9, q, (Option.some.inj a5).symm, l3, l4⟩
  cases d3 with
  | inr p =>
    have hag : ag = false := by
      cases hg : ag with
      | false => rfl
      | true =>
        obtain ⟨t9, q, h1, h2, _⟩ := hL hg
        rw [h1] at q4
        have q4 : xX (B, tb.map (ez ln), ln, base, here, 1) true t9 = some (.inr p) := q4
        rw [h2] at q4
        cases q4
    have n11 := MSx_ne q3
    have hsp : xOps (B, tb, ln, base, here, if ag = true then 2 else 1) (pat (xPat B j ts).1) ((xPat B j ts).2, op0.2) ts = some (pr (v1, 0, 0, v, e') (.inr p)) := by
      refine hxp (v1, 0, 0, v, e') (.inr p) ?_ rfl rfl rfl
      cases e1 with
      | inr p' =>
        have q4 : (some (.inr p') : Option (Rx Xv)) = some (.inr p) := q4
        show (some (.inr p') : Option (Rx Xv)) = some (.inr p)
        exact q4
      | inl t9 =>
        have q4 : xX (B, tb.map (ez ln), ln, base, here, 1) true t9 = some (.inr p) := q4
        have R := rr_E (ag := False) (E1 := (B, tb.map (ez ln), ln, base, here, 1)) (E2 := (B, tb, ln, base, here, 1)) rfl rfl (Or.inl rfl) (fun h => h.elim) 150 1 0 true true t9 (fun h => h.elim)
        unfold xX at q4
        rw [q4] at R
        rw [hag]
        exact R rfl
    have mk : ∀ m' bs, FR IQ AQ m3 m' → MSx m' B z (.inr p) → PSm m' ag P bs → m'.1 37 = m3.1 37 → IFIN m m' B z tb ln base here ag P j ts := by
      intro m' bs h1 h2 h3 h4
      exact ⟨(v1, 0, 0, v, e'), .inr p, bs, FR_trans F3 h1, h2, hsp, h3, fun r h => (by cases h), fun _ => h4.trans k3, fun h => by rw [hag] at h; cases h⟩
    obtain ⟨mA, g1, g2, g3, g4, g5⟩ := m_166 C3 q3 (fun h => by rw [hag] at h; cases h) (v1, 0, 0, v, e')
    obtain ⟨mB, x1, x2, x3, x4⟩ := fin4b C3 q3 (fun h => by rw [hag] at h; cases h) (f160 v 0 0 v1 19)
    have hA : f165_272 m3 (nn (mw j)) v1 (m1.1 21) v = some mA := by
      rw [f272, if_neg n11, f308_0, show f166 m3 v1 v = some mA from g1]
      rfl
    have hB : f165_273 m3 (nn (mw j)) v1 (m1.1 21) v 1 = some mB := by
      rw [f273_1, f308_1]; exact x1
    rw [hA, hB]
    have iA := mk mA _ g2 g3 g4 g5
    have iB := mk mB _ (FR_mono x2 (by decide) (by decide)) x3 x4 (by rw [x2.1 37 (by decide)])
    split
    · split
      · exact ⟨mA, rfl, iA⟩
      · split
        · exact ⟨mA, rfl, iA⟩
        · exact ⟨mB, rfl, iB⟩
    · exact ⟨mA, rfl, iA⟩
  | inl r =>
    cases e1 with
    | inr p' => cases q4
    | inl t9 =>
      have q4 : xX (B, tb.map (ez ln), ln, base, here, 1) true t9 = some (.inl (v, e', r)) := q4
      have e38 : m3.1 38 = eb (!e') := q5 r rfl rfl
      obtain ⟨T1, T2⟩ := tried_x (ag := ag) q4
      by_cases cs : e' = true ∧ ¬ v < -2048 ∧ ¬ (2047 : Int32) < v
      · obtain ⟨c1, c2, c3⟩ := cs
        subst c1
        rw [e38, if_pos (show eb (!true) = 0 from rfl), if_neg c2, if_neg c3, f273_1, f308_1]
        obtain ⟨mB, x1, x2, x3, x4⟩ := fin4b C3 q3 hr (f160 v 0 0 v1 19)
        have hsp : xX (B, tb, ln, base, here, if ag = true then 2 else 1) true t9 = some (.inl (v, true, r)) := by
          cases hg : ag with
          | false =>
            obtain ⟨v', h1, h2⟩ := T1 hg
            rw [hg] at h1
            rw [h1, h2 rfl]
          | true =>
            have := (T2 hg).1 rfl
            rw [hg] at this
            exact this
        have hsh : isSh (v1, 0, 0, v, true) = true := (isSh_at _ _ _ _ _).mpr ⟨rfl, c2, c3⟩
        have k' : mB.1 37 = 0 := by rw [x2.1 37 (by decide)]; exact k3
        refine ⟨mB, x1, (v1, 0, 0, v, true), .inl r, _, FR_trans F3 (FR_mono x2 (by decide) (by decide)), x3, hxp (v1, 0, 0, v, true) (.inl r) hsp rfl rfl rfl, x4, fun r' _ => ?_, fun _ => k', fun h r' _ => ⟨by rw [t1, k']; rfl, fun _ => ?_⟩⟩
        · rw [le_len, t1]
          show 4 = if isSh (v1, 0, 0, v, true) = true then 4 else 8
          rw [if_pos hsh]
        · rw [t1, y15]
          show _ = if isSh (v1, 0, 0, v, true) = true then _ else _
          rw [if_pos hsh, tK.2]
          refine congrArg (fun w => le w 4 0) ?_
          unfold f160
          dsimp only
          rw [z15, show (0 : Int32) <<< ((12 : Int32) &&& 31) = 0 by decide, Int32.or_zero, Int32.or_zero]
          generalize v <<< ((20 : Int32) &&& 31) = g0
          generalize v1 <<< ((7 : Int32) &&& 31) = g1
          generalize (19 : Int32) = g2
          ac_rfl
      · have hns : ∀ a b c, ¬ isSh (a, b, c, v, e') = true := fun a b c h => cs ((isSh_at _ _ _ _ _).mp h)
        have hlong : (if m3.1 38 = 0 then (if v < -2048 then f165_272 m3 (nn (mw j)) v1 (m1.1 21) v else (if (2047 : Int32) < v then f165_272 m3 (nn (mw j)) v1 (m1.1 21) v else f165_273 m3 (nn (mw j)) v1 (m1.1 21) v 1)) else f165_272 m3 (nn (mw j)) v1 (m1.1 21) v) = f165_272 m3 (nn (mw j)) v1 (m1.1 21) v := by
          rw [e38]
          cases he : e' with
          | false => rw [if_neg (show ¬ eb (!false) = 0 by decide)]
          | true =>
            rw [if_pos (show eb (!true) = 0 from rfl)]
            by_cases c2 : v < -2048
            · rw [if_pos c2]
            · rw [if_neg c2]
              by_cases c3 : (2047 : Int32) < v
              · rw [if_pos c3]
              · exact absurd ⟨he, c2, c3⟩ cs
        have q3' := q3
        obtain ⟨hb3, N1, N2, N3, N4⟩ := q3
        obtain ⟨p, hp1, hp2⟩ := a6 t9 rfl
        obtain ⟨r9, hr9⟩ := tks_hd (B := B) hp1
        have h21 : m1.1 21 = nn (sk B z p) := by
          have := a3.2.1
          rw [hp2, hr9] at this
          rw [MC_21 this, (tks_st hp1).1]
        have hsk : sk B z p ≤ z := scan_le hp1
        have F4 : FR [18] [] m3 (mg m3 18 (m1.1 21)) := FR_g (FR_refl _ _ _) (by decide) _
        have TX4 : TX (mg m3 18 (m1.1 21)) B z := N1.1
        obtain ⟨m4, n1, n2, n3⟩ := m_nextC TX4 (show (mg m3 18 (m1.1 21)).1 18 = nn (sk B z p) from h21) hsk
        rw [(tks_st hp1).2, ← hp2] at n2
        have F5 : FR IP AP m3 m4 := FR_trans (FR_mono F4 (by decide) (by decide)) (FR_mono n3 (by decide) (by decide))
        have M4 : MSx m4 B z (.inl t9) := ⟨by rw [n3.1 38 (by decide)]; exact hb3, n2, a3.2.2.1, by rw [n3.1 11 (by decide)]; exact N3, a3.2.2.2.2⟩
        have C4 := MCX_fr (fq F5) C3
        obtain ⟨v2, m5, d5, v', e'', s1, s2, s3, s4, s5⟩ := m_145 C4.1 C4.2.1 true M4
        have C5 := MCX_fr (fq s2) C4
        have hroom : ag = true → sEnd P + 8 ≤ 65420 := by
          intro h
          obtain ⟨t9', q, h1, h2, h3⟩ := hL h
          cases h1
          rw [q4] at h2
          have h2 := Sum.inl.inj (Option.some.inj h2)
          subst h2
          exact h3 (hns 0 0 0)
        obtain ⟨m6, g1, g2, g3, g4, g5⟩ := m_166 C5 s3 hroom (v1, 0, 0, v2, e'')
        have hse : ∀ r', d5 = .inl r' → ¬ isSh (v1, 0, 0, v', e'') = true := by
          intro r' hr'
          subst hr'
          have s4 : xX (B, tb, ln, base, here, if ag = true then 2 else 1) true t9 = some (.inl (v', e'', r')) := s4
          cases hg : ag with
          | false =>
            obtain ⟨w, h1, h2⟩ := T1 hg
            rw [h1] at s4
            have s4 := Sum.inl.inj (Option.some.inj s4)
            have x1 : w = v' := congrArg Prod.fst s4
            have x2 : e' = e'' := congrArg (fun x => x.2.1) s4
            subst x1 x2
            intro h
            have := (isSh_at _ _ _ _ _).mp h
            rw [← h2 this.1] at h
            exact hns _ _ _ h
          | true =>
            obtain ⟨x1, x2, x3⟩ := (T2 hg).2 v' e'' (.inl r') s4 r' rfl
            subst x1
            intro h
            have := (isSh_at _ _ _ _ _).mp h
            rw [← x3 this.1] at h
            exact hns _ _ _ h
        have k' : m6.1 37 = 0 := by rw [g5, s2.1 37 (by decide), F5.1 37 (by decide)]; exact k3
        rw [hlong, f272, if_pos N3, n1, Option.bind_some, s1, Option.bind_some, f308_0]
        refine ⟨m6, by rw [show f166 (v2, m5).2 v1 (v2, m5).1 = some m6 from g1]; rfl, (v1, 0, 0, v', e''), d5, _, FR_trans F3 (FR_trans (FR_mono F5 (by decide) (by decide)) (FR_trans (FR_mono s2 (by decide) (by decide)) g2)), g3, hxp (v1, 0, 0, v', e'') d5 s4 rfl rfl rfl, g4, fun r' hr' => ?_, fun _ => k', fun h r' hr' => ⟨by rw [t1, k']; rfl, fun _ => ?_⟩⟩
        · rw [sFar_len, t1]
          show 8 = if isSh (v1, 0, 0, v', e'') = true then 4 else 8
          rw [if_neg (hse r' hr')]
        · rw [t1, y15]
          show _ = if isSh (v1, 0, 0, v', e'') = true then _ else sFar (v1, 0, 0, v', e'')
          rw [if_neg (hse r' hr'), s5 h]
end MX2
