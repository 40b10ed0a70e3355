/-! THE REFERENCE's statement is the spec's. -/
theorem tX : ∀ j, j < 83 → (mw j < 72 ↔ 7 ≤ sFrm j) ∧ (sFrm j = 1 → 72 ≤ mw j ∧ mw j < 74) := by decide +kernel
section MV
variable {m : mS} {B : Nat → Nat} {tl z ln : Nat} {tb : List Sy} {base here : Int32} {ag : Bool} {P : Ps} {ts : List Tk} {j : Nat} {d : Rx (List Tk)}
theorem AGR_trans {E1 E2 E3 : Ev} (h1 : AGR E1 E2) (h2 : AGR E2 E3) : AGR E1 E3 := by
  intro w
  obtain ⟨a1, a2⟩ := h1 w
  obtain ⟨b1, b2⟩ := h2 w
  exact ⟨a1.trans b1, fun h => (a2 h).trans (b2 (by rw [← a1]; exact h))⟩
theorem AGR_ez' (b : Int32) (h : Int32) (m1 m2 : Nat) : AGR (B, tb, ln, b, h, m1) (B, tb.map (ez ln), ln, b, h, m2) := by
  intro w
  obtain ⟨a1, a2⟩ := AGR_ez (B := B) (tb := tb) (ln := ln) b h m2 m1 w
  exact ⟨a1.symm, fun h => (a2 (by rw [a1]; exact h)).symm⟩
theorem chk7 {off tot pl : Nat} {q : Rd} (h : 7 ≤ sFrm j ∧ ¬ off % 4 = 0) : sChk (sFrm j) off tot pl q = some (pl, 7) := by
  unfold sChk
  rw [if_pos h]
theorem chkG {off tot pl : Nat} {q : Rd} (h : ¬ (7 ≤ sFrm j ∧ ¬ off % 4 = 0)) (hg : ¬ GAP j q) : sChk (sFrm j) off tot pl q = some (pl, 6) := by
  unfold sChk
  rw [if_neg h]
  by_cases c4 : sFrm j = 4 ∧ (q.1.2.2.2.1 < 0 ∨ (65420 : Int32) < q.1.2.2.2.1)
  · rw [if_pos c4]
  rw [if_neg c4]
  by_cases c5 : sFrm j = 5 ∧ (q.1.2.2.2.1 < 0 ∨ (12 : Int32) < q.1.2.2.2.1)
  · rw [if_pos c5]
  exfalso
  apply hg
  exact ⟨fun h => ⟨Int32.not_lt.mp (fun h9 => c4 ⟨h, Or.inl h9⟩), Int32.not_lt.mp (fun h9 => c4 ⟨h, Or.inr h9⟩)⟩, fun h => ⟨Int32.not_lt.mp (fun h9 => c5 ⟨h, Or.inl h9⟩), Int32.not_lt.mp (fun h9 => c5 ⟨h, Or.inr h9⟩)⟩⟩
theorem chkT {off tot pl : Nat} {q : Rd} (h : ¬ (7 ≤ sFrm j ∧ ¬ off % 4 = 0)) (G : GAP j q) : sChk (sFrm j) off tot pl q = if 65420 < tot + sSz (sFrm j) off q then some (pl, 6) else none := by
  have n4 : ¬ (sFrm j = 4 ∧ (q.1.2.2.2.1 < 0 ∨ (65420 : Int32) < q.1.2.2.2.1)) := fun h => h.2.elim (Int32.not_lt.mpr (G.1 h.1).1) (Int32.not_lt.mpr (G.1 h.1).2)
  have n5 : ¬ (sFrm j = 5 ∧ (q.1.2.2.2.1 < 0 ∨ (12 : Int32) < q.1.2.2.2.1)) := fun h => h.2.elim (Int32.not_lt.mpr (G.2 h.1).1) (Int32.not_lt.mpr (G.2 h.1).2)
  unfold sChk
  rw [if_neg h, if_neg n4, if_neg n5]
theorem sz_ins (hj : j < 83) (hx : mw j < 72) (off : Nat) (q : Rd) : 4 ≤ sSz (sFrm j) off q := by
  obtain ⟨v7, v2, v3, v6, v4, v5, v1⟩ := tV j hj hx
  have n0 : ¬ sFrm j = 0 := fun h => by rw [h] at v7; exact absurd v7 (by decide)
  unfold sSz
  rw [if_neg (fun h => by rcases h with h | h | h; exact n0 h; exact v1 h; exact v6 h), if_neg (fun h => by rcases h with h | h; exact v2 h; exact v3 h), if_neg v4, if_neg v5]
  split
  · omega
  · split
    · split <;> omega
    · omega
theorem WIT_li (hj : j < 83) (h15 : sFrm j = 15) (hx : mw j = 71) (hd : SDN B tb) (W : WIT B z ln tb j ts (sEnd P) 65420) : LIH B tb ln base here ts (sEnd P) := by
  obtain ⟨tb', here1, q1, w1, w2, w3, w4, w5, w6⟩ := W
  obtain ⟨n39, n40⟩ := mw60 hj (by omega) (by omega)
  obtain ⟨t1, t2⟩ := tM j hj hx
  unfold xRead at w2
  rw [if_neg (show ¬ sFrm j = 2 by rw [h15]; decide), if_neg (show ¬ sFrm j = 3 by rw [h15]; decide), if_neg (show ¬ sFrm j = 6 by rw [h15]; decide), show eMode false (sFrm j) = 1 by rw [h15]; rfl, xPat_p n39 n40] at w2
  dsimp only at w2
  rw [t2] at w2
  obtain ⟨⟨o, r9⟩, x1, x2⟩ := xb_some w2
  have x2 := Sum.inl.inj (Option.some.inj x2)
  rw [xOps, if_neg (by decide), if_neg (by decide), if_pos rfl] at x1
  obtain ⟨⟨v, tc⟩, y1, x1⟩ := xb_some x1
  rw [xOps, if_neg (by decide), if_neg (by decide), if_neg (by decide), if_neg (by decide), if_neg (by decide)] at x1
  obtain ⟨t9, y2, x1⟩ := xb_some x1
  rw [xOps, if_neg (by decide), if_neg (by decide), if_neg (by decide), if_pos rfl, if_neg (show ¬ alone (B, tb', ln, (0 : Int32), here1, 1).1 [] t9 = true from by cases t9 <;> exact Bool.false_ne_true)] at x1
  obtain ⟨qa, y3, x1⟩ := xb_some x1
  have x1 : (some (.inl ((v, 0, 0, qa.1, qa.2.1), qa.2.2)) : Option (Rx (Op × List Tk))) = some (.inl (o, r9)) := x1
  have x1 := Sum.inl.inj (Option.some.inj x1)
  have ho : o = (v, 0, 0, qa.1, qa.2.1) := (congrArg Prod.fst x1).symm
  have R := rr_E (ag := True) (E1 := (B, tb', ln, 0, here1, 1)) (E2 := (B, tb.map (ez ln), ln, base, here, 1)) rfl rfl (Or.inl rfl) (fun _ => AGR_trans (EXT_agr w1 hd 0 base here1 here 1 1) (AGR_ez' base here 1 1)) 150 1 0 true true t9 (fun _ => rfl)
  have y3' := y3
  unfold xX at y3'
  rw [show xE (B, tb', ln, (0 : Int32), here1, 1) 150 1 0 true t9 = some (.inl qa) from y3'] at R
  rcases R with ⟨q2, z1, z2⟩ | ⟨z1, _⟩
  · refine ⟨v, tc, t9, q2, y1, y2, z1, fun hns => ?_⟩
    have hsz : sSz (sFrm j) (sEnd P) q1 = 8 := by
      rw [h15, ← x2, ho]
      show (if isSh (v, 0, 0, qa.1, qa.2.1) = true then 4 else 8) = 8
      rw [if_neg]
      intro h
      apply hns
      have h9 := (isSh_at _ _ _ _ _).mp h
      obtain ⟨z3, z4⟩ := z2.2.1 trivial
      refine (isSh_at _ _ _ _ _).mpr ⟨z3.symm.trans h9.1, ?_⟩
      rw [← z4 h9.1]
      exact h9.2
    rw [hsz] at w4
    exact w4
  · cases z1
/-- how the statement goes by its number -/
def mDis (m : mS) (x : Nat) (pl : Int32) : Option mS := if 60 ≤ x then (if 72 ≤ x then ((f167 m (nn x)).bind fun r2 => f115_156 r2 (nn x) pl) else ((f165 m (nn x)).bind fun r2 => f115_156 r2 (nn x) pl)) else ((f138 m (nn x)).bind fun r2 => f115_156 r2 (nn x) pl)
def IZ : List Nat := 32 :: IQ9
/-- behind a statement of the reference -/
def STF (m m' : mS) (B : Nat → Nat) (tl z : Nat) (ag : Bool) (x : Option (Rx Ps)) : Prop := FR IZ AQ9 m m' ∧ match x with
  | none => False
  | some (.inl P') => SYMm m' B tl P'.1 ∧ SDN B P'.1 ∧ PSm m' ag P' [] ∧ m'.1 11 = 0 ∧ bz (m'.1 38)
  | some (.inr p) => MSx m' B z (.inr p)
theorem here_al (hbase : ∃ k, base = nn (4 * k) ∧ k ≤ 100000) (he : sEnd P ≤ 70000) : sHere P base - sHere P base / 4 * 4 = 0 ↔ sEnd P % 4 = 0 := by
  obtain ⟨k, hk, hk2⟩ := hbase
  have : ∃ x, sHere P base = nn x ∧ x < 1000000 ∧ x % 4 = sEnd P % 4 := by
    unfold sHere
    rw [hk]
    by_cases c : P.2.1 = 1
    · rw [if_pos c, nn_add]; exact ⟨_, rfl, by omega, by omega⟩
    · rw [if_neg c, show (0 : Int32) = nn 0 from rfl, nn_add]; exact ⟨_, rfl, by omega, by omega⟩
  obtain ⟨x, h1, h2, h3⟩ := this
  rw [h1, show (4 : Int32) = nn 4 from rfl, nn_mod (by omega) (by decide), ← h3]
  exact nn_eq (b := 0) (by omega) (by decide)
theorem m_do {x pl : Nat} (hj : j < 83) (hx : x = mw j) (hpl : pl < 70000) (hbase : ∃ k, base = nn (4 * k) ∧ k ≤ 100000) (C : MCX m B tl z P.1 ln base (sHere P base) ag P) (hn1 : ¬ sFrm j = 1) (W : ag = true → WIT B z ln P.1 j ts (sEnd P) 65420) {m5 : mS} (I : SFIN m m5 B tl z P.1 ln base (sHere P base) ag P j ts) : ∃ m', f115_156 m5 (nn x) (nn pl) = some m' ∧ STF m m' B tl z ag (xStm B z ag base ln j pl ts P) := by
  obtain ⟨q, d', bs, i1, i2, i3, i4, i5⟩ := I
  have hmw := (mw_lt j hj).1
  rw [xStm_do, i1]
  cases d' with
  | inr p =>
    exact ⟨m5, f156_dead (MSx_ne i2), FR_mono i3 (by decide) (fun _ h => h), i2⟩
  | inl r =>
    obtain ⟨s1, s2, s3, s4⟩ := i5 r rfl
    obtain ⟨t0, r0, rfl, _⟩ := MC_20 i2.2.1
    have h19 : m5.1 19 = eb ag := by rw [i3.1 19 (by decide)]; exact C.1.2.2.2.2.2.2.2
    have h33 : m5.1 33 - m5.1 33 / 4 * 4 = 0 ↔ sEnd P % 4 = 0 := by
      rw [i3.1 33 (by decide), C.2.1]
      exact here_al hbase C.2.2.2
    obtain ⟨p1, p2, p3, p4, p5, p6, p7⟩ := i4
    obtain ⟨m', e1, e2, e3, e4⟩ := m_end (x := x) (pl := pl) (by omega) hpl h19 i2 h33 p3 p4 p5 p6
    have F' : FR IZ AQ9 m m' := FR_trans (FR_mono i3 (by decide) (fun _ h => h)) (FR_mono e2 (by decide) (by decide))
    refine ⟨m', e1, F', ?_⟩
    show match xDo ag base j pl P (q.1, q.2.1, q.2.2, t0 :: r0) with
      | none => False
      | some (.inl P') => SYMm m' B tl P'.1 ∧ SDN B P'.1 ∧ PSm m' ag P' [] ∧ m'.1 11 = 0 ∧ bz (m'.1 38)
      | some (.inr p) => MSx m' B z (.inr p)
    have hsec : ∀ Q, sSec j Q = Q := fun Q => by unfold sSec; rw [if_neg hn1]
    have hsd : ∀ (T : List Sy) (b : List Int32), (sAdd (T, P.2) b).1 = T := fun T b => by unfold sAdd; split <;> rfl
    have ok : ∀ b, m' = m5 → bs.length = b.length → (ag = true → bs = b) → SYMm m' B tl (sAdd (P.1 ++ oSy q.2.2, P.2) b).1 ∧ SDN B (sAdd (P.1 ++ oSy q.2.2, P.2) b).1 ∧ PSm m' ag (sAdd (P.1 ++ oSy q.2.2, P.2) b) [] ∧ m'.1 11 = 0 ∧ bz (m'.1 38) := by
      intro b hm hl hb
      rw [hm, hsd]
      exact ⟨s1, s2, PSm_end ⟨p1, p2, p3, p4, p5, p6, p7⟩ hl hb, i2.2.2.2.1, i2.1⟩
    unfold xDo
    dsimp only
    by_cases c0 : t0.1 = 0
    · rw [if_pos c0]
      obtain ⟨k7, k0⟩ := e4 c0
      have h72 := (tX j hj).1
      rw [← hx] at h72
      cases hg : ag with
      | true =>
        rw [if_pos rfl]
        have W := W hg
        obtain ⟨tb', here1, q1, w1, w2, w3, w4, w5, w6⟩ := W
        have hal : ¬ (x < 72 ∧ ¬ sEnd P % 4 = 0) := fun h => h.2 (w6 (h72.mp h.1))
        obtain ⟨g1, g2⟩ := (k0 hal).2 hg
        obtain ⟨s41, s42⟩ := s4 hg
        cases hb : sBad (sFrm j) (sHere P base) q.1 with
        | true =>
          rw [hb] at s41
          rw [if_pos rfl]
          exact g2 (by rw [s41]; decide)
        | false =>
          rw [hb] at s41
          rw [if_neg (by decide)]
          have hm := g1 (by rw [s41]; rfl)
          have hbs := s42 hb
          have hsy : q.2.2 = none := (xRead_x i1).2.1 hg
          have := ok _ hm (congrArg List.length hbs) (fun _ => hbs)
          rw [hsy, hg] at this
          rw [show oSy none = ([] : List Sy) from rfl, List.append_nil] at this
          rw [hsec]
          rw [hsy]
          exact this
      | false =>
        rw [if_neg (by decide)]
        have hal : (7 ≤ sFrm j ∧ ¬ sEnd P % 4 = 0) ↔ (x < 72 ∧ ¬ sEnd P % 4 = 0) := by rw [h72]
        by_cases c7 : 7 ≤ sFrm j ∧ ¬ sEnd P % 4 = 0
        · rw [chk7 c7]
          exact k7 (hal.mp c7)
        · obtain ⟨g1, g2⟩ := (k0 (fun h => c7 (hal.mpr h))).1 hg
          obtain ⟨s31, s32⟩ := s3 hg
          by_cases cg : GAP j (q.1, q.2.1, q.2.2, t0 :: r0)
          · obtain ⟨l1, l2⟩ := s31 cg
            rw [chkT c7 cg]
            have htot : (sAdd P bs).2.2.1.length + (sAdd P bs).2.2.2.length = P.2.2.1.length + P.2.2.2.length + sSz (sFrm j) (sEnd P) (q.1, q.2.1, q.2.2, t0 :: r0) := by
              rw [← l1]
              unfold sAdd
              split
              · show (P.2.2.1 ++ bs).length + P.2.2.2.length = _
                rw [List.length_append]; omega
              · show P.2.2.1.length + (P.2.2.2 ++ bs).length = _
                rw [List.length_append]; omega
            generalize hN : sSz (sFrm j) (sEnd P) (q.1, q.2.1, q.2.2, t0 :: r0) = N at htot l1
            by_cases ct : 65420 < P.2.2.1.length + P.2.2.2.length + N
            · rw [if_pos ct]
              exact g2 (fun h => by have := h.2; omega)
            · rw [if_neg ct]
              have hm := g1 ⟨l2, by omega⟩
              have := ok (List.replicate N 0) hm (by rw [List.length_replicate]; exact l1) (fun h => by rw [hg] at h; cases h)
              rw [hg] at this
              show SYMm m' B tl (sSec j (sAdd (P.1 ++ oSy q.2.2, P.2) (List.replicate N 0))).1 ∧ SDN B (sSec j (sAdd (P.1 ++ oSy q.2.2, P.2) (List.replicate N 0))).1 ∧ PSm m' false (sSec j (sAdd (P.1 ++ oSy q.2.2, P.2) (List.replicate N 0))) [] ∧ _
              rw [hsec]
              exact this
          · rw [chkG c7 cg]
            exact g2 (fun h => by have := s32 cg; rw [this] at h; exact absurd h.1 (by decide))
    · rw [if_neg c0]
      exact e3 c0
end MV
