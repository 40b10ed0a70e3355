/-! THE REFERENCE's line is the spec's. -/
section MW
variable {m : mS} {B : Nat → Nat} {tl z ln : Nat} {tb : List Sy} {base here : Int32} {ag : Bool} {P : Ps} {ts : List Tk} {j : Nat} {d : Rx (List Tk)}
theorem m_dis {pl : Nat} (hj : j < 83) (hpl : pl < 70000) (hbase : ∃ k, base = nn (4 * k) ∧ k ≤ 100000) (C : MCX m B tl z P.1 ln base (sHere P base) ag P) (h37 : m.1 37 = 0) (htot : P.2.2.1.length + P.2.2.2.length ≤ 65420) (hm : P.1.length < 17400) (hzz : z ≤ 65000) (hlen : ts.length ≤ 70000) (hts : ∃ p, p ≤ z ∧ ts = tks B z p) (W : ag = true → WIT B z ln P.1 j ts (sEnd P) 65420) (M : MSx m B z (.inl ts)) : ∃ m', mDis m (mw j) (nn pl) = some m' ∧ STF m m' B tl z ag (xStm B z ag base ln j pl ts P) := by
  have hmw := (mw_lt j hj).1
  unfold mDis
  by_cases c1 : mw j < 60
  · rw [if_neg (by omega)]
    have hr : ag = true → sEnd P + 4 ≤ 65420 := by
      intro h
      obtain ⟨tb', here1, q1, w1, w2, w3, w4, w5, w6⟩ := W h
      have := sz_ins hj (by omega) (sEnd P) q1
      omega
    obtain ⟨m5, a1, a2⟩ := m_138 hj c1 C h37 hr M
    obtain ⟨m', b1, b2⟩ := m_do hj rfl hpl hbase C (tV j hj (by omega)).2.2.2.2.2.2 W (IF_S hj (by omega) C a2)
    exact ⟨m', by rw [a1]; exact b1, b2⟩
  rw [if_pos (by omega)]
  by_cases c2 : mw j < 72
  · rw [if_neg (by omega)]
    have hr : ag = true → sEnd P + 4 ≤ 65420 := by
      intro h
      obtain ⟨tb', here1, q1, w1, w2, w3, w4, w5, w6⟩ := W h
      have := sz_ins hj (by omega) (sEnd P) q1
      omega
    have hr8 : ag = true → sFrm j = 14 → sEnd P + 8 ≤ 65420 := by
      intro h h14
      obtain ⟨tb', here1, q1, w1, w2, w3, w4, w5, w6⟩ := W h
      rw [h14] at w4
      exact w4
    have hli : ag = true → sFrm j = 15 → LIH B P.1 ln base (sHere P base) ts (sEnd P) := by
      intro h h15
      have hx71 : mw j = 71 := by
        by_cases c : mw j = 71
        · exact c
        · exfalso
          by_cases q1 : mw j < 67
          · have := (tG j hj (by omega) q1).1; rw [h15] at this; exact absurd this (by decide)
          by_cases q2 : mw j < 69
          · have := (tH j hj (by omega) q2).1; rw [h15] at this; exact absurd this (by decide)
          by_cases q3 : mw j = 69
          · have := (tI j hj q3).1; rw [h15] at this; exact absurd this (by decide)
          · have := (tL j hj (by omega)).1; rw [h15] at this; exact absurd this (by decide)
      exact WIT_li hj h15 hx71 C.1.2.2.1 (W h)
    obtain ⟨m5, a1, a2⟩ := m_165 hj (by omega) c2 C h37 hr hr8 hli M
    obtain ⟨m', b1, b2⟩ := m_do hj rfl hpl hbase C (tV j hj c2).2.2.2.2.2.2 W (IF_S hj c2 C a2)
    exact ⟨m', by rw [a1]; exact b1, b2⟩
  rw [if_pos (by omega)]
  by_cases c3 : mw j < 74
  · -- a section
    obtain ⟨u1, u2, u3⟩ := uF j hj (by omega) c3
    obtain ⟨n39, n40⟩ := mw60 hj (by omega) (by omega)
    have e167 : f167 m (nn (mw j)) = some (mg m 32 (nn (mw j) - 72)) := by
      unfold f167
      rw [show (74 : Int32) = nn 74 from rfl, nn_le2 (by omega) (by omega), if_neg (by omega)]
    have F : FR [32] [] m (mg m 32 (nn (mw j) - 72)) := FR_g (FR_refl _ _ _) (by decide) _
    have M5 := MSx_fr F (by decide) (by decide) M
    obtain ⟨t0, r0, rfl, _⟩ := MC_20 M.2.1
    obtain ⟨p1, p2, p3, p4, p5, p6, p7⟩ := C.2.2.1
    rw [sAdd_nil] at p3 p4 p5 p6 p7
    obtain ⟨m', e1, e2, e3, e4⟩ := m_end (x := mw j) (pl := pl) (by omega) hpl (show (mg m 32 (nn (mw j) - 72)).1 19 = eb ag from C.1.2.2.2.2.2.2.2) M5 Iff.rfl p3 p4 p5 p6
    have hrd : xRead B z ag P.1 ln base (sHere P base) j (t0 :: r0) = some (.inl ((0, op0.2), [], none, t0 :: r0)) := by
      unfold xRead
      rw [if_neg (show ¬ sFrm j = 2 by rw [u1]; decide), if_neg (show ¬ sFrm j = 3 by rw [u1]; decide), if_neg (show ¬ sFrm j = 6 by rw [u1]; decide), xPat_p n39 n40]
      dsimp only
      rw [u2]
      rfl
    refine ⟨m', by rw [e167]; exact e1, FR_trans (FR_mono F (by decide) (by decide)) (FR_mono e2 (by decide) (by decide)), ?_⟩
    rw [xStm_do, hrd]
    show match xDo ag base j pl P ((0, op0.2), [], none, t0 :: r0) with
      | none => False
      | some (.inl P') => SYMm m' B tl P'.1 ∧ SDN B P'.1 ∧ PSm m' ag P' [] ∧ m'.1 11 = 0 ∧ bz (m'.1 38)
      | some (.inr p) => MSx m' B z (.inr p)
    have gv : GAP j ((0, op0.2), [], none, t0 :: r0) := ⟨fun h => absurd h (by rw [u1]; decide), fun h => absurd h (by rw [u1]; decide)⟩
    have ok : m' = mg m 32 (nn (mw j) - 72) → ∀ Q : Ps, Q = P → SYMm m' B tl (sSec j Q).1 ∧ SDN B (sSec j Q).1 ∧ PSm m' ag (sSec j Q) [] ∧ m'.1 11 = 0 ∧ bz (m'.1 38) := by
      intro hm' Q hQ
      rw [hm', hQ]
      unfold sSec
      rw [if_pos u1]
      obtain ⟨f1, f2⟩ := (frm_ok j hj).2.2 u1
      refine ⟨SYMm_fr F (by decide) (by decide) C.1.2.1, C.1.2.2.1, ?_, M5.2.2.2.1, M5.1⟩
      unfold PSm
      rw [sAdd_nil]
      exact ⟨by show nn (mw j) - 72 = nn (sCod j).toNatClampNeg; rw [f2, u3], f1, p3, p4, p5, p6, p7⟩
    unfold xDo
    dsimp only
    by_cases c0 : t0.1 = 0
    · rw [if_pos c0]
      obtain ⟨_, k0⟩ := e4 c0
      have k0 := k0 (fun h => by have := h.1; omega)
      cases hg : ag with
      | true =>
        have hm' := (k0.2 hg).1 h37
        have hb : sBad (sFrm j) (sHere P base) (0, op0.2) = false := by rw [u1]; rfl
        have hy : sByt (sFrm j) (sCod j) (sHere P base) (sEnd P) ((0, op0.2), [], none, t0 :: r0) = [] := by rw [u1]; rfl
        rw [if_pos rfl, hb, if_neg (by decide), hy]
        have := ok hm' (sAdd P []) (sAdd_nil P)
        rw [hg] at this
        exact this
      | false =>
        have hm' := (k0.1 hg).1 ⟨h37, htot⟩
        have hz : sSz (sFrm j) (sEnd P) ((0, op0.2), [], none, t0 :: r0) = 0 := by rw [u1]; rfl
        rw [if_neg (by decide), chkT (fun h => by have := h.1; rw [u1] at this; exact absurd this (by decide)) gv, hz, if_neg (by omega)]
        have := ok hm' (sAdd (P.1 ++ oSy none, P.2) (List.replicate 0 0)) (by rw [show oSy none = ([] : List Sy) from rfl, List.append_nil]; exact sAdd_nil P)
        rw [hg] at this
        exact this
    · rw [if_neg c0]
      exact e3 c0
  have hn1 : ¬ sFrm j = 1 := fun h => by have := (tX j hj).2 h; omega
  have hd : ∃ m5, f167 m (nn (mw j)) = some m5 ∧ SFIN m m5 B tl z P.1 ln base (sHere P base) ag P j ts := by
    by_cases q1 : mw j < 77
    · exact d_list hj (by omega) q1 C h37 hlen W M
    by_cases q2 : mw j < 79
    · exact d_str hj (by omega) q2 C h37 W M
    by_cases q3 : mw j < 81
    · exact d_gap hj (by omega) q3 C h37 W M
    by_cases q4 : mw j = 81
    · exact d_equ hj q4 C h37 hm hzz hts M
    · exact d_glob hj (by omega) C h37 M
  obtain ⟨m5, a1, a2⟩ := hd
  obtain ⟨m', b1, b2⟩ := m_do hj rfl hpl hbase C hn1 W a2
  exact ⟨m', by rw [a1]; exact b1, b2⟩
/-- a line of the reference -/
theorem m_line {a : Nat} (hbase : ∃ k, base = nn (4 * k) ∧ k ≤ 100000) (S : SCm m B tl z P.1 ln base ag) (PS : PSm m ag P []) (h11 : m.1 11 = 0) (hb : bz (m.1 38)) (T : TX m B z) (h18 : m.1 18 = nn a) (ha : a ≤ z) (hzz : z ≤ 65000) (htot : P.2.2.1.length + P.2.2.2.length ≤ 65420) (hm : P.1.length + (if ag = true then 0 else (tks B z a).length) ≤ 17300) (htk : (tks B z a).length ≤ 17300) (W : ag = true → ∀ t r j, xLab B true P.2.1 (nn (sEnd P)) ln (tks B z a) P.1 = .inl (t :: r, P.1) → stOf (tname B t) = some j → ¬ t.1 = 0 → WIT B z ln P.1 j r (sEnd P) 65420) (WL : ag = true → ∃ l, xLab B true P.2.1 (nn (sEnd P)) ln (tks B z a) P.1 = .inl (l, P.1)) : ∃ m', f115 m = some m' ∧ FR (33 :: IZ) AQ9 m m' ∧ match xLine B z ag base ln (tks B z a) P with
    | none => False
    | some (.inl P') => SCm m' B tl z P'.1 ln base ag ∧ PSm m' ag P' [] ∧ m'.1 11 = 0 ∧ bz (m'.1 38)
    | some (.inr p) => MSx m' B z (.inr p) := by
  have hz := T.2.1
  have hm9 : P.1.length ≤ 17300 := by split at hm <;> omega
  have hend : sEnd P ≤ 65420 := by unfold sEnd; split <;> omega
  obtain ⟨m1, a1, a2, a3⟩ := m_nextC T h18 ha
  obtain ⟨w1, w2⟩ := tks_wf (a := 0) T.2.2.1 hz _ a rfl (Nat.zero_le _) ha
  have M1 : MSx m1 B z (.inl (tks B z a)) := ⟨by rw [a3.1 38 (by decide)]; exact hb, a2, ⟨w1, fun t ht => (w2 t ht).2.2.2.2.1⟩, by rw [a3.1 11 (by decide)]; exact h11, by omega⟩
  have S1 := SCm_fr a3 (by decide) (by decide) S
  have PS1 := PSm_fr a3 (by decide) (by decide) (by decide) PS
  obtain ⟨m2, b1, b2, b3⟩ := m_lab (off := 0) (tks B z a).length (tks B z a) P.1 m1 mm_U (Nat.le_refl _) M1 S1 PS1 (by omega) (by show _ < 200000; omega)
  have F2 : FR (33 :: IZ) AQ9 m m2 := FR_trans (FR_mono a3 (by decide) (by decide)) (FR_mono b2 (by decide) (by decide))
  have e116 : f116 m = some m2 := by unfold f116; rw [a1]; exact b1
  unfold f115
  rw [e116, Option.bind_some]
  -- dead: as it is
  have dead : ∀ p, MSx m2 B z (.inr p) → (if 0 < m2.1 11 then some m2 else (if m2.1 20 = 0 then some m2 else (if m2.1 20 = (1 : Int32) then ((f135_24 m2 (m2.1 21) (m2.1 18 - m2.1 21)).bind fun r2 => f115_52 m2 r2) else f115_52 m2 (-1 : Int32)))) = some m2 := by
    intro p Mp
    obtain ⟨_, h1, h2, h3, _⟩ := Mp
    rw [if_pos]
    rw [h1, show (0 : Int32) = nn 0 from rfl]
    exact (nn_lt (by omega) (by omega)).mpr h2
  unfold xLine
  cases hl : xLab B ag P.2.1 (nn (sEnd P)) ln (tks B z a) P.1 with
  | inr p =>
    rw [hl] at b3
    exact ⟨m2, dead p b3, F2, b3⟩
  | inl l =>
    rw [hl] at b3
    obtain ⟨S2, dd, hd, M2⟩ := b3
    have hlen := xLab_len (tks B z a).length (tks B z a) P.1 l (Nat.le_refl _) hl
    have PS2 : PSm m2 ag (l.2, P.2) [] := PSm_tb (PSm_fr b2 (by decide) (by decide) (by decide) PS1)
    rcases hd with ⟨rfl, hfl⟩ | ⟨t, r, w, e1, e2, e3, rfl⟩
    · obtain ⟨l1, l2⟩ := l
      have M2' := M2
      obtain ⟨hb2, N1, N2, N3, N4⟩ := M2
      obtain ⟨t, r, e0, e20⟩ := MC_20 N1
      simp only at e0 hlen
      subst e0
      rw [List.length_cons] at hlen
      show ∃ m', _ ∧ _ ∧ match (if t.1 = 0 then some (.inl (l2, P.2)) else xb (xExp 1 (t :: r)) fun r => match stOf (tname B t) with
        | none => some (.inr (t.2.1, 3))
        | some j => xStm B z ag base ln j t.2.1 r (l2, P.2) : Option (Rx Ps)) with
        | none => False
        | some (.inl P') => _
        | some (.inr p) => _
      rw [if_neg (show ¬ 0 < m2.1 11 by rw [N3]; decide)]
      by_cases c0 : t.1 = 0
      · rw [if_pos c0, if_pos (show m2.1 20 = 0 by rw [e20]; exact tcode_0'.mpr c0)]
        exact ⟨m2, rfl, F2, S2, PS2, N3, hb2⟩
      · rw [if_neg c0, if_neg (show ¬ m2.1 20 = 0 by rw [e20, tcode_0']; exact c0)]
        have hcur : m2.1 21 = nn t.2.1 ∧ m2.1 18 = nn t.2.2.2.1 ∧ t.2.1 < 70000 := by
          obtain ⟨T', t', r', f0, f1, f2, f3, f4, f5, f6, f7, _⟩ := N1
          obtain ⟨rfl, rfl⟩ := List.cons.inj f0
          exact ⟨f3, f1, f7⟩
        -- an error at the token
        have err : ∀ k : Nat, 0 < k → k < 100 → ∃ q, f115_71 m2 (nn k) = some q ∧ FR (33 :: IZ) AQ9 m q ∧ MSx q B z (.inr (t.2.1, k)) := by
          intro k h0 h1
          obtain ⟨q, q1, q2, q3, q4, q5⟩ := fail_at N1 N3 k
          exact ⟨q, by unfold f115_71; rw [q1]; rfl, FR_trans F2 (FR_mono q2 (by decide) (by decide)), MSx_err hb2 q2 q3 h0 h1 q4 q5⟩
        by_cases c1 : t.1 = 1
        · have hf := hfl t r rfl c1
          have hx : xExp 1 (t :: r) = some (.inl r) := by unfold xExp; simp only [if_pos c1, hf]
          have hE : r = tks B z t.2.2.2.1 ∧ t.2.2.2.1 ≤ z ∧ t.2.1 < t.2.2.2.1 ∧ NM B z t.2.1 (t.2.2.2.1 - t.2.1) := by
            obtain ⟨T', t', r', e0, e1, e2, e3, e4, e5, e6, e7, e8, e9, e10, e11, e12⟩ := N1
            obtain ⟨rfl, rfl⟩ := List.cons.inj e0
            exact ⟨(e10 (by omega) hf).1, (e10 (by omega) hf).2, e12 c1⟩
          have T2 := N1.1
          have h135 : f135_24 m2 (m2.1 21) (m2.1 18 - m2.1 21) = some (match stOf (tname B t) with | some j => nn (mw j) | none => -1) := by
            rw [hcur.1, hcur.2.1, nn_sub (by omega)]
            exact m_stm T2.2.1 T2.2.2.2 T2.2.2.1 hE.2.2.2
          have c20 : m2.1 20 = 1 := by rw [e20]; exact tcode_1.mpr c1
          rw [if_pos c20, h135, Option.bind_some, hx]
          show ∃ m', _ ∧ _ ∧ match (match stOf (tname B t) with
            | none => some (.inr (t.2.1, 3))
            | some j => xStm B z ag base ln j t.2.1 r (l2, P.2) : Option (Rx Ps)) with
            | none => False
            | some (.inl P') => _
            | some (.inr p) => _
          cases hst : stOf (tname B t) with
          | none =>
            obtain ⟨q, q1, q2, q3⟩ := err 3 (by decide) (by decide)
            refine ⟨q, ?_, q2, q3⟩
            show f115_52 m2 (-1) = some q
            unfold f115_52
            rw [if_neg (show ¬ (0 : Int32) ≤ -1 by decide), if_pos c20]
            exact q1
          | some j =>
            have hj := (stOf_some hst).2
            have hmw := (mw_lt j hj).1
            have hP1 : P.2.1 ≤ 1 := PS2.2.1
            have h32 : m2.1 32 = nn P.2.1 := PS2.1
            have hat : m2.2 35 (m2.1 32).toNatClampNeg = nn (sEnd P) := by
              have := PSm_at PS2
              rw [List.length_nil, Nat.add_zero] at this
              exact this
            have h34 : m2.1 34 = base := S2.2.2.2.2.2.2.1
            have F3 : FR [33, 37] [] m2 (mg (mg m2 33 (sHere P base)) 37 0) := FR_g (FR_g (FR_refl _ _ _) (by decide) _) (by decide) _
            obtain ⟨m4, g1, g2, g3⟩ := MSx_next (MSx_fr F3 (by decide) (by decide) M2') (by omega) hf
            have F4 : FR [33, 37, 18, 20, 21, 22, 23, 24] [25] m2 m4 := FR_trans (FR_mono F3 (by decide) (by decide)) (FR_mono g2 (by decide) (by decide))
            have C4 : MCX m4 B tl z l2 ln base (sHere (l2, P.2) base) ag (l2, P.2) := ⟨SCm_fr F4 (by decide) (by decide) S2, by rw [g2.1 33 (by decide)]; rfl, PSm_fr F4 (by decide) (by decide) (by decide) PS2, by show sEnd P ≤ 70000; omega⟩
            have W' : ag = true → WIT B z ln l2 j r (sEnd P) 65420 := by
              intro h
              obtain ⟨l9, hl9⟩ := WL h
              have hll : (t :: r, l2) = (l9, P.1) := by
                rw [h] at hl
                rw [hl] at hl9
                exact Sum.inl.inj hl9
              have hl2 : l2 = P.1 := congrArg Prod.snd hll
              rw [h, hl2] at hl
              rw [hl2]
              exact W h t r j hl hst c0
            have hl2b : l2.length < 17400 := by
              by_cases hg : ag = true
              · obtain ⟨l9, hl9⟩ := WL hg
                have hll : (t :: r, l2) = (l9, P.1) := by
                  rw [hg] at hl
                  rw [hl] at hl9
                  exact Sum.inl.inj hl9
                have hl2 : l2 = P.1 := congrArg Prod.snd hll
                rw [hl2]; omega
              · rw [if_neg hg] at hm
                omega
            obtain ⟨m5, k1, k2, k3⟩ := m_dis (P := (l2, P.2)) (ts := r) hj hcur.2.2 hbase C4 (by rw [g2.1 37 (by decide)]; rfl) htot (show l2.length < 17400 from hl2b) hzz (by omega) ⟨_, hE.2.1, hE.1⟩ W' g3
            have e110 : f115_52 m2 (nn (mw j)) = mDis m4 (mw j) (nn t.2.1) := by
              have h110 : ∀ y0 y1 : Int32, y1 + y0 = sHere P base → f115_110 m2 (nn (mw j)) (m2.1 21) y0 y1 = mDis m4 (mw j) (nn t.2.1) := by
                intro y0 y1 hy
                unfold f115_110 mDis
                rw [hy, g1, Option.bind_some, show (60 : Int32) = nn 60 from rfl, nn_le2 (by omega) (by omega), show (72 : Int32) = nn 72 from rfl, nn_le2 (by omega) (by omega), hcur.1]
              unfold f115_52
              rw [if_pos (nn_pos (by omega)), if_pos (show ib (m2.1 32) 2 by rw [h32]; exact (nn_ib (by omega)).mpr (by omega)), hat, h32, q_eq (x := 1) (k := 1) rfl (by omega) (by decide)]
              by_cases cs : P.2.1 = 1
              · rw [if_pos cs]
                exact h110 _ _ (by unfold sHere; rw [if_pos cs, h34])
              · rw [if_neg cs]
                exact h110 _ _ (by unfold sHere; rw [if_neg cs])
            refine ⟨m5, ?_, FR_trans F2 (FR_trans (FR_mono F4 (by decide) (by decide)) (FR_mono k2 (by decide) (fun _ h => h))), ?_⟩
            · show f115_52 m2 (nn (mw j)) = some m5
              rw [e110]; exact k1
            · have hS5 : ∀ tb9, SYMm m5 B tl tb9 → SDN B tb9 → SCm m5 B tl z tb9 ln base ag := by
                intro tb9 h1 h2
                obtain ⟨S1', _, _, S4', S5', S6', S7', S8'⟩ := C4.1
                exact ⟨MXT_fr k2 (by decide) S1', h1, h2, S4', by rw [k2.1 15 (by decide)]; exact S5', S6', by rw [k2.1 34 (by decide)]; exact S7', by rw [k2.1 19 (by decide)]; exact S8'⟩
              show match xStm B z ag base ln j t.2.1 r (l2, P.2) with
                | none => False
                | some (.inl P') => SCm m5 B tl z P'.1 ln base ag ∧ PSm m5 ag P' [] ∧ m5.1 11 = 0 ∧ bz (m5.1 38)
                | some (.inr p) => MSx m5 B z (.inr p)
              generalize xStm B z ag base ln j t.2.1 r (l2, P.2) = x9 at k3
              cases x9 with
              | none => exact k3
              | some y =>
                cases y with
                | inl P' => exact ⟨hS5 _ k3.1 k3.2.1, k3.2.2⟩
                | inr p => exact k3
        · have hx : xExp 1 (t :: r) = some (.inr (t.2.1, 1)) := by unfold xExp; simp only [if_neg c1]
          rw [if_neg (show ¬ m2.1 20 = 1 by rw [e20, tcode_1]; exact c1), hx]
          obtain ⟨q, q1, q2, q3⟩ := err 1 (by decide) (by decide)
          refine ⟨q, ?_, q2, q3⟩
          unfold f115_52
          rw [if_neg (show ¬ (0 : Int32) ≤ -1 by decide), if_neg (show ¬ m2.1 20 = 1 by rw [e20, tcode_1]; exact c1)]
          exact q1
    · refine ⟨m2, dead _ M2, F2, ?_⟩
      obtain ⟨l1, l2⟩ := l
      simp only at e1
      subst e1
      show match (if t.1 = 0 then some (.inl (l2, P.2)) else xb (xExp 1 (t :: r)) fun r => match stOf (tname B t) with
        | none => some (.inr (t.2.1, 3))
        | some j => xStm B z ag base ln j t.2.1 r (l2, P.2) : Option (Rx Ps)) with
        | none => False
        | some (.inl P') => _
        | some (.inr p) => _
      have hx : xExp 1 (t :: r) = some (.inr (w, 1)) := by unfold xExp; simp only [if_pos e2, e3]
      rw [if_neg (by omega), hx]
      exact M2
end MW
