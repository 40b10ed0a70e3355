/-! THE REFERENCE's constants and global names; all directives. -/
section MH
variable {m : mS} {B : Nat → Nat} {tl z ln : Nat} {tb : List Sy} {base here : Int32} {ag : Bool} {P : Ps} {ts : List Tk} {j : Nat} {d : Rx (List Tk)}
theorem e169 {x : Nat} (hx : x = 81 ∨ x = 82) : f167 m (nn x) = (f169 m (nn x)).bind fun r => some r := by
  unfold f167
  rw [show (74 : Int32) = nn 74 from rfl, nn_le2 (by omega) (by omega), if_pos (by omega), show (77 : Int32) = nn 77 from rfl, nn_le2 (by omega) (by omega), if_pos (by omega), show (79 : Int32) = nn 79 from rfl, nn_le2 (by omega) (by omega), if_pos (by omega), show (81 : Int32) = nn 81 from rfl, nn_le2 (by omega) (by omega), if_pos (by omega)]
/-- a name that is wanted: no name, or a flawed one -/
theorem name_bad {t : Tk} {r : List Tk} (M : MSx m B z (.inl (t :: r))) (h : ¬ (t.1 = 1 ∧ t.2.2.2.2 = none)) : ∃ q p, xExp 1 (t :: r) = some (.inr p) ∧ FR [11, 12, 13] [] m q ∧ MSx q B z (.inr p) ∧ ∀ x, f169 m x = f169_17 q x := by
  obtain ⟨hb, M1, M2, M3, M4⟩ := M
  have e20 : m.1 20 = tcode t.1 := by
    obtain ⟨t', r', e0, e1⟩ := MC_20 M1
    obtain ⟨rfl, rfl⟩ := List.cons.inj e0
    exact e1
  by_cases c1 : t.1 = 1
  · cases hf : t.2.2.2.2 with
    | none => exact absurd ⟨c1, hf⟩ h
    | some w =>
      obtain ⟨q, q1, q2, q3, q4, q5⟩ := takes_bad M1 M3 hf (by omega)
      have Mq : MSx q B z (.inr (w, 1)) := MSx_err hb q2 q3 (by decide) (by decide) q4 q5
      refine ⟨q, (w, 1), ?_, q2, Mq, fun x => ?_⟩
      · unfold xExp; simp only [if_pos c1, hf]
      · unfold f169
        rw [if_pos (show m.1 20 = 1 by rw [e20]; exact tcode_1.mpr c1)]
        unfold f169_17
        rw [q1, f130_dead (MSx_ne Mq)]
  · obtain ⟨q, q1, q2, q3, q4, q5⟩ := fail_at M1 M3 1
    have Mq : MSx q B z (.inr (t.2.1, 1)) := MSx_err hb q2 q3 (by decide) (by decide) q4 q5
    refine ⟨q, (t.2.1, 1), ?_, q2, Mq, fun x => ?_⟩
    · unfold xExp; simp only [if_neg c1]
    · unfold f169
      rw [if_neg (show ¬ m.1 20 = 1 by rw [e20, tcode_1]; exact c1), show f131 m 1 (m.1 21) = some q from q1]
      rfl
theorem d_glob (hj : j < 83) (h1 : mw j = 82) (C : MCX m B tl z tb ln base here ag P) (h37 : m.1 37 = 0) (M : MSx m B z (.inl ts)) : ∃ m', f167 m (nn (mw j)) = some m' ∧ SFIN m m' B tl z tb ln base here ag P j ts := by
  obtain ⟨u1, u2⟩ := uE j hj h1
  obtain ⟨n39, n40⟩ := mw60 hj (by omega) (by omega)
  obtain ⟨t, r, rfl, e20⟩ := MC_20 M.2.1
  have hrd : ∀ d', xExp 1 (t :: r) = some d' → xRead B z ag tb ln base here j (t :: r) = some (prq ((0, op0.2), [], none) d') := by
    intro d' hx
    unfold xRead
    rw [if_neg (show ¬ sFrm j = 2 by rw [u1]; decide), if_neg (show ¬ sFrm j = 3 by rw [u1]; decide), if_neg (show ¬ sFrm j = 6 by rw [u1]; decide), xPat_p n39 n40]
    dsimp only
    rw [u2, xOps, if_neg (by decide), if_neg (by decide), if_neg (by decide), if_neg (by decide), if_pos rfl, hx]
    cases d' <;> rfl
  rw [h1, e169 (Or.inr rfl)]
  by_cases c : t.1 = 1 ∧ t.2.2.2.2 = none
  · obtain ⟨c1, hf⟩ := c
    have h130 := takes_ok M.2.1 hf (by omega)
    obtain ⟨m1, a1, a2, a3⟩ := MSx_next M (by omega) hf
    have hx : xExp 1 (t :: r) = some (.inl r) := by unfold xExp; simp only [if_pos c1, hf]
    have k7 : m1.1 37 = 0 := by rw [a2.1 37 (by decide)]; exact h37
    refine ⟨m1, ?_, ((0, op0.2), [], none), .inl r, [], hrd _ hx, a3, FR_mono a2 (by decide) (by decide), PSm_fr a2 (by decide) (by decide) (by decide) C.2.2.1, fun r' _ => ⟨?_, ?_, fun _ => ⟨fun _ => ⟨by rw [u1]; rfl, k7⟩, fun h => absurd ?_ h⟩, fun h => ⟨by rw [u1, k7]; rfl, fun _ => by rw [u1]; rfl⟩⟩⟩
    · unfold f169 f169_17 f169_46 f169_57
      rw [if_pos (show m.1 20 = 1 by rw [e20]; exact tcode_1.mpr c1), h130, Option.bind_some, if_neg (show ¬ nn 82 = 81 by decide), if_pos M.2.2.2.1, a1, Option.bind_some, if_pos (show nn 82 = 82 from rfl)]
      rfl
    · show SYMm m1 B tl (tb ++ [])
      rw [List.append_nil]
      exact SYMm_fr a2 (by decide) (by decide) C.1.2.1
    · show SDN B (tb ++ [])
      rw [List.append_nil]
      exact C.1.2.2.1
    · exact ⟨fun h => absurd h (by rw [u1]; decide), fun h => absurd h (by rw [u1]; decide)⟩
  · obtain ⟨q, p, hx, F, Mq, e9⟩ := name_bad M c
    have n11 := MSx_ne Mq
    refine ⟨q, ?_, ((0, op0.2), [], none), .inr p, [], hrd _ hx, Mq, FR_mono F (by decide) (by decide), PSm_fr F (by decide) (by decide) (by decide) C.2.2.1, fun r' h => by cases h⟩
    rw [e9]
    unfold f169_17 f169_46 f169_57
    rw [f130_dead n11, Option.bind_some, if_neg (show ¬ nn 82 = 81 by decide), if_neg n11, if_pos (show nn 82 = 82 from rfl)]
    rfl
theorem d_equ (hj : j < 83) (h1 : mw j = 81) (C : MCX m B tl z tb ln base here ag P) (h37 : m.1 37 = 0) (hm : tb.length < 17400) (hzz : z ≤ 65000) (hts : ∃ p, p ≤ z ∧ ts = tks B z p) (M : MSx m B z (.inl ts)) : ∃ m', f167 m (nn (mw j)) = some m' ∧ SFIN m m' B tl z tb ln base here ag P j ts := by
  have u1 := uD j hj h1
  obtain ⟨p9, hp9, hp8⟩ := hts
  obtain ⟨r9, hr9⟩ := tks_hd (B := B) hp9
  rw [hr9] at hp8
  obtain ⟨t, r, rfl, e20⟩ := MC_20 M.2.1
  obtain ⟨ht9, _⟩ := List.cons.inj hp8
  have h19 := C.1.2.2.2.2.2.2.2
  have hT := M.2.1.1
  have hte := tk_end hT.2.2.1 hT.2.1 hp9
  rw [← ht9] at hte
  have hcur : m.1 21 = nn t.2.1 ∧ m.1 18 = nn t.2.2.2.1 := by
    obtain ⟨T, t', r', e0, e1, e2, e3, _⟩ := M.2.1
    obtain ⟨rfl, rfl⟩ := List.cons.inj e0
    exact ⟨e3, e1⟩
  have hgap : ∀ q9, GAP j q9 := fun q9 => ⟨fun h => absurd h (by rw [u1]; decide), fun h => absurd h (by rw [u1]; decide)⟩
  have hrd : xRead B z ag tb ln base here j (t :: r) = xEqu B ag tb ln (B, tb, ln, base, here, 0) (t :: r) := by
    unfold xRead
    rw [if_neg (show ¬ sFrm j = 2 by rw [u1]; decide), if_neg (show ¬ sFrm j = 3 by rw [u1]; decide), if_pos u1, show eMode ag (sFrm j) = 0 by rw [u1]; rfl]
  rw [h1, e169 (Or.inl rfl)]
  -- dead behind the name
  have dead : ∀ (q : mS) (p : Nat × Nat) (s9 l9 : Int32), FR [11, 12, 13, 18, 20, 21, 22, 23, 24] [25] m q → MSx q B z (.inr p) → xEqu B ag tb ln (B, tb, ln, base, here, 0) (t :: r) = some (.inr p) → ∃ m', f169_57 q (nn 81) s9 l9 = some m' ∧ SFIN m m' B tl z tb ln base here ag P j (t :: r) := by
    intro q p s9 l9 F Mq hx
    have n11 := MSx_ne Mq
    obtain ⟨m2, b1, b2, _, _⟩ := m_137 (ag := ag) (n := tb.length) (by rw [F.1 19 (by decide)]; exact h19) (by rw [F.1 26 (by decide)]; exact C.1.2.1.1) (by omega) 1 s9 l9 0
    refine ⟨m2, ?_, (op0, [], none), .inr p, [], ?_, MSx_dd b2 (by decide) Mq, FR_trans (FR_mono F (by decide) (by decide)) (FR_mono b2 (by decide) (by decide)), PSm_fr b2 (by decide) (by decide) (by decide) (PSm_fr F (by decide) (by decide) (by decide) C.2.2.1), fun r' h => by cases h⟩
    · unfold f169_57
      rw [if_neg (show ¬ nn 81 = 82 by decide), f141_dead n11, Option.bind_some, if_neg n11]
      unfold f169_90
      rw [b1]
      rfl
    · rw [hrd, hx]; rfl
  by_cases c : t.1 = 1 ∧ t.2.2.2.2 = none
  · obtain ⟨c1, hf⟩ := c
    have h130 := takes_ok M.2.1 hf (by omega)
    have hx1 : xExp 1 (t :: r) = some (.inl r) := by unfold xExp; simp only [if_pos c1, hf]
    have hnm : t.2.1 < t.2.2.2.1 ∧ NM B z t.2.1 (t.2.2.2.1 - t.2.1) := by
      obtain ⟨T, t', r', e0, e1, e2, e3, e4, e5, e6, e7, e8, e9, e10, e11, e12⟩ := M.2.1
      obtain ⟨rfl, rfl⟩ := List.cons.inj e0
      exact e12 c1
    have hl : m.1 18 - m.1 21 = nn (t.2.2.2.1 - t.2.1) := by rw [hcur.1, hcur.2, nn_sub (by omega)]
    have e17 : f169 m (nn 81) = (f132 m).bind fun r2 => f169_46 r2 (nn 81) (m.1 21) (m.1 18 - m.1 21) := by
      unfold f169 f169_17
      rw [if_pos (show m.1 20 = 1 by rw [e20]; exact tcode_1.mpr c1), h130, Option.bind_some, if_pos (show nn 81 = 81 from rfl)]
    obtain ⟨m1, a1, a2, a3⟩ := m_132 C.1 M c1
    rw [e17, a1, Option.bind_some]
    by_cases cn : ag = true ∨ isNew B tb t = true
    · rw [if_pos cn] at a3
      subst a3
      have hng : ¬ (ag = false ∧ isNew B tb t = false) := by
        intro h
        rcases cn with h2 | h2
        · rw [h.1] at h2; cases h2
        · rw [h.2] at h2; cases h2
      have hxe : ∀ d2, xExp 44 r = some d2 → xEqu B ag tb ln (B, tb, ln, base, here, 0) (t :: r) = xb (some d2) fun r2 => xb (xX (B, tb, ln, base, here, 0) true r2) fun q => some (.inl ((0, 0, 0, 0, q.2.1), [], if ag = true then none else some (tsy t 2 q.1 ln), q.2.2)) := by
        intro d2 h
        unfold xEqu
        rw [hx1]
        show (if ag = false ∧ isNew B tb t = false then _ else _) = _
        rw [if_neg hng, h]
      obtain ⟨m2, b1, b2, b3⟩ := MSx_next M (by omega) hf
      have C2 := MCX_fr (FR_mono b2 (by decide) (by decide)) C
      obtain ⟨m3, d3, g1, g2, g3, g4⟩ := m_141 (k := 44) (by decide) (by decide) (by decide) (by decide) (by decide) b3
      have g4 : xExp 44 r = some d3 := g4
      have C3 := MCX_fr (fq g2) C2
      have e46 : f169_46 m1 (nn 81) (m1.1 21) (m1.1 18 - m1.1 21) = f169_57 m2 (nn 81) (m1.1 21) (m1.1 18 - m1.1 21) := by
        unfold f169_46
        rw [if_pos M.2.2.2.1, b1]
        rfl
      rw [e46]
      cases d3 with
      | inr p =>
        have n11 := MSx_ne g3
        have hx := hxe _ g4
        have hx : xEqu B ag tb ln (B, tb, ln, base, here, 0) (t :: r) = some (.inr p) := hx
        obtain ⟨m4, k1, k2, _, _⟩ := m_137 (ag := ag) (n := tb.length) C3.1.2.2.2.2.2.2.2 C3.1.2.1.1 (by omega) 1 (m1.1 21) (m1.1 18 - m1.1 21) 0
        refine ⟨m4, ?_, (op0, [], none), .inr p, [], by rw [hrd, hx]; rfl, MSx_dd k2 (by decide) g3, FR_trans (FR_trans (FR_mono b2 (by decide) (by decide)) (FR_mono g2 (by decide) (by decide))) (FR_mono k2 (by decide) (by decide)), PSm_fr k2 (by decide) (by decide) (by decide) C3.2.2.1, fun r' h => by cases h⟩
        unfold f169_57
        rw [if_neg (show ¬ nn 81 = 82 by decide), show f141 m2 44 = some m3 from g1, Option.bind_some, if_neg n11]
        unfold f169_90
        rw [k1]
        rfl
      | inl r2 =>
        have N := nvi_0 (here := here) C3.1.1 C3.1.2.1 C3.1.2.2.1 C3.1.2.2.2.1 C3.1.2.2.2.2.1 C3.1.2.2.2.2.2.1
        rw [C3.1.2.2.2.2.2.2.1] at N
        obtain ⟨v, e', m4, d4, q1, q2, q3, q4, _⟩ := m_146 (e := true) N (Or.inl ⟨rfl, rfl⟩) C3.2.1 rfl (fun h => by cases h) g3
        have q4 : xX (B, tb, ln, base, here, 0) true r2 = some (prx v e' d4) := q4
        have C4 := MCX_fr (fq q2) C3
        obtain ⟨m5, k1, k2, k3, k4⟩ := m_137 (ag := ag) (n := tb.length) C4.1.2.2.2.2.2.2.2 C4.1.2.1.1 (by omega) 1 (m1.1 21) (m1.1 18 - m1.1 21) v
        have hx : xEqu B ag tb ln (B, tb, ln, base, here, 0) (t :: r) = some (prq ((0, 0, 0, 0, e'), [], if ag = true then none else some (tsy t 2 v ln)) d4) := by
          rw [hxe _ g4]
          show xb (xX (B, tb, ln, base, here, 0) true r2) _ = _
          rw [q4]
          cases d4 <;> rfl
        have F5 : FR IQ9 AQ9 m1 m5 := FR_trans (FR_trans (FR_mono b2 (by decide) (by decide)) (FR_mono g2 (by decide) (by decide))) (FR_trans (FR_mono q2 (by decide) (by decide)) (FR_mono k2 (by decide) (by decide)))
        have k7 : m5.1 37 = 0 := by rw [k2.1 37 (by decide), q2.1 37 (by decide), g2.1 37 (by decide), b2.1 37 (by decide)]; exact h37
        have hprog : ((f169_57 m2 (nn 81) (m1.1 21) (m1.1 18 - m1.1 21)).bind fun r => some r) = some m5 := by
          unfold f169_57
          rw [if_neg (show ¬ nn 81 = 82 by decide), show f141 m2 44 = some m3 from g1, Option.bind_some, if_pos g3.2.2.2.1, q1, Option.bind_some]
          unfold f169_90
          rw [k1]
          rfl
        have M5 : MSx m5 B z d4 := MSx_fr k2 (by decide) (by decide) q3
        have hsy : SYMm m5 B tl (tb ++ oSy (if ag = true then none else some (tsy t 2 v ln))) ∧ SDN B (tb ++ oSy (if ag = true then none else some (tsy t 2 v ln))) := by
          cases hg : ag with
          | true =>
            rw [if_pos rfl, k3 hg]
            show SYMm m4 B tl (tb ++ []) ∧ SDN B (tb ++ [])
            rw [List.append_nil]
            exact ⟨C4.1.2.1, C4.1.2.2.1⟩
          | false =>
            rw [if_neg (by decide)]
            obtain ⟨w1, w2, w3, w4, w5, w6⟩ := k4 hg
            have hnew : isNew B tb t = true := by
              rcases cn with h | h
              · rw [hg] at h; cases h
              · exact h
            have hnone : sfind B tb (tname B t) = none := (of_decide_eq_true hnew).2
            rw [hcur.1] at w2
            rw [hl] at w3
            rw [C4.1.2.2.2.2.1] at w6
            have hzl := C.1.2.2.2.1
            have hn2 := hnm.2.1
            exact ⟨SYMm_add C4.1.2.1 (by omega) ⟨by show 0 < t.2.2.2.1 - t.2.1; omega, by show t.2.1 + (t.2.2.2.1 - t.2.1) ≤ tl; omega, fun i hi => hnm.2.2 i hi, by show 2 ≤ 2; omega, C.1.2.2.2.2.2.1⟩ w1 w2 w3 w4 w5 w6, SDN_snoc C.1.2.2.1 hnone⟩
        exact ⟨m5, hprog, ((0, 0, 0, 0, e'), [], if ag = true then none else some (tsy t 2 v ln)), d4, [], by rw [hrd, hx], M5, F5, PSm_fr k2 (by decide) (by decide) (by decide) C4.2.2.1, fun r' _ => ⟨hsy.1, hsy.2, fun _ => ⟨fun _ => ⟨by rw [u1]; rfl, k7⟩, fun h => absurd (hgap _) h⟩, fun h => ⟨by rw [u1, k7]; rfl, fun _ => by rw [u1]; rfl⟩⟩⟩
    · rw [if_neg cn] at a3
      have hng : ag = false ∧ isNew B tb t = false := by
        constructor
        · cases hg : ag with
          | false => rfl
          | true => exact absurd (Or.inl hg) cn
        · cases hg : isNew B tb t with
          | false => rfl
          | true => exact absurd (Or.inr hg) cn
      have hx : xEqu B ag tb ln (B, tb, ln, base, here, 0) (t :: r) = some (.inr (t.2.1, 2)) := by
        unfold xEqu
        rw [hx1]
        show (if ag = false ∧ isNew B tb t = false then _ else _) = _
        rw [if_pos hng]
      obtain ⟨m', k1, k2⟩ := dead m1 (t.2.1, 2) (m.1 21) (m.1 18 - m.1 21) (FR_mono a2 (by decide) (by decide)) a3 hx
      refine ⟨m', ?_, k2⟩
      unfold f169_46
      rw [if_neg (MSx_ne a3), k1]
      rfl
  · obtain ⟨q, p, hx, F, Mq, e9⟩ := name_bad M c
    have n11 := MSx_ne Mq
    have hx2 : xEqu B ag tb ln (B, tb, ln, base, here, 0) (t :: r) = some (.inr p) := by
      unfold xEqu
      rw [hx]
      rfl
    obtain ⟨m', k1, k2⟩ := dead q p (q.1 21) (q.1 18 - q.1 21) (FR_mono F (by decide) (by decide)) Mq hx2
    refine ⟨m', ?_, k2⟩
    have h132 : f132 q = some q := s_132 (s := t.2.1) (l := t.2.2.2.1 - t.2.1) (SYMm_fr F (by decide) (by decide) C.1.2.1) C.1.1.1 (by rw [F.1 21 (by decide)]; exact hcur.1) (by rw [F.1 18 (by decide), hcur.2]; congr 1; omega) (by omega) n11
    rw [e9]
    unfold f169_17
    rw [f130_dead n11, Option.bind_some, if_pos (show nn 81 = 81 from rfl), h132, Option.bind_some]
    unfold f169_46
    rw [if_neg n11, k1]
    rfl
end MH
