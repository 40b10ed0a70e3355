/-! THE REFERENCE's memory operands: e(a), (a). -/
section ML
variable {m : mS} {B : Nat → Nat} {tl z ln : Nat} {tb : List Sy} {base here : Int32} {ag : Bool} {P : Ps} {d : Rx (List Tk)}
theorem lx_1 {p : Nat} (h : (lx B z p).1 = 1) : (isB (gb B z p) = true ∧ (¬ gb B z p = 46 ∨ isN (gb B z (p + 1)) = true)) ∧ (lx B z p).2.1 = p ∧ (lx B z p).2.2.2.1 = scan (fun i => isN (B i)) z p := by
  unfold lx at h ⊢
  by_cases c1 : isB (gb B z p) = true ∧ (¬ gb B z p = 46 ∨ isN (gb B z (p + 1)) = true)
  · rw [if_pos c1]; exact ⟨c1, rfl, rfl⟩
  rw [if_neg c1] at h
  exfalso
  by_cases c2 : isD (gb B z p) = true
  · rw [if_pos c2] at h
    split at h <;> cases h
  rw [if_neg c2] at h
  by_cases c3 : gb B z p = 39
  · rw [if_pos c3] at h; cases h
  rw [if_neg c3] at h
  by_cases c4 : gb B z p = 34
  · rw [if_pos c4] at h; cases h
  rw [if_neg c4] at h
  by_cases c5 : gb B z p = 60 ∨ gb B z p = 62
  · rw [if_pos c5] at h
    have h : gb B z p = 1 := h
    omega
  rw [if_neg c5] at h
  by_cases c6 : sgn (gb B z p) = true
  · rw [if_pos c6] at h
    have h : gb B z p = 1 := h
    rw [h] at c6; cases c6
  rw [if_neg c6] at h
  cases h
theorem lp_162 (T : TX m B z) {q : Nat} (hq : q ≤ z) (h18 : m.1 18 = nn q) (x1 : Int32) (hb : isB (gb B z q) = true) : ∀ (n k u : Nat), scan (fun i => isN (B i)) z q - (q + k) = n → q + k ≤ scan (fun i => isN (B i)) z q → n < u → f162_11 u m x1 (nn k) = f162_39 m x1 (nn (scan (fun i => isN (B i)) z q - q)) := by
  have hz := T.2.1
  have hs := scan_le (P := fun i => isN (B i)) hq
  have hB := T.2.2.1
  have h0 : ∀ _ : Unit, f119 m 0 = some (nn (gb B z q)) := fun _ => m_here T 0 h18 (by omega)
  intro n
  induction n with
  | zero =>
    intro k u hn hk hu
    have eu : u = (u - 1) + 1 := by omega
    have ek : scan (fun i => isN (B i)) z q = q + k := by omega
    have hno : isN (gb B z (q + k)) = false := by
      by_cases c : q + k < z
      · rw [gb_in c]
        have := scan_at (P := fun i => isN (B i)) hq (by omega)
        rw [ek] at this
        exact this
      · rw [gb_out (by omega)]; decide
    rw [eu, f162_11, h0 (), Option.bind_some, q_b (ch_begins (gb_lt hB z q)), if_pos hb, m_here T k h18 (by omega), Option.bind_some, q_b (ch_name (gb_lt hB z (q + k))), hno, if_neg (by decide), ek, Nat.add_sub_cancel_left]
  | succ n ih =>
    intro k u hn hk hu
    have eu : u = (u - 1) + 1 := by omega
    have hyes : isN (gb B z (q + k)) = true := by
      rw [gb_in (by omega)]
      exact scan_in (P := fun i => isN (B i)) (z := z) (p := q) (by omega) (by omega)
    rw [eu, f162_11, h0 (), Option.bind_some, q_b (ch_begins (gb_lt hB z q)), if_pos hb, m_here T k h18 (by omega), Option.bind_some, q_b (ch_name (gb_lt hB z (q + k))), if_pos hyes, nn_add1]
    exact ih (k + 1) (u - 1) (by omega) (by omega) (by omega)
theorem sk_ge (B : Nat → Nat) (z p : Nat) : p ≤ sk B z p := scan_ge _ _ _
theorem tks_hd {p : Nat} (h : p ≤ z) : ∃ r, tks B z p = tk B z p :: r := by
  rw [tks_un h]
  split
  · exact ⟨_, rfl⟩
  · split
    · exact ⟨_, rfl⟩
    · exact ⟨_, rfl⟩
/-- whether a register's name stands behind the bracket -/
theorem m_162 (hY : ∀ i, (m.2 4 i).toInt8.toInt32 = m.2 4 i) (T : TX m B z) {p : Nat} (h18 : m.1 18 = nn p) (hp : p ≤ z) : f162 m = some (eb (isR B (tks B z p)), m) := by
  have hz := T.2.1
  have hB := T.2.2.1
  have hq : sk B z p ≤ z := scan_le hp
  have hq2 := sk_ge B z p
  have hm : m = mx m (nn p) (m.1 20) (m.1 21) (m.1 22) (m.1 23) (m.1 24) (m.2 25) := by rw [← h18]; exact mx_id.symm
  have e118 : f118 m = some (mx m (nn (sk B z p)) (m.1 20) (m.1 21) (m.1 22) (m.1 23) (m.1 24) (m.2 25)) := by
    have := m_blanks (tk := m.1 20) (st := m.1 21) (vl := m.1 22) (fl := m.1 23) (mn := m.1 24) (str := m.2 25) T mm_U p (by show z - p < 200000; omega) (by omega)
    rw [← hm] at this
    exact this
  generalize hq9 : sk B z p = q at e118 hq hq2
  have T1 : TX (mx m (nn q) (m.1 20) (m.1 21) (m.1 22) (m.1 23) (m.1 24) (m.2 25)) B z := T
  have back : mg (mx m (nn q) (m.1 20) (m.1 21) (m.1 22) (m.1 23) (m.1 24) (m.2 25)) 18 (m.1 18) = m := by rw [mx_18, mx_id]
  obtain ⟨r9, hr9⟩ := tks_hd (B := B) hp
  have b0 : bz (0 : Int32) := Or.inl rfl
  have b1 : bz (1 : Int32) := Or.inr rfl
  have no : f162_64 (mx m (nn q) (m.1 20) (m.1 21) (m.1 22) (m.1 23) (m.1 24) (m.2 25)) (m.1 18) = some (0, m) := by
    unfold f162_64 f162_65
    rw [if_pos b0, back]
  unfold f162
  rw [e118, Option.bind_some]
  by_cases cb : isB (gb B z q) = true
  · have hl := lp_162 T1 hq (show (mx m (nn q) (m.1 20) (m.1 21) (m.1 22) (m.1 23) (m.1 24) (m.2 25)).1 18 = nn q from rfl) (m.1 18) cb _ 0 mm_U rfl (scan_ge _ _ _) (by have := scan_le (P := fun i => isN (B i)) hq; show _ < 200000; omega)
    have hsl := scan_le (P := fun i => isN (B i)) hq
    have hsg := scan_ge (fun i => isN (B i)) z q
    rw [show (0 : Int32) = nn 0 from rfl, hl]
    have hnm : NM B z q (scan (fun i => isN (B i)) z q - q) := ⟨by omega, fun i hi => scan_in (P := fun i => isN (B i)) (z := z) (p := q) (by omega) (by omega)⟩
    -- as the spec has it
    have hsp : isR B (tks B z p) = decide (¬ rg (nb B q (scan (fun i => isN (B i)) z q - q)) = none) := by
      rw [hr9]
      show decide ((tk B z p).1 = 1 ∧ ¬ rg (tname B (tk B z p)) = none) = _
      have htk : tk B z p = lx B z q := by
        unfold tk
        rw [hq9, if_neg]
        intro h
        rcases h with h | h
        · rw [gb_out (by omega)] at cb; cases cb
        · rw [h] at cb; cases cb
      rw [htk]
      by_cases c1 : (lx B z q).1 = 1
      · obtain ⟨_, x2, x3⟩ := lx_1 c1
        have : tname B (lx B z q) = nb B q (scan (fun i => isN (B i)) z q - q) := by unfold tname; rw [x2, x3]
        rw [this]
        simp only [c1, true_and]
      · have c46 : gb B z q = 46 ∧ isN (gb B z (q + 1)) = false := by
          have h9 : ¬ (isB (gb B z q) = true ∧ (¬ gb B z q = 46 ∨ isN (gb B z (q + 1)) = true)) := by
            intro h
            apply c1
            unfold lx
            rw [if_pos h]
          by_cases c2 : gb B z q = 46
          · refine ⟨c2, ?_⟩
            cases c3 : isN (gb B z (q + 1)) with
            | false => rfl
            | true => exact absurd ⟨cb, Or.inr c3⟩ h9
          · exact absurd ⟨cb, Or.inl c2⟩ h9
        have hqz : q < z := by
          by_cases h : q < z
          · exact h
          · rw [gb_out (by omega)] at cb; cases cb
        have e1 : scan (fun i => isN (B i)) z q = q + 1 := by
          rw [scan_go hqz (by show isN (B q) = true; rw [← gb_in (B := B) hqz, c46.1]; decide)]
          by_cases h : q + 1 < z
          · exact scan_no (by show ¬ isN (B (q + 1)) = true; rw [← gb_in (B := B) h, c46.2]; decide)
          · exact scan_end (by omega)
        rw [e1, Nat.add_sub_cancel_left]
        have : nb B q 1 = [B q] := by rw [nb_succ]; rfl
        rw [this]
        simp [c1, rg]
    rw [hsp]
    unfold f162_39
    generalize hL : scan (fun i => isN (B i)) z q - q = L at hnm ⊢
    have hLz : L ≤ z := by omega
    rw [show (0 : Int32) = nn 0 from rfl, nn_le2 (by omega) (by omega)]
    by_cases c0 : L ≤ 0
    · rw [if_pos c0, no, show L = 0 by omega]
      rfl
    rw [if_neg c0, show (5 : Int32) = nn 5 from rfl, nn_le2 (by omega) (by omega)]
    by_cases c5 : 5 ≤ L
    · rw [if_pos c5, no]
      have : rg (nb B q L) = none := by
        by_cases h : rg (nb B q L) = none
        · exact h
        · have := rg_len h
          rw [nb_len] at this
          omega
      rw [this]
      rfl
    rw [if_neg c5, show (mx m (nn q) (m.1 20) (m.1 21) (m.1 22) (m.1 23) (m.1 24) (m.2 25)).1 18 = nn q from rfl, m_reg (m := mx m (nn q) (m.1 20) (m.1 21) (m.1 22) (m.1 23) (m.1 24) (m.2 25)) T.2.1 T.2.2.2 hY T.2.2.1 hnm (by omega), Option.bind_some]
    cases hr : rg (nb B q L) with
    | none =>
      rw [show rgI (nb B q L) = -1 from rgI_m1.mpr hr, if_pos (by decide), no]
      rfl
    | some n =>
      have hn := rg_lt hr
      rw [show rgI (nb B q L) = nn n by unfold rgI; rw [hr]]
      rw [show (nn 0 : Int32) = 0 from rfl, if_neg (nn_neg (by omega))]
      unfold f162_65
      rw [if_pos b1, back]
      rfl
  · have hn : f162_11 mm_U (mx m (nn q) (m.1 20) (m.1 21) (m.1 22) (m.1 23) (m.1 24) (m.2 25)) (m.1 18) 0 = some (0, m) := by
      show f162_11 (199999 + 1) _ _ _ = _
      have h0 : f119 (mx m (nn q) (m.1 20) (m.1 21) (m.1 22) (m.1 23) (m.1 24) (m.2 25)) 0 = some (nn (gb B z q)) := m_here T1 0 rfl (by omega)
      rw [f162_11, h0, Option.bind_some, q_b (ch_begins (gb_lt hB z q)), if_neg cb]
      unfold f162_39
      rw [if_pos (show (0 : Int32) ≤ 0 by decide), no]
    rw [hn]
    have hsp : isR B (tks B z p) = false := by
      rw [hr9]
      show decide ((tk B z p).1 = 1 ∧ ¬ rg (tname B (tk B z p)) = none) = false
      apply decide_eq_false
      intro h
      unfold tk at h
      rw [hq9] at h
      split at h
      · cases h.1
      · exact cb (lx_1 h.1).1.1
    rw [hsp]
    rfl
theorem m_34 {o : Op} {E : Ev} (hE : E.1 = B) (ps : List Int32) (C : MCX m B tl z tb ln base here ag P) (M : MSx m B z d) (y : Int32) : ∃ m' d', f161_34 m y = some (y, m') ∧ FR IQ AP m m' ∧ MSx m' B z d' ∧ m'.1 37 = m.1 37 ∧ xD (xOps E (40 :: 97 :: 41 :: ps) o) d = xD (xOps E ps (o.1, m'.1 47, o.2.2)) d' := by
  subst hE
  obtain ⟨m1, d1, a1, a2, a3, a4⟩ := m_141 (k := 40) (by decide) (by decide) (by decide) (by decide) (by decide) M
  have C1 := MCX_fr (fq a2) C
  obtain ⟨v, m2, d2, b1, b2, b3, b4⟩ := m_140 (MCX_Y C1) a3
  have F3 : FR [47] [] m2 (mg m2 47 v) := FR_g (FR_refl _ _ _) (by decide) _
  have M3 := MSx_fr F3 (by decide) (by decide) b3
  obtain ⟨m4, d4, c1, c2, c3, c4⟩ := m_141 (k := 41) (by decide) (by decide) (by decide) (by decide) (by decide) M3
  refine ⟨m4, d4, ?_, FR_trans (FR_trans (fq a2) (fq b2)) (FR_trans (FR_mono F3 (by decide) (by decide)) (fq c2)), c3, ?_, ?_⟩
  · unfold f161_34
    rw [show f141 m 40 = some m1 from a1, Option.bind_some, b1, Option.bind_some, show f141 (mg m2 47 v) 41 = some m4 from c1]
    rfl
  · rw [c2.1 37 (by decide), F3.1 37 (by decide), b2.1 37 (by decide), a2.1 37 (by decide)]
  · have e47 : m4.1 47 = v := by rw [c2.1 47 (by decide)]; rfl
    rw [e47]
    exact ((ops_s (k := 40) (ps := 97 :: 41 :: ps) (o := o) (Or.inr (Or.inl rfl)) a4).trans (ops_a (ps := 41 :: ps) (o := o) b4)).trans (ops_s (k := 41) (ps := ps) (o := (o.1, v, o.2.2)) (Or.inr (Or.inr rfl)) c4)
theorem m_20 {o : Op} (ps : List Int32) (C : MCX m B tl z tb ln base here ag P) (h37 : m.1 37 = 0) (M : MSx m B z d) (hal : ∀ ts, d = .inl ts → ¬ alone B (40 :: 97 :: 41 :: ps) ts = true) : ∃ v v' e' m' d', f161_20 m = some (v, m') ∧ FR IQ AP m m' ∧ MSx m' B z d' ∧ m'.1 37 = (if ag = true ∧ (v < -2048 ∨ (2047 : Int32) < v) then 1 else 0) ∧ xD (xOps (B, tb, ln, base, here, if ag = true then 2 else 1) (101 :: 40 :: 97 :: 41 :: ps) o) d = xD (xOps (B, tb, ln, base, here, if ag = true then 2 else 1) ps (o.1, m'.1 47, o.2.2.1, v', e')) d' ∧ (ag = true → v = v') := by
  obtain ⟨v, m1, d1, v', e', a1, a2, a3, a4, a5⟩ := m_145 C.1 C.2.1 o.2.2.2.2 M
  have C1 := MCX_fr (fq a2) C
  have k37 : m1.1 37 = 0 := by rw [a2.1 37 (by decide)]; exact h37
  have w9 := f159_at (ag := ag) k37 C1.1.2.2.2.2.2.2.2 v (-2048) 2047
  have F2 : FR [37] [] m1 (mg m1 37 (if ag = true ∧ (v < -2048 ∨ (2047 : Int32) < v) then 1 else 0)) := FR_g (FR_refl _ _ _) (by decide) _
  have C2 := MCX_fr (FR_mono F2 (by decide) (by decide)) C1
  obtain ⟨m3, d3, b1, b2, b3, b4, b5⟩ := m_34 (E := (B, tb, ln, base, here, if ag = true then 2 else 1)) (o := (o.1, o.2.1, o.2.2.1, v', e')) rfl ps C2 (MSx_fr F2 (by decide) (by decide) a3) v
  refine ⟨v, v', e', m3, d3, ?_, FR_trans (fq a2) (FR_trans (FR_mono F2 (by decide) (by decide)) b2), b3, by rw [b4]; rfl, ?_, a5⟩
  · unfold f161_20
    rw [a1, Option.bind_some, w9, Option.bind_some]
    exact b1
  · exact (ops_e (E := (B, tb, ln, base, here, if ag = true then 2 else 1)) (ps := 40 :: 97 :: 41 :: ps) (o := o) hal a4).trans b5
/-- a memory operand -/
theorem m_161 {o : Op} (ho : o.2.2.2.1 = 0) (ps : List Int32) (C : MCX m B tl z tb ln base here ag P) (h37 : m.1 37 = 0) (M : MSx m B z d) : ∃ v v' e' m' d', f161 m = some (v, m') ∧ FR IQ AP m m' ∧ MSx m' B z d' ∧ m'.1 37 = (if ag = true ∧ (v < -2048 ∨ (2047 : Int32) < v) then 1 else 0) ∧ xD (xOps (B, tb, ln, base, here, if ag = true then 2 else 1) (101 :: 40 :: 97 :: 41 :: ps) o) d = xD (xOps (B, tb, ln, base, here, if ag = true then 2 else 1) ps (o.1, m'.1 47, o.2.2.1, v', e')) d' ∧ (ag = true → v = v') := by
  cases d with
  | inr p =>
    have n11 := MSx_ne M
    obtain ⟨v, v', e', m', d', h⟩ := m_20 (o := o) ps C h37 M (fun ts h => by cases h)
    refine ⟨v, v', e', m', d', ?_, h.2⟩
    unfold f161 f142
    rw [if_neg n11, if_pos rfl]
    exact h.1
  | inl ts =>
    have M0 := M
    obtain ⟨hb, M1, M2, M3, M4⟩ := M
    obtain ⟨t, r, rfl, e20⟩ := MC_20 M1
    have h142 := m_is M1 M3 (k := 40) (by decide) (by decide) (by decide)
    have hT := M1.1
    by_cases c : t.1 = 40
    · have hf := MC_flaw M1 (by omega) (by omega) (by omega)
      have h18 : m.1 18 = nn t.2.2.2.1 ∧ r = tks B z t.2.2.2.1 ∧ t.2.2.2.1 ≤ z := by
        obtain ⟨T, t', r', e0, e1, e2, e3, e4, e5, e6, e7, e8, e9, e10, e11, e12⟩ := M1
        obtain ⟨rfl, rfl⟩ := List.cons.inj e0
        exact ⟨e1, e10 (by omega) hf⟩
      have h162 := m_162 (MCX_Y C) hT h18.1 h18.2.2
      rw [← h18.2.1] at h162
      have hal : alone B (40 :: 97 :: 41 :: ps) (t :: r) = isR B r := by
        show decide ((40 : Int32) = 40 ∧ t.1 = 40 ∧ isR B r = true) = isR B r
        simp [c]
      cases hr : isR B r with
      | true =>
        rw [hr] at h162 hal
        obtain ⟨m3, d3, b1, b2, b3, b4, b5⟩ := m_34 (E := (B, tb, ln, base, here, if ag = true then 2 else 1)) (o := o) rfl ps C M0 0
        refine ⟨0, o.2.2.2.1, o.2.2.2.2, m3, d3, ?_, b2, b3, ?_, ?_, fun _ => ho.symm⟩
        · unfold f161
          rw [show f142 m 40 = _ from h142, if_pos c, if_neg (by decide), h162, Option.bind_some]
          show (if eb true = 0 then f161_20 m else f161_34 m 0) = _
          rw [if_neg (by decide)]
          exact b1
        · rw [b4, h37, if_neg (show ¬ (ag = true ∧ ((0 : Int32) < -2048 ∨ (2047 : Int32) < 0)) from fun h => h.2.elim (by decide) (by decide))]
        · rw [← b5]
          show xOps (B, tb, ln, base, here, if ag = true then 2 else 1) (101 :: 40 :: 97 :: 41 :: ps) o (t :: r) = xOps (B, tb, ln, base, here, if ag = true then 2 else 1) (40 :: 97 :: 41 :: ps) o (t :: r)
          rw [xOps, if_neg (by decide), if_neg (by decide), if_neg (by decide), if_pos rfl, if_pos hal]
      | false =>
        rw [hr] at h162 hal
        obtain ⟨v, v', e', m', d', h⟩ := m_20 (o := o) ps C h37 M0 (fun ts h9 => by cases h9; rw [hal]; decide)
        refine ⟨v, v', e', m', d', ?_, h.2⟩
        unfold f161
        rw [show f142 m 40 = _ from h142, if_pos c, if_neg (by decide), h162, Option.bind_some]
        show (if eb false = 0 then f161_20 m else f161_34 m 0) = _
        rw [if_pos (show eb false = 0 from rfl)]
        exact h.1
    · obtain ⟨v, v', e', m', d', h⟩ := m_20 (o := o) ps C h37 M0 (fun ts h9 ha => by
        cases h9
        have := of_decide_eq_true ha
        exact c this.2.1)
      refine ⟨v, v', e', m', d', ?_, h.2⟩
      unfold f161
      rw [show f142 m 40 = _ from h142, if_neg c, if_pos rfl]
      exact h.1
end ML
