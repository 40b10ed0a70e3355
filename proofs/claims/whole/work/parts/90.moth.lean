/-! THE REFERENCE's other instructions. -/
section MX
variable {m m' : mS} {B : Nat → Nat} {tl z ln : Nat} {tb : List Sy} {base here : Int32} {ag : Bool} {P : Ps} {ts : List Tk} {j : Nat} {d : Rx (List Tk)}
theorem lx_st (B : Nat → Nat) (z p : Nat) : (lx B z p).2.1 = p := by
  unfold lx
  repeat' split
  all_goals rfl
theorem sk_sk {p : Nat} (h : p ≤ z) : sk B z (sk B z p) = sk B z p := by
  have hq : sk B z p ≤ z := scan_le h
  by_cases c : sk B z p < z
  · exact scan_no (by have := scan_at (P := fun i => blk (B i)) h c; show ¬ blk (B (sk B z p)) = true; rw [show blk (B (sk B z p)) = false from this]; decide)
  · exact scan_end (by omega)
/-- tokens from a token's own start -/
theorem tks_st {p : Nat} (h : p ≤ z) : (tk B z p).2.1 = sk B z p ∧ tks B z (sk B z p) = tks B z p := by
  have hq : sk B z p ≤ z := scan_le h
  constructor
  · unfold tk
    split
    · rfl
    · exact lx_st _ _ _
  · have e : tk B z (sk B z p) = tk B z p := by unfold tk; rw [sk_sk h]
    rw [tks_un hq, tks_un h, e]
theorem m_139t (hY : ∀ i, (m.2 4 i).toInt8.toInt32 = m.2 4 i) (M : MSx m B z d) : ∃ v m' d1 d', f139 m = some (v, m') ∧ FR IP AP m m' ∧ MSx m' B z d' ∧ xD (xReg B) d = some (pr v d1) ∧ xD (xExp 44) d1 = some d' ∧ ∀ r, d' = .inl r → ∃ p, p ≤ z ∧ r = tks B z p := by
  obtain ⟨v, m1, d1, a1, a2, a3, a4⟩ := m_140 hY M
  obtain ⟨m2, d2, b1, b2, b3, b4⟩ := m_141 (k := 44) (by decide) (by decide) (by decide) (by decide) (by decide) a3
  refine ⟨v, m2, d1, d2, ?_, FR_trans a2 b2, b3, a4, b4, ?_⟩
  · unfold f139
    rw [a1, Option.bind_some, show f141 m1 44 = some m2 from b1]
    rfl
  · intro r hr
    subst hr
    cases d1 with
    | inr p => cases b4
    | inl t1 =>
      obtain ⟨_, M1, M2, M3, M4⟩ := a3
      obtain ⟨t, r0, rfl, _⟩ := MC_20 M1
      have b4 : xExp 44 (t :: r0) = some (.inl r) := b4
      unfold xExp at b4
      simp only at b4
      split at b4
      · rename_i c
        split at b4
        · cases b4
        · rename_i hf
          have hr : r0 = r := Sum.inl.inj (Option.some.inj b4)
          subst hr
          obtain ⟨T, t', r', e0, e1, e2, e3, e4, e5, e6, e7, e8, e9, e10, e11, e12⟩ := M1
          obtain ⟨rfl, rfl⟩ := List.cons.inj e0
          obtain ⟨x1, x2⟩ := e10 (by omega) hf
          exact ⟨_, x2, x1⟩
      · cases b4
theorem MSx_38 (M : MSx m B z d) {x : Int32} (hx : bz x) : MSx (mg m 38 x) B z d := by
  have F : FR [38] [] m (mg m 38 x) := FR_g (FR_refl _ _ _) (by decide) _
  refine ⟨hx, ?_⟩
  have h := M.2
  cases d with
  | inl ts => exact ⟨MC_fr F h.1 (by decide) (by decide), h.2⟩
  | inr p => exact h
/-- the long load: eight bytes -/
theorem m_166 (C : MCX m B tl z tb ln base here ag P) (M : MSx m B z d) (hr : ag = true → sEnd P + 8 ≤ 65420) (o : Op) : ∃ m', f166 m o.1 o.2.2.2.1 = some m' ∧ FR IQ AQ m m' ∧ MSx m' B z d ∧ PSm m' ag P (sFar o) ∧ m'.1 37 = m.1 37 := by
  obtain ⟨k1, k2⟩ := tK
  have h19 := C.1.2.2.2.2.2.2.2
  have hb := C.2.2.2
  obtain ⟨m1, a1, a2, a3⟩ := m_pt (ag := ag) h19 C.2.2.1 (((f157 o.2.2.2.1 <<< ((12 : Int32) &&& 31)) ||| (o.1 <<< ((7 : Int32) &&& 31))) ||| 55) (w := 4) (by decide) (by show sEnd P + 0 + 4 ≤ _; omega) (fun h => by have := hr h; show sEnd P + 0 + 4 ≤ _; omega)
  have h19' : m1.1 19 = eb ag := by rw [a2.1 19 (by decide)]; exact h19
  rw [List.nil_append] at a3
  obtain ⟨m2, b1, b2, b3⟩ := m_pt (ag := ag) h19' a3 (f160 (f158 o.2.2.2.1) o.1 0 o.1 19) (w := 4) (by decide) (by rw [le_len]; omega) (fun h => by have := hr h; rw [le_len]; omega)
  refine ⟨m2, ?_, FR_trans (FR_mono a2 (by decide) (by decide)) (FR_mono b2 (by decide) (by decide)), MSx_fr b2 (by decide) (by decide) (MSx_fr a2 (by decide) (by decide) M), ?_, by rw [b2.1 37 (by decide), a2.1 37 (by decide)]⟩
  · unfold f166
    rw [show f144 m _ 4 = some m1 from a1, Option.bind_some, show f144 m1 _ 4 = some m2 from b1]
    rfl
  · have e1 : ((f157 o.2.2.2.1 <<< ((12 : Int32) &&& 31)) ||| (o.1 <<< ((7 : Int32) &&& 31))) ||| 55 = (sCod 48 ||| (o.1 <<< ((7 : Int32) &&& 31))) ||| ((f77 o.2.2.2.1) <<< ((12 : Int32) &&& 31)) := by
      rw [high_eq, k1]
      generalize f77 o.2.2.2.1 <<< ((12 : Int32) &&& 31) = g0
      generalize o.1 <<< ((7 : Int32) &&& 31) = g1
      generalize (55 : Int32) = g2
      ac_rfl
    have e2 : f160 (f158 o.2.2.2.1) o.1 0 o.1 19 = ((sCod 12 ||| (o.1 <<< ((7 : Int32) &&& 31))) ||| (o.1 <<< ((15 : Int32) &&& 31))) ||| ((f78 o.2.2.2.1) <<< ((20 : Int32) &&& 31)) := by
      unfold f160
      rw [low_eq, k2, show (0 : Int32) <<< ((12 : Int32) &&& 31) = 0 by decide, Int32.or_zero]
      generalize f78 o.2.2.2.1 <<< ((20 : Int32) &&& 31) = g0
      generalize o.1 <<< ((7 : Int32) &&& 31) = g1
      generalize o.1 <<< ((15 : Int32) &&& 31) = g2
      generalize (19 : Int32) = g3
      ac_rfl
    rw [e1, e2] at b3
    exact b3
/-- li: the room that its second time needs -/
def LIH (B : Nat → Nat) (tb : List Sy) (ln : Nat) (base here : Int32) (ts : List Tk) (off : Nat) : Prop := ∃ v tc t9 q, xReg B ts = some (.inl (v, tc)) ∧ xExp 44 tc = some (.inl t9) ∧ xX (B, tb.map (ez ln), ln, base, here, 1) true t9 = some (.inl q) ∧ (¬ isSh (0, 0, 0, q.1, q.2.1) = true → off + 8 ≤ 65420)
theorem AGR_ez (b : Int32) (h : Int32) (m1 m2 : Nat) : AGR (B, tb.map (ez ln), ln, b, h, m1) (B, tb, ln, b, h, m2) := by
  intro w
  show cBf (tb.map (ez ln)) ln (sfind B (tb.map (ez ln)) w) = cBf tb ln (sfind B tb w) ∧ (cBf (tb.map (ez ln)) ln (sfind B (tb.map (ez ln)) w) = true → sVal (tb.map (ez ln)) b (sfind B (tb.map (ez ln)) w) = sVal tb b (sfind B tb w))
  rw [ez_find, ez_bf]
  exact ⟨rfl, fun h => by rw [ez_val, if_pos h]⟩
/-- what is tried, as the spec has it -/
theorem tried_x {e' : Bool} {v : Int32} {r : List Tk} (h : xX (B, tb.map (ez ln), ln, base, here, 1) true ts = some (.inl (v, e', r))) : (ag = false → ∃ v', xX (B, tb, ln, base, here, if ag = true then 2 else 1) true ts = some (.inl (v', e', r)) ∧ (e' = true → v = v')) ∧ (ag = true → (e' = true → xX (B, tb, ln, base, here, if ag = true then 2 else 1) true ts = some (.inl (v, true, r))) ∧ ∀ v' e'' d', xX (B, tb, ln, base, here, if ag = true then 2 else 1) true ts = some (prx v' e'' d') → ∀ r', d' = .inl r' → e'' = e' ∧ r' = r ∧ (e' = true → v = v')) := by
  constructor
  · intro hag
    subst hag
    have R := rr_E (ag := True) (E1 := (B, tb.map (ez ln), ln, base, here, 1)) (E2 := (B, tb, ln, base, here, 1)) rfl rfl (Or.inl rfl) (fun _ => AGR_ez base here 1 1) 150 1 0 true true ts (fun _ => rfl)
    unfold xX at h
    rw [h] at R
    rcases R with ⟨q2, h1, h2⟩ | ⟨h1, _⟩
    · refine ⟨q2.1, ?_, fun he => (h2.2.1 trivial).2 he⟩
      show xE (B, tb, ln, base, here, 1) 150 1 0 true ts = _
      rw [h1]
      have e1 : r = q2.2.2 := h2.1
      have e2 : e' = q2.2.1 := (h2.2.1 trivial).1
      rw [e1, e2]
    · cases h1
  · intro hag
    subst hag
    constructor
    · intro he
      subst he
      exact ee_X (E1 := (B, tb.map (ez ln), ln, base, here, 1)) (E2 := (B, tb, ln, base, here, 2)) rfl rfl rfl (AGR_ez base here 1 2) h rfl
    · intro v' e'' d' h9 r' hr
      subst hr
      have R := rr_E (ag := True) (E1 := (B, tb.map (ez ln), ln, base, here, 1)) (E2 := (B, tb, ln, base, here, 2)) rfl rfl (Or.inr rfl) (fun _ => AGR_ez base here 1 2) 150 1 0 true true ts (fun _ => rfl)
      unfold xX at h h9
      rw [h] at R
      have h9 : xE (B, tb, ln, base, here, 2) 150 1 0 true ts = some (.inl (v', e'', r')) := h9
      rw [h9] at R
      rcases R with ⟨q2, h1, h2⟩ | ⟨h1, p, h2, _⟩
      · have h1 := Sum.inl.inj (Option.some.inj h1)
        subst h1
        exact ⟨(h2.2.1 trivial).1.symm, h2.1.symm, fun he => (h2.2.1 trivial).2 he⟩
      · cases h2
theorem isSh_at (a b c v : Int32) (e : Bool) : isSh (a, b, c, v, e) = true ↔ e = true ∧ ¬ v < -2048 ∧ ¬ (2047 : Int32) < v := by
  unfold isSh
  simp
end MX
