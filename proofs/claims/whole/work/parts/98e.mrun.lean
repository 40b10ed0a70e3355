/-! THE REFERENCE's pass is the spec's. -/
section XW
variable {B : Nat → Nat} {tl : Nat}
theorem run_len : ∀ (u a ln : Nat) (P Q : Ps), xRun B tl false 0 u a ln P = some (.inl Q) → P.2.2.1.length + P.2.2.2.length ≤ 65420 → P.1.length ≤ a → a ≤ tl + 1 → Q.1.length ≤ tl + 1 := by
  intro u
  induction u with
  | zero => intro a ln P Q h; cases h
  | succ u ih =>
    intro a ln P Q h ht hl ha
    rw [xRun] at h
    by_cases c : tl ≤ a
    · rw [if_pos c] at h
      have := Sum.inl.inj (Option.some.inj h)
      subst this
      omega
    · rw [if_neg c] at h
      cases hx : xLine B (zl B tl a) false 0 (ln + 1) (tks B (zl B tl a) a) P with
      | none => rw [hx] at h; cases h
      | some y =>
        rw [hx] at h
        cases y with
        | inr p => cases h
        | inl P' =>
          obtain ⟨g1, g2, g3, g4, g5, g6⟩ := line_grow hx ht
          obtain ⟨z1, z2⟩ := zl_le (B := B) (show a ≤ tl by omega)
          have := tks_len (B := B) _ a rfl z1
          exact ih _ _ _ _ h g5 (by omega) (by omega)
theorem run_two {base : Int32} : ∀ (u a ln : Nat) (P Q P' : Ps), FST B tl u a ln P Q → xRun B tl true base u a ln P = some (.inl P') → PEQ Q P' ∧ P'.1 = Q.1 := by
  intro u
  induction u with
  | zero => intro a ln P Q P' _ h; cases h
  | succ u ih =>
    intro a ln P Q P' hF h
    rw [xRun] at h
    by_cases c : tl ≤ a
    · rw [if_pos c] at h
      have := Sum.inl.inj (Option.some.inj h)
      subst this
      obtain ⟨P1, h1, h2, h3, h4, h5⟩ := hF
      rw [xRun, if_pos c] at h2
      have := Sum.inl.inj (Option.some.inj h2)
      subst this
      exact ⟨h1, h4⟩
    · rw [if_neg c] at h
      cases hx : xLine B (zl B tl a) true base (ln + 1) (tks B (zl B tl a) a) P with
      | none => rw [hx] at h; cases h
      | some y =>
        rw [hx] at h
        cases y with
        | inr p => cases h
        | inl P2' => exact ih _ _ _ _ _ ((fst_line (base := base) hF c).2.2.2.2.2 P2' hx) h
end XW
def IR : List Nat := 15 :: 16 :: 17 :: 33 :: IZ
/-- a pass of the reference between lines -/
def RM (m : mS) (B : Nat → Nat) (tl ln : Nat) (base : Int32) (ag : Bool) (P : Ps) : Prop := MXT m B tl ∧ SYMm m B tl P.1 ∧ SDN B P.1 ∧ m.1 15 = nn ln ∧ m.1 34 = base ∧ m.1 19 = eb ag ∧ m.1 14 = nn tl ∧ PSm m ag P [] ∧ m.1 11 = 0 ∧ bz (m.1 38)
/-- an error stands -/
def RE (m : mS) (e : Nat × Nat × Nat × Nat) : Prop := m.1 11 = nn e.2.2.2 ∧ 0 < e.2.2.2 ∧ e.2.2.2 < 100 ∧ m.1 12 = nn e.2.2.1 - nn e.2.1 ∧ m.1 13 = nn e.1 ∧ bz (m.1 38)
section MR
variable {m : mS} {B : Nat → Nat} {tl : Nat} {base : Int32} {ag : Bool} {Q : Ps}
theorem raw10 (X : MXT m B tl) {i : Nat} (hi : i < tl) : m.2 4 i = 10 ↔ B i = 10 := by
  have e := X.2.1 i hi
  constructor
  · intro h
    rw [← e, h]
    decide
  · intro h
    have := byte_nn (X.2.2.1 i) (by rw [e, h]; decide)
    rw [e, h] at this
    exact this
theorem lp_56 (q : mS → Int32 → Option mS) (X : MXT m B tl) (h14 : m.1 14 = nn tl) : ∀ (n p u : Nat), tl - p = n → p ≤ tl → n < u → f114_56 q u m (nn p) = f114_81 q m (nn (zl B tl p)) := by
  have ht := X.1
  intro n
  induction n with
  | zero =>
    intro p u hn hp hu
    have eu : u = (u - 1) + 1 := by omega
    have ep : p = tl := by omega
    have ez : zl B tl p = p := by unfold zl; exact scan_end (by omega)
    rw [eu, f114_56, h14, if_pos ((nn_le (by omega) (by omega)).mpr (by omega)), ez]
  | succ n ih =>
    intro p u hn hp hu
    have eu : u = (u - 1) + 1 := by omega
    rw [eu, f114_56, h14, if_neg (fun h => by have := (nn_le (by omega) (by omega)).mp h; omega), if_pos ((nn_ib (by omega)).mpr (by omega)), nn_tn (by omega)]
    by_cases c : m.2 4 p = 10
    · have ez : zl B tl p = p := by
        unfold zl
        exact scan_no (by have := (raw10 X (show p < tl by omega)).mp c; simp [this])
      rw [if_pos c, ez]
    · have ez : zl B tl p = zl B tl (p + 1) := by
        unfold zl
        exact scan_go (by omega) (by have : ¬ B p = 10 := fun h => c ((raw10 X (show p < tl by omega)).mpr h); simp [this])
      rw [if_neg c, nn_add1, ez]
      exact ih (p + 1) (u - 1) (by omega) (by omega) (by omega)
theorem m_run (htl : tl ≤ 12000) (hbase : ∃ k, base = nn (4 * k) ∧ k ≤ 100000) : ∀ (n a ln : Nat) (P : Ps) (m : mS) (u : Nat), tl - a < n → n ≤ u → RM m B tl ln base ag P → (ag = false → base = 0 ∧ P.1.length ≤ a ∧ P.2.2.1.length + P.2.2.2.length ≤ 65420) → (ag = true → FST B tl n a ln P Q ∧ P.1.length ≤ 12002) → ln ≤ a → a ≤ tl + 1 → ∃ m', f114_26 u m (nn a) = some m' ∧ FR IR AQ9 m m' ∧ match xRun B tl ag base n a ln P with
    | none => False
    | some (.inl P') => ∃ ln', RM m' B tl ln' base ag P'
    | some (.inr e) => RE m' e := by
  intro n
  induction n with
  | zero => intro a ln P m u h; omega
  | succ n ih =>
    intro a ln P m u hn hu R h1 h2 hln ha
    obtain ⟨X, S, D, r15, r34, r19, r14, PS, r11, r38⟩ := R
    have eu : u = (u - 1) + 1 := by omega
    rw [eu, f114_26, xRun, r14, nn_le2 (by omega) (by omega)]
    by_cases c : tl ≤ a
    · rw [if_pos c, if_pos c]
      exact ⟨m, rfl, FR_refl _ _ _, ln, X, S, D, r15, r34, r19, r14, PS, r11, r38⟩
    · rw [if_neg c, if_neg c, if_pos r11, r15, nn_add1]
      obtain ⟨z1, z2⟩ := zl_le (B := B) (show a ≤ tl by omega)
      have hlen := tks_len (B := B) _ a rfl z1
      have F1 : FR [15, 16] [] m (mg (mg m 15 (nn (ln + 1))) 16 (nn a)) := FR_g (FR_g (FR_refl _ _ _) (by decide) _) (by decide) _
      have X1 : MXT (mg (mg m 15 (nn (ln + 1))) 16 (nn a)) B tl := X
      rw [lp_56 (m := mg (mg m 15 (nn (ln + 1))) 16 (nn a)) (f114_26 (u - 1)) X1 r14 _ a mm_U rfl (by omega) (by show _ < 200000; omega)]
      unfold f114_81
      generalize hz : zl B tl a = z at z1 z2 hlen
      have F2 : FR [15, 16, 17, 18] [] m (mg (mg (mg (mg m 15 (nn (ln + 1))) 16 (nn a)) 17 (nn z)) 18 (nn a)) := FR_g (FR_g (FR_mono F1 (by decide) (by decide)) (by decide) _) (by decide) _
      show ∃ m', ((f115 (mg (mg (mg (mg m 15 (nn (ln + 1))) 16 (nn a)) 17 (nn z)) 18 (nn a))).bind fun r1 => f114_26 (u - 1) r1 (nn z + 1)) = some m' ∧ _
      generalize hm2 : mg (mg (mg (mg m 15 (nn (ln + 1))) 16 (nn a)) 17 (nn z)) 18 (nn a) = m2 at F2
      have e15 : m2.1 15 = nn (ln + 1) := by rw [← hm2]; rfl
      have e16 : m2.1 16 = nn a := by rw [← hm2]; rfl
      have e17 : m2.1 17 = nn z := by rw [← hm2]; rfl
      have e18 : m2.1 18 = nn a := by rw [← hm2]; rfl
      have T2 : TX m2 B z := ⟨e17, by omega, X.2.2.2, fun i hi => by rw [F2.2 4 (by decide)]; exact X.2.1 i (by omega)⟩
      have S2 : SCm m2 B tl z P.1 (ln + 1) base ag := ⟨MXT_fr F2 (by decide) X, SYMm_fr F2 (by decide) (by decide) S, D, by omega, e15, by omega, by rw [F2.1 34 (by decide)]; exact r34, by rw [F2.1 19 (by decide)]; exact r19⟩
      have PS2 := PSm_fr F2 (by decide) (by decide) (by decide) PS
      have htot : P.2.2.1.length + P.2.2.2.length ≤ 65420 := by
        cases hg : ag with
        | false => exact (h1 hg).2.2
        | true =>
          obtain ⟨_, _, k1, k2, k3, _⟩ := fst_line (base := base) (h2 hg).1 c
          omega
      have hP : P.1.length ≤ 12002 := by
        cases hg : ag with
        | false => have := (h1 hg).2.1; omega
        | true => exact (h2 hg).2
      have hq : ag = true → Q.2.2.1.length + Q.2.2.2.length ≤ 65420 := fun hg => (fst_line (base := base) (h2 hg).1 c).2.2.2.2.1
      obtain ⟨m3, b1, b2, b3⟩ := m_line (m := m2) (a := a) hbase S2 PS2 (by rw [F2.1 11 (by decide)]; exact r11) (by rw [F2.1 38 (by decide)]; exact r38) T2 e18 z1 (by omega) htot (by
          by_cases hg : ag = true
          · rw [if_pos hg]; omega
          · rw [if_neg hg]
            have hg : ag = false := by cases h : ag with
              | false => rfl
              | true => exact absurd h hg
            have := (h1 hg).2.1
            omega) (by omega) (fun hg t r j x1 x2 x3 => by
          have K := (fst_line (base := base) (h2 hg).1 c).1
          rw [hz] at K
          exact WIT_mono (by have := hq hg; split <;> omega) (K t r j x1 x2 x3)) (fun hg => by
          have K := (fst_line (base := base) (h2 hg).1 c).2.1
          rw [hz] at K
          exact K)
      have F3 : FR IR AQ9 m m3 := FR_trans (FR_mono F2 (by decide) (by decide)) (FR_mono b2 (by decide) (fun _ h => h))
      rw [b1, Option.bind_some, nn_add1]
      have hk : ∀ P2', xLine B z ag base (ln + 1) (tks B z a) P = some (.inl P2') → (ag = false → base = 0 ∧ P2'.1.length ≤ z + 1 ∧ P2'.2.2.1.length + P2'.2.2.2.length ≤ 65420) ∧ (ag = true → FST B tl n (z + 1) (ln + 1) P2' Q ∧ P2'.1.length ≤ 12002) := by
        intro P2' hx
        constructor
        · intro hg
          obtain ⟨g0, g1, g2⟩ := h1 hg
          rw [hg, g0] at hx
          obtain ⟨_, _, _, _, i5, i6⟩ := line_grow hx g2
          exact ⟨g0, by omega, i5⟩
        · intro hg
          have K := (fst_line (base := base) (h2 hg).1 c).2.2.2.2.2
          rw [hz] at K
          rw [hg] at hx
          have K := K P2' hx
          refine ⟨K, ?_⟩
          obtain ⟨P1, k1, k2, k3, k4, k5⟩ := K
          obtain ⟨P0, j1, j2, j3, j4, j5⟩ := (h2 hg).1
          rw [k4, ← j4]
          exact (h2 hg).2
      cases hx : xLine B z ag base (ln + 1) (tks B z a) P with
      | none => rw [hx] at b3; exact b3.elim
      | some y =>
        rw [hx] at b3
        cases y with
        | inr p =>
          obtain ⟨k0, k1, k2, k3, k4, k5⟩ := b3
          have hne : ¬ m3.1 11 = 0 := MSx_ne (B := B) (z := z) ⟨k0, k1, k2, k3, k4, k5⟩
          refine ⟨m3, ?_, F3, ?_⟩
          · rw [show u - 1 = (u - 2) + 1 by omega, f114_26, if_neg hne]
            split <;> rfl
          · refine ⟨k1, k2, k3, ?_, ?_, k0⟩
            · rw [k4, b2.1 16 (by decide), e16]
            · rw [k5, b2.1 15 (by decide), e15]
        | inl P2' =>
          obtain ⟨S3, PS3, n11, n38⟩ := b3
          obtain ⟨w1, w2⟩ := hk P2' hx
          have R3 : RM m3 B tl (ln + 1) base ag P2' := ⟨S3.1, S3.2.1, S3.2.2.1, S3.2.2.2.2.1, S3.2.2.2.2.2.2.1, S3.2.2.2.2.2.2.2, by rw [F3.1 14 (by decide)]; exact r14, PS3, n11, n38⟩
          obtain ⟨m', x1, x2, x3⟩ := ih (z + 1) (ln + 1) P2' m3 (u - 1) (by omega) (by omega) R3 w1 w2 (by omega) (by omega)
          exact ⟨m', x1, FR_trans F3 x2, x3⟩
end MR
