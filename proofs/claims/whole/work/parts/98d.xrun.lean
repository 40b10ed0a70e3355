/-! A PASS over the text. -/
/-- a line's end -/
def zl (B : Nat → Nat) (tl a : Nat) : Nat := scan (fun i => decide (¬ B i = 10)) tl a
def xRun (B : Nat → Nat) (tl : Nat) (ag : Bool) (base : Int32) : Nat → Nat → Nat → Ps → Option (Ps ⊕ (Nat × Nat × Nat × Nat))
  | 0, _, _, _ => none
  | u + 1, a, ln, P => if tl ≤ a then some (.inl P) else match xLine B (zl B tl a) ag base (ln + 1) (tks B (zl B tl a) a) P with
    | none => none
    | some (.inl P') => xRun B tl ag base u (zl B tl a + 1) (ln + 1) P'
    | some (.inr p) => some (.inr (ln + 1, a, p.1, p.2))
section XU
variable {B : Nat → Nat} {tl z ln : Nat}
theorem tks_len : ∀ (n p : Nat), z - p = n → p ≤ z → (tks B z p).length ≤ z - p + 1 := by
  intro n
  induction n using Nat.strongRecOn with
  | ind n ih =>
    intro p hn hp
    rw [tks_un hp]
    split
    · exact Nat.le_add_left _ _
    · rename_i h0
      split
      · rename_i hf
        have hs := sk_le (B := B) hp
        have htk : tk B z p = lx B z (sk B z p) ∧ sk B z p < z := by
          unfold tk at h0 ⊢
          by_cases c : sk B z p = z ∨ gb B z (sk B z p) = 35
          · rw [if_pos c] at h0; exact absurd rfl h0
          · rw [if_neg c]
            exact ⟨rfl, Nat.lt_of_le_of_ne hs.2 (fun hh => c (Or.inl hh))⟩
        rw [htk.1] at hf ⊢
        obtain ⟨x1, x2⟩ := lx_next htk.2 hf
        have h9 := ih (z - (lx B z (sk B z p)).2.2.2.1) (by omega) _ rfl x2
        rw [List.length_cons]
        omega
      · exact Nat.le_add_left _ _
theorem zl_le {a : Nat} (h : a ≤ tl) : a ≤ zl B tl a ∧ zl B tl a ≤ tl := ⟨scan_ge _ _ _, scan_le h⟩
theorem EXT_weak {t1 t2 : List Sy} {l l2 : Nat} (h : EXT t1 t2 l2) (hl : l ≤ l2) : EXT t1 t2 l := by
  obtain ⟨r, e, a⟩ := h
  exact ⟨r, e, fun s hs => Nat.le_trans hl (a s hs)⟩
theorem WIT_mono {j off t1 t2 : Nat} {r : List Tk} {tb : List Sy} (h : t1 ≤ t2) (W : WIT B z ln tb j r off t1) : WIT B z ln tb j r off t2 := by
  obtain ⟨a, b, c, w1, w2, w3, w4, w5⟩ := W
  exact ⟨a, b, c, w1, w2, w3, by omega, w5⟩
theorem run_mono : ∀ (u a ln : Nat) (P Q : Ps), xRun B tl false 0 u a ln P = some (.inl Q) → P.2.2.1.length + P.2.2.2.length ≤ 65420 → EXT P.1 Q.1 (ln + 1) ∧ P.2.2.1.length ≤ Q.2.2.1.length ∧ P.2.2.2.length ≤ Q.2.2.2.length ∧ Q.2.2.1.length + Q.2.2.2.length ≤ 65420 := by
  intro u
  induction u with
  | zero => intro a ln P Q h; cases h
  | succ u ih =>
    intro a ln P Q h ht
    rw [xRun] at h
    by_cases c : tl ≤ a
    · rw [if_pos c] at h
      have := Sum.inl.inj (Option.some.inj h)
      subst this
      exact ⟨⟨[], by rw [List.append_nil], fun s hs => by cases hs⟩, Nat.le_refl _, Nat.le_refl _, ht⟩
    · rw [if_neg c] at h
      cases hx : xLine B (zl B tl a) false 0 (ln + 1) (tks B (zl B tl a) a) P with
      | none => rw [hx] at h; cases h
      | some y =>
        rw [hx] at h
        cases y with
        | inr p => cases h
        | inl P' =>
          obtain ⟨g1, g2, g3, g4, g5, g6⟩ := line_grow hx ht
          obtain ⟨i1, i2, i3, i4⟩ := ih _ _ _ _ h g5
          exact ⟨EXT_trans (by omega) g1 i1, by omega, by omega, i4⟩
/-- what the first pass, which went well, tells of the second -/
def FST (B : Nat → Nat) (tl : Nat) (u a ln : Nat) (P Q : Ps) : Prop := ∃ P1, PEQ P1 P ∧ xRun B tl false 0 u a ln P1 = some (.inl Q) ∧ P1.2.2.1.length + P1.2.2.2.length ≤ 65420 ∧ P.1 = Q.1 ∧ SDN B Q.1
theorem fst_line {u a ln : Nat} {P Q : Ps} {base : Int32} (h : FST B tl (u + 1) a ln P Q) (ha : ¬ tl ≤ a) : (∀ t r j, xLab B true P.2.1 (nn (sEnd P)) (ln + 1) (tks B (zl B tl a) a) P.1 = .inl (t :: r, P.1) → stOf (tname B t) = some j → ¬ t.1 = 0 → WIT B (zl B tl a) (ln + 1) P.1 j r (sEnd P) (if P.2.1 = 0 then Q.2.2.1.length else Q.2.2.2.length)) ∧ (∃ l, xLab B true P.2.1 (nn (sEnd P)) (ln + 1) (tks B (zl B tl a) a) P.1 = .inl (l, P.1)) ∧ P.2.2.1.length ≤ Q.2.2.1.length ∧ P.2.2.2.length ≤ Q.2.2.2.length ∧ Q.2.2.1.length + Q.2.2.2.length ≤ 65420 ∧ ∀ P2', xLine B (zl B tl a) true base (ln + 1) (tks B (zl B tl a) a) P = some (.inl P2') → FST B tl u (zl B tl a + 1) (ln + 1) P2' Q := by
  obtain ⟨P1, h1, h2, h3, h4, h5⟩ := h
  have hm0 := run_mono _ _ _ _ _ h2 h3
  rw [xRun, if_neg ha] at h2
  cases hx : xLine B (zl B tl a) false 0 (ln + 1) (tks B (zl B tl a) a) P1 with
  | none => rw [hx] at h2; cases h2
  | some y =>
    rw [hx] at h2
    cases y with
    | inr p => cases h2
    | inl P1' =>
      obtain ⟨g1, g2, g3, g4, g5, g6⟩ := line_grow hx h3
      have h2 : xRun B tl false 0 u (zl B tl a + 1) (ln + 1) P1' = some (.inl Q) := h2
      obtain ⟨i1, i2, i3, i4⟩ := run_mono _ _ _ _ _ h2 g5
      obtain ⟨k1, k2, k3⟩ := line_2 (P2 := P) (base := base) hx (by rw [h4]; exact EXT_weak i1 (by omega)) (by rw [h4]; exact h5) h1 i2 i3
      refine ⟨k1, k2, by rw [← h1.2.1]; exact hm0.2.1, by rw [← h1.2.2]; exact hm0.2.2.1, i4, fun P2' h9 => ?_⟩
      obtain ⟨e1, e2⟩ := k3 P2' h9
      exact ⟨P1', e1, h2, g5, e2.trans h4, h5⟩
end XU
