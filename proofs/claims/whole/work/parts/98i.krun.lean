/-! THE CLASS's pass is the spec's. -/
section KW
variable {B : Nat → Nat} {tl z : Nat}
theorem tks_mem : ∀ (n p : Nat), z - p = n → p ≤ z → ∀ t ∈ tks B z p, ∃ q, q ≤ z ∧ t = tk B z q := by
  intro n
  induction n using Nat.strongRecOn with
  | ind n ih =>
    intro p hn hp t ht
    rw [tks_un hp] at ht
    split at ht
    · exact ⟨p, hp, List.mem_singleton.mp ht⟩
    · rename_i h0
      split at ht
      · rename_i hf
        rcases List.mem_cons.mp ht with h | h
        · exact ⟨p, hp, h⟩
        · have hs := sk_le (B := B) hp
          have htk : tk B z p = lx B z (sk B z p) ∧ sk B z p < z := by
            unfold tk at h0 ⊢
            by_cases c : sk B z p = z ∨ gb B z (sk B z p) = 35
            · rw [if_pos c] at h0; exact absurd rfl h0
            · rw [if_neg c]
              exact ⟨rfl, Nat.lt_of_le_of_ne hs.2 (fun hh => c (Or.inl hh))⟩
          rw [htk.1] at hf h
          obtain ⟨x1, x2⟩ := lx_next htk.2 hf
          exact ih (z - (lx B z (sk B z p)).2.2.2.1) (by omega) _ rfl x2 t h
      · exact ⟨p, hp, List.mem_singleton.mp ht⟩
theorem lx_3 {p : Nat} (h : (lx B z p).1 = 3) : (lx B z p).2.2.1 = nn (strL B z (z - p) (p + 1)).length := by
  unfold lx at h ⊢
  by_cases c1 : isB (gb B z p) = true ∧ (¬ gb B z p = 46 ∨ isN (gb B z (p + 1)) = true)
  · rw [if_pos c1] at h; cases h
  rw [if_neg c1] at h ⊢
  by_cases c2 : isD (gb B z p) = true
  · rw [if_pos c2] at h
    split at h <;> cases h
  rw [if_neg c2] at h ⊢
  by_cases c3 : gb B z p = 39
  · rw [if_pos c3] at h; cases h
  rw [if_neg c3] at h ⊢
  by_cases c4 : gb B z p = 34
  · rw [if_pos c4]
  rw [if_neg c4] at h
  exfalso
  by_cases c5 : gb B z p = 60 ∨ gb B z p = 62
  · rw [if_pos c5] at h
    have h : gb B z p = 3 := h
    omega
  rw [if_neg c5] at h
  by_cases c6 : sgn (gb B z p) = true
  · rw [if_pos c6] at h
    have h : gb B z p = 3 := h
    rw [h] at c6; cases c6
  rw [if_neg c6] at h
  cases h
theorem tks_stk {p : Nat} (hp : p ≤ z) : STK B z (tks B z p) := by
  intro t ht h3
  obtain ⟨q, hq, rfl⟩ := tks_mem _ p rfl hp t ht
  unfold tk at h3 ⊢
  by_cases c : sk B z q = z ∨ gb B z (sk B z q) = 35
  · rw [if_pos c] at h3; cases h3
  · rw [if_neg c] at h3 ⊢
    rw [lx_3 h3, lx_st]
end KW
section KX
variable {s0 s : cS} {k tl tt dd : Nat} {B : Nat → Nat} {base : Int32} {ag : Bool} {Q : Ps}
/-- the class between lines, with its pass -/
def KG9 (s0 : cS) (k tl : Nat) (B : Nat → Nat) (ln a : Nat) (base : Int32) (ag : Bool) (tt dd : Nat) (P : Ps) (s : cS) : Prop := LG s0 k tl B P.1 ln a base s ∧ KPS s ag P ∧ s.1 16 9 = jI (entI B P.1) ∧ (ag = true → IMG s tt dd P.2.2.1 P.2.2.2)
theorem KP_9 (x : Int32) (R12 : (s.2.1 16 0 = 18 ∧ s.2.1 16 1 = 20) ∨ (s.2.1 16 0 = 20 ∧ s.2.1 16 1 = 18)) : KP s (cg s 11 9 x) := by
  have hf : ∀ i j, ¬ i = 11 → (cg s 11 9 x).1 i j = s.1 i j := fun i j h => by
    show (if j = 9 ∧ i = 11 then x else s.1 i j) = s.1 i j
    rw [if_neg (fun hh => h hh.2)]
  exact ⟨fun j => hf 0 j (by omega), fun j => hf _ j (by rcases R12 with h | h <;> omega), rfl, rfl, rfl, rfl, rfl, rfl, rfl, rfl, rfl, rfl⟩
theorem KG_9 {P : Ps} {ln a : Nat} (x : Int32) (G : KG9 s0 k tl B ln a base ag tt dd P s) : KG9 s0 k tl B ln a base ag tt dd P (cg s 11 9 x) := by
  obtain ⟨⟨L, Ls, Y, X, S, g2, g6, g7, g21, R, K, g10⟩, hK, h9, hI⟩ := G
  have F : CF [(11, 9)] s (cg s 11 9 x) := CF_g (CF_refl _ _) (by decide) _
  exact ⟨⟨L, Ls, Y, X, S, g2, g6, g7, g21, R, KP_trans K (KP_9 x R.2.2.2.2.2.2.2.2.2.2.2.1), g10⟩, hK, h9, fun h => by
    have I := hI h
    unfold IMG cA cl at I ⊢
    have hc : ∀ j, (cg s 11 9 x).1 (s.2.1 16 1) j = s.1 (s.2.1 16 1) j := by
      intro j
      refine F.1 _ _ (fun hh => ?_)
      have h1 := congrArg Prod.fst (List.mem_singleton.mp hh)
      simp only at h1
      rcases I.1 with q | q <;> omega
    have hc2 : (cg s 11 9 x).2 = s.2 := rfl
    rw [hc2, hc 1, hc 2, hc 0]
    exact I⟩
theorem k_run {F : Nat → cS → Int32 → Option ((Int32 × cS) ⊕ cS)} {EN : cS → Option ((Int32 × cS) ⊕ cS)} (hF : ∀ u s x, F (u + 1) s x = if (65536 : Int32) ≤ x then EN s else ((f22 s).bind fun r1 => if r1.1 = 0 then EN r1.2 else (tq (f42 r1.2) fun r2 => F u r2 (x + 1)))) (hB : ∀ i, B i < 256) (h8 : s0.1 11 8 = nn tl) (htl : tl ≤ 12000) (htd : tt = Q.2.2.1.length ∧ dd = Q.2.2.2.length) : ∀ (n a ln : Nat) (P : Ps) (s : cS) (u turn : Nat), tl - a < n → n ≤ u → KG9 s0 k tl B ln a base ag tt dd P s → (ag = false → base = 0 ∧ P.1.length ≤ a ∧ P.2.2.1.length + P.2.2.2.length ≤ 65420) → (ag = true → FST B tl n a ln P Q ∧ P.1.length ≤ 12002) → ln ≤ a → a ≤ tl + 1 → turn ≤ a → match xRun B tl ag base n a ln P with
    | none => True
    | some (.inl P') => ∃ s' ln' a', F u s (nn turn) = EN s' ∧ KG9 s0 k tl B ln' a' base ag tt dd P' s'
    | some (.inr e) => ∃ s', F u s (nn turn) = some (.inr (f46 s' (nn e.2.2.1) (nn e.2.2.2))) ∧ DL s0 k e.1 e.2.1 s' := by
  intro n
  induction n with
  | zero => intro a ln P s u turn h; omega
  | succ n ih =>
    intro a ln P s u turn hn hu G h1 h2 hln ha htu
    have eu : u = (u - 1) + 1 := by omega
    rw [eu, hF, show (65536 : Int32) = nn 65536 from rfl, nn_le2 (by omega) (by omega), if_neg (by omega), xRun]
    obtain ⟨GL, hK, h9, hI⟩ := G
    have hs8 : s.1 11 8 = nn tl := by
      obtain ⟨L, Ls, Y, X, S, g2, g6, g7, g21, R, K, g10⟩ := GL
      exact K.2.2.2.2.2.2.2.2.1.trans h8
    have hs10 : s.1 11 10 + 1 = nn a := by
      obtain ⟨L, Ls, Y, X, S, g2, g6, g7, g21, R, K, g10⟩ := GL
      exact g10
    by_cases c : tl ≤ a
    · rw [if_pos c]
      refine ⟨cg s 11 9 (nn a), ln, a, ?_, KG_9 (nn a) ⟨GL, hK, h9, hI⟩⟩
      have e22 : f22 s = some (0, cg s 11 9 (nn a)) := by
        unfold f22
        rw [hs10, hs8, if_neg (fun h => by have := (nn_lt (by omega) (by omega)).mp h; omega)]
      rw [e22]
      rfl
    · rw [if_neg c]
      obtain ⟨s1, L1, Ls1, e1, f22e, hL, U, N⟩ := k_next hB h8 htl (by omega) GL (by omega)
      obtain ⟨z1, z2⟩ := zl_le (B := B) (show a ≤ tl by omega)
      have hlen := tks_len (B := B) _ a rfl z1
      have hR : ∃ L0 Ls0, RSX s k L0 Ls0 := by
        obtain ⟨L, Ls, Y, X, S, g2, g6, g7, g21, R, K, g10⟩ := GL
        exact ⟨L, Ls, R⟩
      obtain ⟨L0, Ls0, R0⟩ := hR
      rw [f22e, Option.bind_some]
      have hK1 : KPS s1 ag P := KPS_of (fun j _ _ => N.1 16 j (by unfold INX; simp)) hK
      have h91 : s1.1 16 9 = jI (entI B P.1) := (N.1 16 9 (by decide)).trans h9
      have hI1 : ag = true → IMG s1 tt dd P.2.2.1 P.2.2.2 := fun h => IMG_nx R0 N (hI h)
      have hRM : LRM2 B (zl B tl a) ag base (ln + 1) (tks B (zl B tl a) a) P tt dd := by
        intro hg t r tb' j x1 x2 ht0
        obtain ⟨k1, k2, k3, k4, k5, k6⟩ := fst_line (base := base) (h2 hg).1 c
        rw [hg] at x1
        have htb := xLab_ag _ _ P.1 _ (Nat.le_refl _) x1
        have htb : tb' = P.1 := htb
        rw [htb] at x1
        obtain ⟨P1, j1, j2, j3, j4, j5⟩ := (h2 hg).1
        have W := k1 t r j x1 x2 ht0
        rw [htb]
        rw [htd.1, htd.2]
        exact WIT_srm (P2 := P) (by rw [j4]; exact j5) W
      have H := k_line (tks_stk z1) hL hK1 h91 hI1 U (fun hg => by have := (h2 hg).2; omega) (by
        by_cases hg : ag = true
        · rw [if_pos hg]; have := (h2 hg).2; omega
        · rw [if_neg hg]
          have hg : ag = false := by cases h : ag with
            | false => rfl
            | true => exact absurd h hg
          have := (h1 hg).2.1
          omega) hRM
      show match (match xLine B (zl B tl a) ag base (ln + 1) (tks B (zl B tl a) a) P with
        | none => none
        | some (.inl P') => xRun B tl ag base n (zl B tl a + 1) (ln + 1) P'
        | some (.inr p) => some (.inr (ln + 1, a, p.1, p.2))) with
        | none => True
        | some (.inl P') => ∃ s' ln' a', (if (1 : Int32) = 0 then EN s1 else (tq (f42 s1) fun r2 => F (u - 1) r2 (nn turn + 1))) = EN s' ∧ KG9 s0 k tl B ln' a' base ag tt dd P' s'
        | some (.inr e) => ∃ s', (if (1 : Int32) = 0 then EN s1 else (tq (f42 s1) fun r2 => F (u - 1) r2 (nn turn + 1))) = some (.inr (f46 s' (nn e.2.2.1) (nn e.2.2.2))) ∧ DL s0 k e.1 e.2.1 s'
      rw [if_neg (show ¬ (1 : Int32) = 0 by decide)]
      cases hx : xLine B (zl B tl a) ag base (ln + 1) (tks B (zl B tl a) a) P with
      | none => exact trivial
      | some y =>
        rw [hx] at H
        cases y with
        | inr p =>
          obtain ⟨s', x1, x2⟩ := H
          exact ⟨s', by rw [x1]; rfl, x2⟩
        | inl P' =>
          obtain ⟨s2, x1, ⟨Ls2, L2⟩, x3, x4, x5⟩ := H
          have G2 : KG9 s0 k tl B (ln + 1) (zl B tl a + 1) base ag tt dd P' s2 := by
            obtain ⟨l1, l2, l3, l4, l5, l6, l7, l8, l9, l10, l11, l12, l13, R, K⟩ := L2
            exact ⟨⟨L1, Ls2, l3, l4, l6, l7, l8, l12, l13, R, K, by rw [l2.2.1, nn_add1]⟩, x3, x4, x5⟩
          have w1 : ag = false → base = 0 ∧ P'.1.length ≤ zl B tl a + 1 ∧ P'.2.2.1.length + P'.2.2.2.length ≤ 65420 := by
            intro hg
            obtain ⟨g0, g1, g2⟩ := h1 hg
            rw [hg, g0] at hx
            obtain ⟨_, _, _, _, i5, i6⟩ := line_grow hx g2
            exact ⟨g0, by omega, i5⟩
          have w2 : ag = true → FST B tl n (zl B tl a + 1) (ln + 1) P' Q ∧ P'.1.length ≤ 12002 := by
            intro hg
            rw [hg] at hx
            have KK := (fst_line (base := base) (h2 hg).1 c).2.2.2.2.2 P' hx
            refine ⟨KK, ?_⟩
            obtain ⟨P1, k1, k2, k3, k4, k5⟩ := KK
            obtain ⟨P0, j1, j2, j3, j4, j5⟩ := (h2 hg).1
            rw [k4, ← j4]
            exact (h2 hg).2
          have I := ih (zl B tl a + 1) (ln + 1) P' s2 (u - 1) (turn + 1) (by omega) (by omega) G2 w1 w2 (by omega) (by omega) (by omega)
          show match xRun B tl ag base n (zl B tl a + 1) (ln + 1) P' with
            | none => True
            | some (.inl P') => ∃ s' ln' a', (tq (f42 s1) fun r2 => F (u - 1) r2 (nn turn + 1)) = EN s' ∧ KG9 s0 k tl B ln' a' base ag tt dd P' s'
            | some (.inr e) => ∃ s', (tq (f42 s1) fun r2 => F (u - 1) r2 (nn turn + 1)) = some (.inr (f46 s' (nn e.2.2.1) (nn e.2.2.2))) ∧ DL s0 k e.1 e.2.1 s'
          rw [x1, tb_l, nn_add1]
          exact I
end KX
