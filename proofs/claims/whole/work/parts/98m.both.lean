/-! BOTH PASSES of both programs. -/
section BP
variable {B : Nat → Nat} {tl : Nat}
/-- the reference's state as a pass starts -/
def ms0 (m : mS) : mS := mg (mb (mb (mg m 32 0) 35 0 0) 35 1 0) 15 0
theorem f114_eq (m : mS) : f114 m = f114_26 mm_U (ms0 m) 0 := by
  unfold f114
  rw [if_pos (show ib (0 : Int32) 2 by decide), if_pos (show ib (1 : Int32) 2 by decide)]
  rfl
theorem ms0_35 (m : mS) : (ms0 m).2 35 0 = 0 ∧ (ms0 m).2 35 1 = 0 := ⟨rfl, rfl⟩
theorem ms0_o (m : mS) {k : Nat} (h : ¬ k = 35) : (ms0 m).2 k = m.2 k := by
  have F : FR [32, 15] [35] m (ms0 m) := FR_g (FR_b (FR_b (FR_g (FR_refl _ _ _) (by decide) _) (by decide) _ _) (by decide) _ _) (by decide) _
  exact F.2 k (by simpa using h)
theorem ms0_i (m : mS) {k : Nat} (h : ¬ k = 32) (h2 : ¬ k = 15) : (ms0 m).1 k = m.1 k := by
  have F : FR [32, 15] [35] m (ms0 m) := FR_g (FR_b (FR_b (FR_g (FR_refl _ _ _) (by decide) _) (by decide) _ _) (by decide) _ _) (by decide) _
  exact F.1 k (by simp [h, h2])
/-- a pass of the reference begins -/
theorem RM_0 {m : mS} {ag : Bool} {base : Int32} {tb : List Sy} (X : MXT m B tl) (S : SYMm m B tl tb) (D : SDN B tb) (h34 : m.1 34 = base) (h19 : m.1 19 = eb ag) (h14 : m.1 14 = nn tl) (h11 : m.1 11 = 0) (h38 : bz (m.1 38)) : RM (ms0 m) B tl 0 base ag (tb, 0, [], []) := by
  refine ⟨?_, ?_, D, rfl, (ms0_i m (by decide) (by decide)).trans h34, (ms0_i m (by decide) (by decide)).trans h19, (ms0_i m (by decide) (by decide)).trans h14, ⟨rfl, Nat.zero_le _, (ms0_35 m).1, (ms0_35 m).2, Nat.zero_le _, Nat.zero_le _, fun _ => ⟨Nat.zero_le _, Nat.zero_le _, fun i h => absurd h (Nat.not_lt_zero _), fun i h => absurd h (Nat.not_lt_zero _)⟩⟩, (ms0_i m (by decide) (by decide)).trans h11, by rw [ms0_i m (by decide) (by decide)]; exact h38⟩
  · unfold MXT
    rw [ms0_o m (by decide)]
    exact X
  · unfold SYMm
    rw [ms0_o m (by decide), ms0_o m (by decide), ms0_o m (by decide), ms0_o m (by decide), ms0_o m (by decide), ms0_i m (by decide) (by decide)]
    exact S
/-- the reference's state as it starts to assemble -/
def ms1 (m : mS) : mS := mg (mg (mg (mg (mg (mg m 14 (m.1 5)) 5 0) 11 0) 26 0) 19 0) 34 0
def ms2 (m : mS) (x : Int32) : mS := mg (mg m 34 x) 19 1
theorem f113_eq (m : mS) : f113 m = (f114 (ms1 m)).bind fun r1 => if r1.1 11 = 0 then (f114 (ms2 r1 ((r1.2 35 0 + 4095) / 4096 * 4096))).bind fun r2 => f113_75 r2 else f113_75 (ms2 r1 ((r1.2 35 0 + 4095) / 4096 * 4096)) := rfl
def I13 : List Nat := 14 :: 19 :: 34 :: IR
theorem FR_ms1 (m : mS) : FR I13 AQ9 (mg m 5 0) (ms1 m) := by
  have e : ms1 m = mg (mg (mg (mg (mg (mg m 5 0) 14 (m.1 5)) 11 0) 26 0) 19 0) 34 0 := by
    unfold ms1 mg
    refine Prod.ext ?_ rfl
    funext k
    unfold upd
    simp only
    by_cases c1 : k = 5
    · subst c1; rfl
    · rw [if_neg c1, if_neg c1]
  rw [e]
  exact FR_g (FR_g (FR_g (FR_g (FR_g (FR_refl _ _ _) (by decide) _) (by decide) _) (by decide) _) (by decide) _) (by decide) _
theorem FR_ms0 (m : mS) : FR I13 AQ9 m (ms0 m) := FR_g (FR_b (FR_b (FR_g (FR_refl _ _ _) (by decide) _) (by decide) _ _) (by decide) _ _) (by decide) _
theorem FR_ms2 (m : mS) (x : Int32) : FR I13 AQ9 m (ms2 m x) := FR_g (FR_g (FR_refl _ _ _) (by decide) _) (by decide) _
theorem k_both {c : cS} {m : mS} {k L Ls : Nat} (R : RSX c k L Ls) (T : TAP c B tl) (X : MXT m B tl) (h5 : m.1 5 = nn tl) (h38 : bz (m.1 38)) (htl : tl ≤ 12000) : ∃ s, (s.1 0 1 = 0 ∧ s.1 11 0 = 0 ∧ s.1 11 1 = 0 ∧ s.1 11 2 = 0 ∧ (∀ i j, ¬ (i, j) ∈ IS0 → s.1 i j = c.1 i j) ∧ (∀ p q, ¬ (p, q) = (11, 7) → ¬ (p, q) = (2, 1) → s.2.1 p q = c.2.1 p q) ∧ (∀ q, ¬ q = c.2.1 2 2 → s.2.2.1 q = c.2.2.1 q)) ∧ ((∃ e s' m', f15 c = some (.inr (f46 s' (nn e.2.2.1) (nn e.2.2.2))) ∧ DL s k e.1 e.2.1 s' ∧ f113 m = f113_75 m' ∧ RE m' e ∧ FR I13 AQ9 (mg m 5 0) m') ∨ (∃ P s' m' ln a ln', f15 c = f15_109 s' ∧ KG9 s k tl B ln a (nn (bas P.2.2.1.length)) true P.2.2.1.length P.2.2.2.length P s' ∧ P.2.2.1.length + P.2.2.2.length ≤ 65420 ∧ P.1.length ≤ 12002 ∧ f113 m = f113_75 m' ∧ RM m' B tl ln' (nn (bas P.2.2.1.length)) true P ∧ FR I13 AQ9 (mg m 5 0) m')) := by
  obtain ⟨s, s1, s2, s3, s4, s5, s6, s7, s8, s9, s10⟩ := k_start0 R T (by omega)
  refine ⟨s, ⟨s4, s5, s6, s7, s8, s9, s10⟩, ?_⟩
  have hB := X.2.2.2
  have X1 : MXT (ms1 m) B tl := X
  have hn1 : tl - 0 < tl + 1 := by omega
  have hn2 : tl + 1 ≤ mm_U := by show tl + 1 ≤ 200000; omega
  have R1 : RM (ms0 (ms1 m)) B tl 0 0 false P00 := RM_0 X1 ⟨rfl, Nat.zero_le _, fun i h => absurd h (Nat.not_lt_zero _)⟩ (fun i j h => absurd h (Nat.not_lt_zero _)) rfl rfl h5 rfl h38
  obtain ⟨m1, a1, a2, a3⟩ := m_run (B := B) (tl := tl) (ag := false) (base := 0) (Q := P00) htl ⟨0, rfl, Nat.zero_le _⟩ (tl + 1) 0 0 P00 (ms0 (ms1 m)) mm_U hn1 hn2 R1 (fun _ => ⟨rfl, Nat.le_refl _, Nat.zero_le _⟩) (fun h => by cases h) (Nat.le_refl _) (Nat.zero_le _)
  have K1 := k_run (s0 := s) (k := k) (tl := tl) (B := B) (base := 0) (ag := false) (tt := 0) (dd := 0) (Q := P00) (F := f15_35) (EN := f15_64) (fun u s x => rfl) hB s3 htl ⟨rfl, rfl⟩ (tl + 1) 0 0 P00 s mm_U 0 hn1 hn2 s2 (fun _ => ⟨rfl, Nat.le_refl _, Nat.zero_le _⟩) (fun h => by cases h) (Nat.le_refl _) (Nat.zero_le _) (Nat.le_refl _)
  have G1 : FR I13 AQ9 (mg m 5 0) m1 := FR_trans (FR_trans (FR_ms1 m) (FR_ms0 _)) (FR_mono a2 (by decide) (fun _ h => h))
  have a1 : f114_26 mm_U (ms0 (ms1 m)) 0 = some m1 := a1
  rw [s1, f113_eq, f114_eq, a1, Option.bind_some]
  cases hx : xRun B tl false 0 (tl + 1) 0 0 P00 with
  | none => rw [hx] at a3; exact a3.elim
  | some y =>
    rw [hx] at a3 K1
    cases y with
    | inr e =>
      obtain ⟨s', x1, x2⟩ := K1
      refine Or.inl ⟨e, s', ms2 m1 ((m1.2 35 0 + 4095) / 4096 * 4096), x1, x2, ?_, ?_, FR_trans G1 (FR_ms2 _ _)⟩
      · rw [if_neg]
        intro h
        have h9 := a3.1
        rw [h, show (0 : Int32) = nn 0 from rfl] at h9
        have := (nn_eq (by decide) (by have := a3.2.2.1; omega)).mp h9
        have := a3.2.1
        omega
      · exact a3
    | inl Q =>
      obtain ⟨s1', ln1, b1, x1, x2⟩ := K1
      have x1 : f15_35 mm_U s 0 = f15_64 s1' := x1
      obtain ⟨lnm, RM1⟩ := a3
      have hl1 := run_len _ _ _ _ _ hx (Nat.zero_le _) (Nat.zero_le _) (Nat.zero_le _)
      have hm1 := run_mono _ _ _ _ _ hx (Nat.zero_le _)
      obtain ⟨s2', y1, y2⟩ := k_prep x2 hm1.2.2.2
      obtain ⟨r1, r2, r3, r4, r5, r6, r7, r8, r9, r10⟩ := RM1
      have e35 : m1.2 35 0 = nn Q.2.2.1.length := by
        have := r8.2.2.1
        rw [sAdd_nil] at this
        exact this
      have hbas := (bas_nn (tt := Q.2.2.1.length) (by omega)).2
      have hk4 : ∃ k, nn (bas Q.2.2.1.length) = nn (4 * k) ∧ k ≤ 100000 := by
        refine ⟨1024 * ((Q.2.2.1.length + 4095) / 4096), ?_, by omega⟩
        unfold bas
        exact congrArg nn (by omega)
      rw [x1, y1, if_pos r9, e35, hbas, f114_eq]
      have hF : FST B tl (tl + 1) 0 0 (Q.1, 0, [], []) Q := ⟨P00, ⟨rfl, rfl, rfl⟩, hx, Nat.zero_le _, rfl, r3⟩
      have R2 : RM (ms0 (ms2 m1 (nn (bas Q.2.2.1.length)))) B tl 0 (nn (bas Q.2.2.1.length)) true (Q.1, 0, [], []) := RM_0 r1 r2 r3 rfl rfl r7 r9 r10
      obtain ⟨m2, c1, c2, c3⟩ := m_run (B := B) (tl := tl) (ag := true) (base := nn (bas Q.2.2.1.length)) (Q := Q) htl hk4 (tl + 1) 0 0 (Q.1, 0, [], []) _ mm_U hn1 hn2 R2 (fun h => by cases h) (fun _ => ⟨hF, by show Q.1.length ≤ _; omega⟩) (Nat.le_refl _) (Nat.zero_le _)
      have K2 := k_run (s0 := s) (k := k) (tl := tl) (B := B) (base := nn (bas Q.2.2.1.length)) (ag := true) (tt := Q.2.2.1.length) (dd := Q.2.2.2.length) (Q := Q) (F := f15_80) (EN := f15_109) (fun u s x => rfl) hB s3 htl ⟨rfl, rfl⟩ (tl + 1) 0 0 (Q.1, 0, [], []) s2' mm_U 0 hn1 hn2 y2 (fun h => by cases h) (fun _ => ⟨hF, by show Q.1.length ≤ _; omega⟩) (Nat.le_refl _) (Nat.zero_le _) (Nat.le_refl _)
      have G2 : FR I13 AQ9 (mg m 5 0) m2 := FR_trans (FR_trans (FR_trans G1 (FR_ms2 _ _)) (FR_ms0 _)) (FR_mono c2 (by decide) (fun _ h => h))
      have c1 : f114_26 mm_U (ms0 (ms2 m1 (nn (bas Q.2.2.1.length)))) 0 = some m2 := c1
      rw [c1, Option.bind_some]
      cases hy : xRun B tl true (nn (bas Q.2.2.1.length)) (tl + 1) 0 0 (Q.1, 0, [], []) with
      | none => rw [hy] at c3; exact c3.elim
      | some y =>
        rw [hy] at c3 K2
        cases y with
        | inr e =>
          obtain ⟨s', x1, x2⟩ := K2
          exact Or.inl ⟨e, s', m2, x1, x2, rfl, c3, G2⟩
        | inl P =>
          obtain ⟨s3', ln3, b3, x1, x2⟩ := K2
          obtain ⟨ln4, RM4⟩ := c3
          obtain ⟨⟨t1, t2, t3⟩, t4⟩ := run_two _ _ _ _ _ _ hF hy
          rw [t2, t3] at x2
          rw [t2] at RM4
          exact Or.inr ⟨P, s3', m2, ln3, b3, ln4, x1, x2, by omega, by rw [t4]; omega, rfl, RM4, G2⟩
end BP
