/-! THE CLASS starts to assemble; it prepares the image. -/
def OR : List (Nat × Nat) := (16, 0) :: (16, 1) :: OW
theorem RSX_r {c c' : cS} {k L Ls : Nat} (hr : ∀ p q, (p, q) ∈ OR → c'.2.1 p q = c.2.1 p q) (hn : c'.2.2.2 = c.2.2.2) (h : ∀ q, (c'.2.2.1 q).1 = (c.2.2.1 q).1 ∧ (c'.2.2.1 q).2.1 = (c.2.2.1 q).2.1) (R : RSX c k L Ls) : RSX c' k L Ls := by
  have hA : ∀ t q, cA c t q → cA c' t q := fun t q h9 => ⟨h9.1, by rw [hn]; exact h9.2.1, by rw [(h q).1]; exact h9.2.2⟩
  have hcl : ∀ q, cl c' q = cl c q := fun q => (h q).2
  have hcs : csz c' = csz c := csz_same hn (fun q _ => h q)
  obtain ⟨r1, r2, r3, r4, r5, r6, r7, r8, r9, r10, r11, r12, r13, r14⟩ := R
  obtain ⟨t1, t2, t3, t4, t5, t6, t7⟩ := r1
  have hS : SEP c' := by
    refine ⟨fun p hp q hq e => ?_, fun p hp => ?_⟩
    · rw [hr p.1 p.2 (List.mem_cons_of_mem _ (List.mem_cons_of_mem _ hp)), hr q.1 q.2 (List.mem_cons_of_mem _ (List.mem_cons_of_mem _ hq))] at e
      exact r8.1 p hp q hq e
    · rw [hr p.1 p.2 (List.mem_cons_of_mem _ (List.mem_cons_of_mem _ hp)), hn]
      exact r8.2 p hp
  unfold RSX TA
  rw [hr 11 11 (by decide), hr 11 12 (by decide), hr 11 13 (by decide), hr 2 2 (by decide), hr 0 0 (by decide), hr 18 4 (by decide), hr 20 4 (by decide), hr 16 0 (by decide), hr 16 1 (by decide), hcs, hn]
  simp only [hcl]
  refine ⟨⟨hA _ _ t1, hA _ _ t2, hA _ _ t3, t4, t5, t6, t7⟩, r2, r3, ⟨hA _ _ r4.1, r4.2⟩, fun kk h3 h8 => ?_, r6, r7, hS, ⟨hA _ _ r9.1, r9.2⟩, ⟨hA _ _ r10.1, r10.2⟩, ⟨hA _ _ r11.1, r11.2⟩, r12, r13, r14⟩
  have hO : (2, kk) ∈ OR := by
    have : kk = 3 ∨ kk = 4 ∨ kk = 5 ∨ kk = 6 ∨ kk = 7 ∨ kk = 8 := by omega
    rcases this with rfl | rfl | rfl | rfl | rfl | rfl <;> decide
  rw [hr 2 kk hO]
  exact ⟨hA _ _ (r5 kk h3 h8).1, (r5 kk h3 h8).2⟩
theorem RSX_k {c : cS} {k L Ls : Nat} (R : RSX c k L Ls) : RSX c (k + 1) L Ls := by
  obtain ⟨r1, r2, r3, r4, r5, r6, r7, r8, r9, r10, r11, r12, r13, r14⟩ := R
  exact ⟨r1, r2, r3, r4, r5, r6, r7, r8, r9, r10, r11, r12, by omega, by omega⟩
/-- an array of ints is filled -/
theorem k_20 {s : cS} {q M : Nat} (x : Int32) (hA : cA s 1 q) (hM : cl s q = M) (h1 : M ≤ 100000) : ∃ s', f20 s q x = some s' ∧ WF [] [q] s s' ∧ ∀ i, i < M → (s'.2.2.1 q).2.2 i = x := by
  have lp : ∀ (d i u : Nat) (s1 : cS), M - i = d → i ≤ M → d < u → WF [] [q] s s1 → (∀ j, j < i → (s1.2.2.1 q).2.2 j = x) → ∃ s', f20_5 u s1 q x (nn i) (nn M) = some s' ∧ WF [] [q] s s' ∧ ∀ j, j < M → (s'.2.2.1 q).2.2 j = x := by
    intro d
    induction d with
    | zero =>
      intro i u s1 hd hi hu F hj
      have eu : u = (u - 1) + 1 := by omega
      rw [eu, f20_5, if_pos ((nn_le (by omega) (by omega)).mpr (by omega))]
      exact ⟨s1, rfl, F, fun j h => hj j (by omega)⟩
    | succ d ih =>
      intro i u s1 hd hi hu F hj
      have eu : u = (u - 1) + 1 := by omega
      have hB : cB s1 1 q (nn i) := ⟨⟨hA.1, by rw [F.2.2.1]; exact hA.2.1, by rw [(F.2.2.2.1 q).1]; exact hA.2.2⟩, by show ib _ (s1.2.2.1 q).2.1; rw [(F.2.2.2.1 q).2]; exact (nn_ib (by omega)).mpr (by show i < cl s q; omega)⟩
      rw [eu, f20_5, if_neg (fun h => by have := (nn_le (by omega) (by omega)).mp h; omega), if_pos hB, nn_add1]
      refine ih (i + 1) (u - 1) (cw s1 q (nn i) x) (by omega) (by omega) (by omega) (WF_w F (List.mem_singleton.mpr rfl) _ _) (fun j hj9 => ?_)
      rw [cw_eq, nn_tn (by omega)]
      show upd _ _ _ _ = _
      unfold upd
      by_cases c : j = i
      · rw [if_pos c]
      · rw [if_neg c]; exact hj j (by omega)
  unfold f20
  rw [if_pos hA, show Int32.ofNat (cl s q) = nn M by rw [hM]]
  exact lp M 0 mm_U s (by omega) (by omega) (by show M < 200000; omega) (WF_refl _ _ _) (fun j h => by omega)
/-- an array of bytes is filled with zeros -/
theorem k_104 {s : cS} {q M : Nat} (hA : cA s 0 q) (hM : cl s q = M) (h1 : M ≤ 100000) : ∃ s', f104 s q 0 = some s' ∧ WF [] [q] s s' ∧ ∀ i, i < M → (s'.2.2.1 q).2.2 i = 0 := by
  have lp : ∀ (d i u : Nat) (s1 : cS), M - i = d → i ≤ M → d < u → WF [] [q] s s1 → (∀ j, j < i → (s1.2.2.1 q).2.2 j = 0) → ∃ s', f104_5 u s1 q 0 (nn i) (nn M) = some s' ∧ WF [] [q] s s' ∧ ∀ j, j < M → (s'.2.2.1 q).2.2 j = 0 := by
    intro d
    induction d with
    | zero =>
      intro i u s1 hd hi hu F hj
      have eu : u = (u - 1) + 1 := by omega
      rw [eu, f104_5, if_pos ((nn_le (by omega) (by omega)).mpr (by omega))]
      exact ⟨s1, rfl, F, fun j h => hj j (by omega)⟩
    | succ d ih =>
      intro i u s1 hd hi hu F hj
      have eu : u = (u - 1) + 1 := by omega
      have hB : cB s1 0 q (nn i) := ⟨⟨hA.1, by rw [F.2.2.1]; exact hA.2.1, by rw [(F.2.2.2.1 q).1]; exact hA.2.2⟩, by show ib _ (s1.2.2.1 q).2.1; rw [(F.2.2.2.1 q).2]; exact (nn_ib (by omega)).mpr (by show i < cl s q; omega)⟩
      rw [eu, f104_5, if_neg (fun h => by have := (nn_le (by omega) (by omega)).mp h; omega), if_pos hB, nn_add1]
      refine ih (i + 1) (u - 1) (cw s1 q (nn i) ((0 : Int32).toInt8.toInt32)) (by omega) (by omega) (by omega) (WF_w F (List.mem_singleton.mpr rfl) _ _) (fun j hj9 => ?_)
      rw [cw_eq, nn_tn (by omega)]
      show upd _ _ _ _ = _
      unfold upd
      by_cases c : j = i
      · rw [if_pos c]; rfl
      · rw [if_neg c]; exact hj j (by omega)
  unfold f104
  rw [if_pos hA, show Int32.ofNat (cl s q) = nn M by rw [hM]]
  exact lp M 0 mm_U s (by omega) (by omega) (by show M < 200000; omega) (WF_refl _ _ _) (fun j h => by omega)
/-- the class's tape -/
def TAP (c : cS) (B : Nat → Nat) (tl : Nat) : Prop := c.1 0 1 = nn tl ∧ tl ≤ cl c (c.2.1 0 0) ∧ (∀ i, i < tl → b8 ((c.2.2.1 (c.2.1 0 0)).2.2 i) = B i) ∧ ∀ i, ((c.2.2.1 (c.2.1 0 0)).2.2 i).toInt8.toInt32 = (c.2.2.1 (c.2.1 0 0)).2.2 i
def P00 : Ps := ([], 0, [], [])
def IS0 : List (Nat × Nat) := [(0, 1), (11, 8), (11, 0), (11, 1), (11, 2), (11, 6), (11, 10), (2, 0), (16, 9), (16, 5), (17, 2), (16, 6), (16, 7), (16, 8)]
theorem k_start0 {c : cS} {k L Ls tl : Nat} {B : Nat → Nat} (R : RSX c k L Ls) (T : TAP c B tl) (htl : tl ≤ 65536) : ∃ s, f15 c = f15_35 mm_U s 0 ∧ KG9 s k tl B 0 0 0 false 0 0 P00 s ∧ s.1 11 8 = nn tl ∧ s.1 0 1 = 0 ∧ s.1 11 0 = 0 ∧ s.1 11 1 = 0 ∧ s.1 11 2 = 0 ∧ (∀ i j, ¬ (i, j) ∈ IS0 → s.1 i j = c.1 i j) ∧ (∀ p q, ¬ (p, q) = (11, 7) → ¬ (p, q) = (2, 1) → s.2.1 p q = c.2.1 p q) ∧ (∀ q, ¬ q = c.2.1 2 2 → s.2.2.1 q = c.2.2.1 q) := by
  obtain ⟨t1, t2, t3, t4⟩ := T
  have R0 := R
  obtain ⟨r1, r2, r3, r4, r5, r6, r7, r8, r9, r10, r11, r12, r13, r14⟩ := R
  have hcl : cl c (c.2.1 0 0) ≤ 65536 := r9.2.2
  -- behind f16
  have e16 : f16 (cg c 0 1 0) (c.2.1 0 0) (c.1 0 1) = some (cg (cg (cg (cg (cg (cg (cr (cg c 0 1 0) 11 7 (c.2.1 0 0)) 11 8 (nn tl)) 11 0 0) 11 1 0) 11 2 0) 11 6 0) 11 10 (-1)) := by
    unfold f16 f17
    rw [if_pos (show cA (cr (cg c 0 1 0) 11 7 (c.2.1 0 0)) 0 (c.2.1 0 0) from r9.1), t1, show Int32.ofNat (cl (cr (cg c 0 1 0) 11 7 (c.2.1 0 0)) (c.2.1 0 0)) = nn (cl c (c.2.1 0 0)) from rfl, if_neg (fun h => by have := (nn_lt (by omega) (by omega)).mp h; omega)]
  generalize hs1 : cg (cg (cg (cg (cg (cg (cr (cg c 0 1 0) 11 7 (c.2.1 0 0)) 11 8 (nn tl)) 11 0 0) 11 1 0) 11 2 0) 11 6 0) 11 10 (-1) = s1 at e16
  have f1 : ∀ i j, ¬ (i, j) ∈ IS0 → s1.1 i j = c.1 i j := by
    intro i j h
    rw [← hs1]
    have F : CF [(0, 1), (11, 8), (11, 0), (11, 1), (11, 2), (11, 6), (11, 10)] (cr c 11 7 (c.2.1 0 0)) (cg (cg (cg (cg (cg (cg (cg (cr c 11 7 (c.2.1 0 0)) 0 1 0) 11 8 (nn tl)) 11 0 0) 11 1 0) 11 2 0) 11 6 0) 11 10 (-1)) := CF_g (CF_g (CF_g (CF_g (CF_g (CF_g (CF_g (CF_refl _ _) (by decide) _) (by decide) _) (by decide) _) (by decide) _) (by decide) _) (by decide) _) (by decide) _
    have sub : ∀ x ∈ [(0, 1), (11, 8), (11, 0), (11, 1), (11, 2), (11, 6), (11, 10)], x ∈ IS0 := by decide
    exact F.1 i j (fun hh => h (sub _ hh))
  have g8 : s1.1 11 8 = nn tl := by rw [← hs1]; rfl
  have g01 : s1.1 0 1 = 0 := by rw [← hs1]; rfl
  have g110 : s1.1 11 0 = 0 := by rw [← hs1]; rfl
  have g111 : s1.1 11 1 = 0 := by rw [← hs1]; rfl
  have g112 : s1.1 11 2 = 0 := by rw [← hs1]; rfl
  have g116 : s1.1 11 6 = 0 := by rw [← hs1]; rfl
  have g1110 : s1.1 11 10 = -1 := by rw [← hs1]; rfl
  have h7 : s1.2.1 11 7 = c.2.1 0 0 := by rw [← hs1]; rfl
  have ho : ∀ p q, ¬ (p, q) = (11, 7) → s1.2.1 p q = c.2.1 p q := by
    intro p q h
    rw [← hs1]
    show (if q = 7 ∧ p = 11 then _ else c.2.1 p q) = c.2.1 p q
    rw [if_neg (fun hh => h (by rw [hh.1, hh.2]))]
  have ha1 : s1.2.2 = c.2.2 := by rw [← hs1]; rfl
  -- the symbols
  have r41 : cA (cg (cr s1 2 1 (s1.2.1 0 0)) 2 0 0) 1 (s1.2.1 2 2) := by
    rw [ho 2 2 (by decide)]
    exact ⟨r4.1.1, by show _ < 42 + s1.2.2.2; rw [ha1]; exact r4.1.2.1, by show (s1.2.2.1 _).1 = 1; rw [ha1]; exact r4.1.2.2⟩
  obtain ⟨s2, b1, b2, b3⟩ := k_20 (s := cg (cr s1 2 1 (s1.2.1 0 0)) 2 0 0) (q := s1.2.1 2 2) (M := 256) (-1) r41 (by show (s1.2.2.1 _).2.1 = 256; rw [ha1, ho 2 2 (by decide)]; exact r4.2) (by decide)
  have F3 : CF [(16, 9), (16, 5), (17, 2), (16, 6), (16, 7), (16, 8)] s2 (f21 (cg (cg (cg s2 16 9 (-1)) 16 5 0) 17 2 0)) := CF_g (CF_g (CF_g (CF_g (CF_g (CF_g (CF_refl _ _) (by decide) _) (by decide) _) (by decide) _) (by decide) _) (by decide) _) (by decide) _
  have e18 : f18 s1 (s1.2.1 0 0) = some (f21 (cg (cg (cg s2 16 9 (-1)) 16 5 0) 17 2 0)) := by
    unfold f18 f19
    rw [b1]
    rfl
  have w9 : (f21 (cg (cg (cg s2 16 9 (-1)) 16 5 0) 17 2 0)).1 16 9 = -1 := rfl
  have w5 : (f21 (cg (cg (cg s2 16 9 (-1)) 16 5 0) 17 2 0)).1 16 5 = 0 := rfl
  have w172 : (f21 (cg (cg (cg s2 16 9 (-1)) 16 5 0) 17 2 0)).1 17 2 = 0 := rfl
  have w6 : (f21 (cg (cg (cg s2 16 9 (-1)) 16 5 0) 17 2 0)).1 16 6 = 0 := rfl
  have w7 : (f21 (cg (cg (cg s2 16 9 (-1)) 16 5 0) 17 2 0)).1 16 7 = 0 := rfl
  have w8 : (f21 (cg (cg (cg s2 16 9 (-1)) 16 5 0) 17 2 0)).1 16 8 = 0 := rfl
  generalize hs3 : f21 (cg (cg (cg s2 16 9 (-1)) 16 5 0) 17 2 0) = s3 at F3 e18 w9 w5 w172 w6 w7 w8
  have f2 : ∀ i j, ¬ (i, j) = (2, 0) → s2.1 i j = s1.1 i j := by
    intro i j h
    rw [b2.1 i j (by simp)]
    show (if j = 0 ∧ i = 2 then _ else s1.1 i j) = s1.1 i j
    rw [if_neg (fun hh => h (by rw [hh.1, hh.2]))]
  have f3 : ∀ i j, ¬ (i, j) ∈ [(16, 9), (16, 5), (17, 2), (16, 6), (16, 7), (16, 8)] → ¬ (i, j) = (2, 0) → s3.1 i j = s1.1 i j := fun i j h1 h2 => (F3.1 i j h1).trans (f2 i j h2)
  have rr : ∀ p q, s3.2.1 p q = if q = 1 ∧ p = 2 then c.2.1 0 0 else s1.2.1 p q := by
    intro p q
    rw [F3.2, b2.2.1, ← ho 0 0 (by decide)]
    rfl
  have r21 : s3.2.1 2 1 = c.2.1 0 0 := by rw [rr, if_pos ⟨rfl, rfl⟩]
  have ro : ∀ p q, ¬ (p, q) = (11, 7) → ¬ (p, q) = (2, 1) → s3.2.1 p q = c.2.1 p q := by
    intro p q h1 h2
    rw [rr, if_neg (fun hh => h2 (by rw [hh.1, hh.2])), ho p q h1]
  have r117 : s3.2.1 11 7 = c.2.1 0 0 := by rw [rr, if_neg (by decide), h7]
  have r00 := ro 0 0 (by decide) (by decide)
  have n3 : s3.2.2.2 = c.2.2.2 := by
    rw [F3.2, b2.2.2.1]
    show s1.2.2.2 = _
    rw [ha1]
  have ar : ∀ q, ¬ q = c.2.1 2 2 → s3.2.2.1 q = c.2.2.1 q := by
    intro q h
    rw [F3.2, b2.2.2.2.2 q (by rw [List.mem_singleton, ho 2 2 (by decide)]; exact h)]
    show s1.2.2.1 q = _
    rw [ha1]
  have sh : ∀ q, (s3.2.2.1 q).1 = (c.2.2.1 q).1 ∧ (s3.2.2.1 q).2.1 = (c.2.2.1 q).2.1 := by
    intro q
    rw [F3.2]
    have := b2.2.2.2.1 q
    rw [this.1, this.2]
    show (s1.2.2.1 q).1 = _ ∧ (s1.2.2.1 q).2.1 = _
    rw [ha1]
    exact ⟨rfl, rfl⟩
  have R3 : RSX s3 k L Ls := by
    refine RSX_r (fun p q h => ro p q ?_ ?_) n3 sh R0
    · intro hh
      rw [hh] at h
      revert h
      decide
    · intro hh
      rw [hh] at h
      revert h
      decide
  have hd : ∀ h, h < 256 → (s3.2.2.1 (s3.2.1 2 2)).2.2 h = -1 := by
    intro h hh
    rw [ro 2 2 (by decide) (by decide), F3.2, ← ho 2 2 (by decide)]
    exact b3 h hh
  have ne22 : ¬ c.2.1 0 0 = c.2.1 2 2 := fun hh => absurd (r8.1 (0, 0) (by decide) (2, 2) (by decide) hh) (by decide)
  have a00 : s3.2.2.1 (c.2.1 0 0) = c.2.2.1 (c.2.1 0 0) := ar _ ne22
  have f20 : s3.1 2 0 = 0 := by
    rw [F3.1 2 0 (by decide), b2.1 2 0 (by simp)]
    rfl
  have hrun : f15 c = f15_35 mm_U s3 0 := by
    unfold f15
    rw [e16, Option.bind_some, e18]
    rfl
  refine ⟨s3, hrun, ⟨⟨L, Ls, ?_, ?_, ?_, w172, (f3 11 6 (by decide) (by decide)).trans g116, by rw [r117, r00], by rw [r21, r00], R3, ?_, ?_⟩, ?_, ?_, fun h => by cases h⟩, (f3 11 8 (by decide) (by decide)).trans g8, (f3 0 1 (by decide) (by decide)).trans g01, (f3 11 0 (by decide) (by decide)).trans g110, (f3 11 1 (by decide) (by decide)).trans g111, (f3 11 2 (by decide) (by decide)).trans g112, ?_, ro, ar⟩
  · unfold BY
    rw [r117, a00]
    exact t4
  · unfold SXT cl cA
    rw [r21, a00, n3]
    exact ⟨⟨r9.1.1, r9.1.2.1, r9.1.2.2⟩, t2, r9.2.2, t3, t4⟩
  · obtain ⟨g1, g2, g3, g4, g5, g6, g7, _⟩ := R3
    exact ⟨f20, Nat.zero_le _, by omega, g4.1, g4.2, g5, fun i hi => absurd hi (Nat.not_lt_zero i), fun h hh => hd h hh, fun i hi => absurd hi (Nat.not_lt_zero i)⟩
  · exact ⟨fun _ => rfl, fun _ => rfl, rfl, rfl, rfl, rfl, rfl, rfl, rfl, rfl, rfl, rfl⟩
  · rw [f3 11 10 (by decide) (by decide), g1110]
    decide
  · exact ⟨w5, Nat.zero_le _, w6, w7, w8, Nat.zero_le _, Nat.zero_le _⟩
  · exact w9
  · intro i j h
    have sub : ∀ x ∈ [(16, 9), (16, 5), (17, 2), (16, 6), (16, 7), (16, 8)], x ∈ IS0 := by decide
    exact (f3 i j (fun hh => h (sub _ hh)) (fun hh => h (by rw [hh]; decide))).trans (f1 i j h)
