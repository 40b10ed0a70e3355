/-! THE CLASS's next line holds its tokens. -/
theorem f41_first {c : cS} {L : Nat} {t : Tk} {r : List Tk} (C : CLN c L (t :: r)) (h15 : c.1 11 15 = -1) : f41 c = some (cg (cg (cg (cg c 11 15 0) 11 3 (nn t.1)) 11 4 (nn t.2.1)) 11 5 t.2.2.1) := by
  obtain ⟨⟨a1, a2, a3, l1, l2, l3, hL, n1, n2, n3⟩, hT, hW, hl, h0, h1⟩ := C
  obtain ⟨k1, k2, k3, _⟩ := hT
  rw [List.length_cons] at hl h0 h1
  have hc : ∃ n : Nat, c.1 11 14 = nn n ∧ 0 < n ∧ n < 2000000 := by
    cases hf : lastF (t :: r) with
    | none => exact ⟨_, (h0 hf).2, by omega, by omega⟩
    | some w => exact ⟨_, (h1 w hf).2.2.1, by omega, by omega⟩
  obtain ⟨n, hn1, hn2, hn3⟩ := hc
  have ibj : ∀ q : Nat, cl c (c.2.1 11 q) = L → ib (0 : Int32) (cl c (c.2.1 11 q)) := fun q hq => by rw [hq]; exact (nn_ib (a := 0) (by omega)).mpr (by omega)
  unfold f41
  rw [h15, show (-1 : Int32) + 1 = 0 by decide, hn1, if_neg (show ¬ (0 : Int32) < 0 by decide), if_neg (fun hh => by have := (nn_le (b := 0) (by omega) (by omega)).mp hh; omega)]
  have g1 : ∀ x : cS, x.2 = c.2 → ce x (c.2.1 11 11) 0 = nn t.1 := by
    intro x hx
    unfold ce
    rw [hx]
    exact k1
  have g2 : ∀ x : cS, x.2 = c.2 → ce x (c.2.1 11 12) 0 = nn t.2.1 := by
    intro x hx
    unfold ce
    rw [hx]
    exact k2
  have g3 : ∀ x : cS, x.2 = c.2 → ce x (c.2.1 11 13) 0 = t.2.2.1 := by
    intro x hx
    unfold ce
    rw [hx]
    exact k3
  rw [if_pos (show cB (cg c 11 15 0) 1 (c.2.1 11 11) 0 from ⟨a1, ibj 11 l1⟩), g1 (cg c 11 15 0) rfl, if_pos (show cB (cg (cg c 11 15 0) 11 3 (nn t.1)) 1 (c.2.1 11 12) 0 from ⟨a2, ibj 12 l2⟩), g2 (cg (cg c 11 15 0) 11 3 (nn t.1)) rfl, if_pos (show cB (cg (cg (cg c 11 15 0) 11 3 (nn t.1)) 11 4 (nn t.2.1)) 1 (c.2.1 11 13) 0 from ⟨a3, ibj 13 l3⟩), g3 (cg (cg (cg c 11 15 0) 11 3 (nn t.1)) 11 4 (nn t.2.1)) rfl]
section KV
variable {s0 s : cS} {k L tl Ls ln a : Nat} {B : Nat → Nat} {tb : List Sy} {base : Int32} {e ag : Bool}
theorem k_next (hB : ∀ i, B i < 256) (h8 : s0.1 11 8 = nn tl) (htl : tl ≤ 12000) (hln : ln < 90000) (G : LG s0 k tl B tb ln a base s) (ha : a < tl) : ∃ s' L' Ls er, f22 s = some (1, s') ∧ LI s0 k L' a (zl B tl a) tl Ls (tks B (zl B tl a) a) B tb (ln + 1) base s' ∧ CUi s' (tks B (zl B tl a) a) (tks B (zl B tl a) a) er ∧ NX s s' := by
  obtain ⟨L, Ls, Y, X, S, g2, g6, g7, g21, R, K, g10⟩ := G
  have s8 : s.1 11 8 = nn tl := K.2.2.2.2.2.2.2.2.1.trans h8
  obtain ⟨z1, z2⟩ := zl_le (B := B) (show a ≤ tl by omega)
  have e22 : f22 s = f22_69 (cg (cg s 11 9 (nn a)) 11 10 (nn (zl B tl a))) := by
    unfold f22
    rw [g10, s8, if_pos ((nn_lt (by omega) (by omega)).mpr ha)]
    exact lp_22 (s := cg s 11 9 (nn a)) Y X g7 g21 s8 _ a mm_U rfl (by omega) (by show _ < 200000; omega)
  generalize hz : zl B tl a = z at z1 z2 e22
  have hlen := tks_len (B := B) _ a rfl z1
  obtain ⟨w1, w2⟩ := tks_wf (a := a) hB (show z ≤ 65536 by omega) _ a rfl (Nat.le_refl _) z1
  obtain ⟨t, r, htk⟩ := tks_ne B z a z1
  -- the line's number
  have F3 : CF [(11, 9), (11, 10), (11, 6)] s (cg (cg (cg s 11 9 (nn a)) 11 10 (nn z)) 11 6 (nn (ln + 1))) := CF_g (CF_g (CF_g (CF_refl _ _) (by decide) _) (by decide) _) (by decide) _
  obtain ⟨s4, L4, b1, ⟨q1, q2, q3, q4, q5⟩, R4, b2⟩ := k_24 (s := cg (cg (cg s 11 9 (nn a)) 11 10 (nn z)) 11 6 (nn (ln + 1))) (need := z - a + 1) R (by omega)
  have f4 : ∀ i j, ¬ (i, j) ∈ [(11, 9), (11, 10), (11, 6)] → s4.1 i j = s.1 i j := fun i j h => by rw [q1]; exact F3.1 i j h
  have f49 : s4.1 11 9 = nn a := by rw [q1]; rfl
  have f410 : s4.1 11 10 = nn z := by rw [q1]; rfl
  have f46 : s4.1 11 6 = nn (ln + 1) := by rw [q1]; rfl
  have q2 : s.2.2.2 ≤ s4.2.2.2 := q2
  have q3 : ∀ p q, ¬ (p = 11 ∧ (q = 11 ∨ q = 12 ∨ q = 13)) → s4.2.1 p q = s.2.1 p q := q3
  have q4 : ∀ q, q < 42 + s.2.2.2 → s4.2.2.1 q = s.2.2.1 q := q4
  have q5 : ∀ j, j = 11 ∨ j = 12 ∨ j = 13 → s4.2.1 11 j = s.2.1 11 j ∨ 42 + s.2.2.2 ≤ s4.2.1 11 j := q5
  have SP := R.2.2.2.2.2.2.2.1
  have T4 := R4.1
  have c00 : s4.2.2.1 (s.2.1 0 0) = s.2.2.1 (s.2.1 0 0) := q4 _ (SP.2 (0, 0) (by decide))
  have r117 : s4.2.1 11 7 = s.2.1 0 0 := (q3 11 7 (by omega)).trans g7
  obtain ⟨x1, x2, x3, x4, x5⟩ := X
  rw [g21] at x1 x2 x3 x4 x5
  have TC4 : TC s4 B a z := by
    unfold TC cl
    rw [f49, f410, r117, c00]
    exact ⟨rfl, rfl, z1, by have : tl ≤ (s.2.2.1 (s.2.1 0 0)).2.1 := x2; omega, x3, ⟨x1.1, by have := x1.2.1; omega, by rw [c00]; exact x1.2.2⟩, hB, fun i hi => x4 i (by omega)⟩
  have hc0 : cg (cg s4 11 14 0) 11 16 (-1) = ct s4 (nn 0) (-1) (s4.1 11 17) (s4.2.2.1 (s4.2.1 11 11)).2.2 (s4.2.2.1 (s4.2.1 11 12)).2.2 (s4.2.2.1 (s4.2.1 11 13)).2.2 := by
    conv => lhs; rw [← ct_self s4 T4]
    rw [ct_14, ct_16]
    rfl
  have H := c_split T4 TC4 _ a rfl (Nat.le_refl _) z1 mm_U a 0 (s4.1 11 17) (s4.2.2.1 (s4.2.1 11 11)).2.2 (s4.2.2.1 (s4.2.1 11 12)).2.2 (s4.2.2.1 (s4.2.1 11 13)).2.2 (by show _ < 200000; omega) (Nat.le_refl _) (by omega)
  obtain ⟨n', fl', fw', k', s', v', e1, _, tkl, lf0, lf1, hn'⟩ := H
  rw [Nat.zero_add] at lf0 lf1
  have hlf1 : ∀ w, lastF (tks B z a) = some w → fl' = nn ((tks B z a).length - 1) ∧ fw' = nn w ∧ n' = (tks B z a).length + 1 ∧ k' (tks B z a).length = 0 := lf1
  obtain ⟨ar1, ar2, ar3⟩ := ct_arr T4 (nn n') fl' fw' k' s' v'
  have W5 := WF_ct T4 (nn n') fl' fw' k' s' v'
  generalize hs5 : ct s4 (nn n') fl' fw' k' s' v' = s5 at e1 ar1 ar2 ar3 W5
  have v14 : s5.1 11 14 = nn n' := by rw [← hs5]; rfl
  have v16 : s5.1 11 16 = fl' := by rw [← hs5]; rfl
  have v17 : s5.1 11 17 = fw' := by rw [← hs5]; rfl
  have R5 := RSX_wf W5 R4
  have hr5 : s5.2.1 = s4.2.1 := W5.2.1
  have CL : CLN s5 L4 (tks B z a) := by
    unfold CLN
    rw [hr5, ar1, ar2, ar3, v14, v16, v17]
    refine ⟨R5.1, tkl, w1, by omega, fun h => ⟨(lf0 h).1, by rw [(lf0 h).2]⟩, fun w h => ?_⟩
    obtain ⟨y1, y2, y3, y4⟩ := hlf1 w h
    exact ⟨y1, y2, by rw [y3], y4, by omega⟩
  have C15 : CF [(11, 15)] s5 (cg s5 11 15 (-1)) := CF_g (CF_refl _ _) (by decide) _
  have e41 := f41_first (c := cg s5 11 15 (-1)) (t := t) (r := r) (by rw [← htk]; exact CL) rfl
  have F6 : CF [(11, 15), (11, 3), (11, 4), (11, 5)] s5 (cg (cg (cg (cg (cg s5 11 15 (-1)) 11 15 0) 11 3 (nn t.1)) 11 4 (nn t.2.1)) 11 5 t.2.2.1) := CF_g (CF_g (CF_g (CF_g (CF_g (CF_refl _ _) (by decide) _) (by decide) _) (by decide) _) (by decide) _) (by decide) _
  generalize hs6 : cg (cg (cg (cg (cg s5 11 15 (-1)) 11 15 0) 11 3 (nn t.1)) 11 4 (nn t.2.1)) 11 5 t.2.2.1 = s6 at e41 F6
  have u3 : s6.1 11 3 = nn t.1 := by rw [← hs6]; rfl
  have u4 : s6.1 11 4 = nn t.2.1 := by rw [← hs6]; rfl
  have u5 : s6.1 11 5 = t.2.2.1 := by rw [← hs6]; rfl
  have u15 : s6.1 11 15 = nn 0 := by rw [← hs6]; rfl
  have hprog : f22 s = some (1, s6) := by
    rw [e22]
    unfold f22_69
    rw [show (cg (cg s 11 9 (nn a)) 11 10 (nn z)).1 11 6 = nn ln from g6, nn_add1]
    unfold f23
    rw [show (cg (cg (cg s 11 9 (nn a)) 11 10 (nn z)) 11 6 (nn (ln + 1))).1 11 10 = nn z from rfl, show (cg (cg (cg s 11 9 (nn a)) 11 10 (nn z)) 11 6 (nn (ln + 1))).1 11 9 = nn a from rfl, nn_sub z1, nn_add1, b1, Option.bind_some, f49, hc0, e1, Option.bind_some, e41]
    rfl
  have fAll : ∀ i j, ¬ (i, j) ∈ INX → s6.1 i j = s.1 i j := by
    intro i j h
    have sub1 : ∀ x ∈ [(11, 15), (11, 3), (11, 4), (11, 5)], x ∈ INX := by decide
    have sub2 : ∀ x ∈ [(11, 14), (11, 16), (11, 17)], x ∈ INX := by decide
    have sub3 : ∀ x ∈ [(11, 9), (11, 10), (11, 6)], x ∈ INX := by decide
    exact (F6.1 i j (fun hh => h (sub1 _ hh))).trans ((W5.1 i j (fun hh => h (sub2 _ hh))).trans (f4 i j (fun hh => h (sub3 _ hh))))
  have rAll : ∀ p q, ¬ (p = 11 ∧ (q = 11 ∨ q = 12 ∨ q = 13)) → s6.2.1 p q = s.2.1 p q := by
    intro p q h
    rw [F6.2, hr5]
    exact q3 p q h
  have nAll : s.2.2.2 ≤ s6.2.2.2 := by
    rw [F6.2, W5.2.2.1]
    exact q2
  have aAll : ∀ q, q < 42 + s.2.2.2 → ¬ q = s.2.1 11 11 → ¬ q = s.2.1 11 12 → ¬ q = s.2.1 11 13 → s6.2.2.1 q = s.2.2.1 q := by
    intro q hq h1 h2 h3
    rw [F6.2, W5.2.2.2.2 q, q4 q hq]
    simp only [List.mem_cons, List.not_mem_nil, or_false, not_or]
    refine ⟨?_, ?_, ?_⟩
    · rcases q5 11 (by omega) with h | h
      · rw [h]; exact h1
      · omega
    · rcases q5 12 (by omega) with h | h
      · rw [h]; exact h2
      · omega
    · rcases q5 13 (by omega) with h | h
      · rw [h]; exact h3
      · omega
  have hcell : ∀ p ∈ OW, ¬ p.1 = 11 → s6.2.2.1 (s.2.1 p.1 p.2) = s.2.2.1 (s.2.1 p.1 p.2) := by
    intro p hp h11
    have hne : ∀ j, (11, j) ∈ OW → ¬ s.2.1 p.1 p.2 = s.2.1 11 j := by
      intro j hj hh
      have := congrArg Prod.fst (SP.1 p hp (11, j) hj hh)
      exact h11 this
    exact aAll _ (SP.2 p hp) (hne 11 (by decide)) (hne 12 (by decide)) (hne 13 (by decide))
  have R12 := R.2.2.2.2.2.2.2.2.2.2.2.1
  have d00 : s6.2.2.1 (s.2.1 0 0) = s.2.2.1 (s.2.1 0 0) := hcell (0, 0) (by decide) (by decide)
  have K6 : KP s s6 := by
    refine ⟨fun j => fAll 0 j (by unfold INX; simp), fun j => fAll _ j ?_, rAll 0 0 (by omega), rAll 16 0 (by omega), rAll 16 1 (by omega), rAll _ 4 (by omega), d00, ?_, fAll 11 8 (by decide), fAll 11 0 (by decide), fAll 11 1 (by decide), fAll 11 2 (by decide)⟩
    · unfold INX
      rcases R12 with h | h
      · rw [h.1]; simp
      · rw [h.1]; simp
    · rcases R12 with h | h
      · rw [h.1]; exact hcell (18, 4) (by decide) (by decide)
      · rw [h.1]; exact hcell (20, 4) (by decide) (by decide)
  have R6 : RSX s6 k L4 Ls := RSX_wf (WF_cf (Q := []) F6) R5
  have h7' : s6.2.1 11 7 = s.2.1 0 0 := (rAll 11 7 (by omega)).trans g7
  have h00' : s6.2.1 0 0 = s.2.1 0 0 := rAll 0 0 (by omega)
  have h21' : s6.2.1 2 1 = s.2.1 0 0 := (rAll 2 1 (by omega)).trans g21
  refine ⟨s6, L4, Ls, s6.1 17 3, hprog, ⟨?_, ?_, ?_, ?_, z2, ?_, (fAll 17 2 (by decide)).trans g2, ?_, by omega, w2, by omega, by rw [h7', h00'], by rw [h21', h00'], R6, KP_trans K K6⟩, ⟨0, t, r, htk, htk, u3, u4, u5, u15, rfl⟩, fAll, nAll, rAll, aAll⟩
  · unfold CLN TA cA cl
    rw [F6.2, F6.1 11 16 (by decide), F6.1 11 14 (by decide), F6.1 11 17 (by decide)]
    exact CL
  · unfold TC cl cA
    rw [F6.1 11 9 (by decide), W5.1 11 9 (by decide), f49, F6.1 11 10 (by decide), W5.1 11 10 (by decide), f410, h7', d00]
    exact ⟨rfl, rfl, z1, by have : tl ≤ (s.2.2.1 (s.2.1 0 0)).2.1 := x2; omega, x3, ⟨x1.1, by have := x1.2.1; omega, x1.2.2⟩, hB, fun i hi => x4 i (by omega)⟩
  · unfold BY
    rw [h7', d00]
    exact x5
  · unfold SXT cl cA
    rw [h21', d00]
    exact ⟨⟨x1.1, by have := x1.2.1; omega, x1.2.2⟩, x2, x3, x4, x5⟩
  · refine SYM_keep (fAll 2 0 (by decide)) (fun kk => rAll 2 kk (by omega)) (fun kk h2 h9 => ?_) nAll S
    have hO : (2, kk) ∈ OW := by
      have : kk = 2 ∨ kk = 3 ∨ kk = 4 ∨ kk = 5 ∨ kk = 6 ∨ kk = 7 ∨ kk = 8 := by omega
      rcases this with rfl | rfl | rfl | rfl | rfl | rfl | rfl <;> decide
    exact hcell (2, kk) hO (show ¬ (2 : Nat) = 11 by decide)
  · rw [F6.1 11 6 (by decide), W5.1 11 6 (by decide), f46]
end KV
