/-! THE CLASS stands at the second pass. -/
section KP9
variable {s0 s : cS} {k tl tt0 dd0 ln a : Nat} {B : Nat → Nat} {Q : Ps}
def bas (tt : Nat) : Nat := 4096 * ((tt + 4095) / 4096)
theorem bas_nn {tt : Nat} (h : tt ≤ 65536) : ((nn tt + 4096) - 1) / 4096 * 4096 = nn (bas tt) ∧ (nn tt + 4095) / 4096 * 4096 = nn (bas tt) := by
  have h1 : nn tt + 4096 - 1 = nn (tt + 4095) := by
    rw [show (4096 : Int32) = nn 4096 from rfl, nn_add, show (1 : Int32) = nn 1 from rfl, nn_sub (by omega)]
    exact congrArg nn (by omega)
  have h2 : nn tt + 4095 = nn (tt + 4095) := by rw [show (4095 : Int32) = nn 4095 from rfl, nn_add]
  have h3 : nn (tt + 4095) / 4096 * 4096 = nn (bas tt) := by
    rw [show (4096 : Int32) = nn 4096 from rfl, nn_div (by omega) (by decide), show nn ((tt + 4095) / 4096) * nn 4096 = nn ((tt + 4095) / 4096 * 4096) from (Int32.ofNat_mul _ _).symm]
    unfold bas
    rw [Nat.mul_comm]
  rw [h1, h2]
  exact ⟨h3, h3⟩
theorem hdl_83 {c : cS} {x0 tt dd : Nat} (h1 : c.1 x0 1 = nn tt) (h2 : c.1 x0 2 = nn dd) (hd : dd ≤ 100000) : f83 x0 c 0 = nn (hdl dd) ∧ f83 x0 c 1 = nn (hdl dd + tt) := by
  unfold f83 f83_12 hdl
  have h9 : nn dd ≤ 0 ↔ dd ≤ 0 := nn_le (b := 0) (by omega) (by decide)
  rw [h2]
  by_cases c0 : dd ≤ 0
  · rw [if_pos (h9.mpr c0), if_pos (h9.mpr c0), if_neg (show ¬ 0 < dd by omega), if_pos (show (0 : Int32) = 0 from rfl), if_neg (show ¬ (1 : Int32) = 0 by decide), h1]
    refine ⟨rfl, ?_⟩
    rw [show (52 : Int32) + 1 * 32 = nn 84 from rfl, nn_add]
  · rw [if_neg (fun h => c0 (h9.mp h)), if_neg (fun h => c0 (h9.mp h)), if_pos (show 0 < dd by omega), if_pos (show (0 : Int32) = 0 from rfl), if_neg (show ¬ (1 : Int32) = 0 by decide), h1]
    refine ⟨rfl, ?_⟩
    rw [show (52 : Int32) + 2 * 32 = nn 116 from rfl, nn_add]
/-- the image is made ready -/
theorem k_103 {L Ls tt dd x0 : Nat} (R : RSX s k L Ls) (hx : x0 = 18 ∨ x0 = 20) (htd : tt + dd ≤ 65420) : ∃ s', f103 x0 s (nn tt) (nn dd) = some s' ∧ s'.1 = (cg (cg (cg s x0 1 (nn tt)) x0 2 (nn dd)) x0 0 (nn (hdl dd + tt + dd))).1 ∧ s.2.2.2 ≤ s'.2.2.2 ∧ (∀ p q, ¬ (p, q) = (x0, 4) → s'.2.1 p q = s.2.1 p q) ∧ (∀ q, q < 42 + s.2.2.2 → ¬ q = s.2.1 x0 4 → s'.2.2.1 q = s.2.2.1 q) ∧ RSX s' k L Ls ∧ cA s' 0 (s'.2.1 x0 4) ∧ hdl dd + tt + dd ≤ cl s' (s'.2.1 x0 4) ∧ cl s' (s'.2.1 x0 4) ≤ 65536 ∧ ∀ i, i < cl s' (s'.2.1 x0 4) → (s'.2.2.1 (s'.2.1 x0 4)).2.2 i = 0 := by
  have hh := hdl_le dd
  have e83 := (hdl_83 (c := cg (cg s x0 1 (nn tt)) x0 2 (nn dd)) (x0 := x0) (tt := tt) (dd := dd) (by
    show (if 1 = 2 ∧ x0 = x0 then nn dd else if 1 = 1 ∧ x0 = x0 then nn tt else s.1 x0 1) = _
    rw [if_neg (by omega), if_pos ⟨rfl, rfl⟩]) (by
    show (if 2 = 2 ∧ x0 = x0 then _ else _) = _
    rw [if_pos ⟨rfl, rfl⟩]) (by omega)).2
  have eS : cg (cg (cg s x0 1 (nn tt)) x0 2 (nn dd)) x0 0 (f83 x0 (cg (cg s x0 1 (nn tt)) x0 2 (nn dd)) 1 + nn dd) = cg (cg (cg s x0 1 (nn tt)) x0 2 (nn dd)) x0 0 (nn (hdl dd + tt + dd)) := by rw [e83, nn_add]
  unfold f103
  rw [eS]
  generalize hS : cg (cg (cg s x0 1 (nn tt)) x0 2 (nn dd)) x0 0 (nn (hdl dd + tt + dd)) = S
  have hS2 : S.2 = s.2 := by rw [← hS]; rfl
  have hS0 : S.1 x0 0 = nn (hdl dd + tt + dd) := by
    rw [← hS]
    show (if 0 = 0 ∧ x0 = x0 then _ else _) = _
    rw [if_pos ⟨rfl, rfl⟩]
  have RS : RSX S k L Ls := RSX_sh (by rw [hS2]) (by rw [hS2]) (fun q => by rw [hS2]; exact ⟨rfl, rfl⟩) R
  have hA : cA S 0 (S.2.1 x0 4) ∧ cl S (S.2.1 x0 4) ≤ 65536 := by
    obtain ⟨r1, r2, r3, r4, r5, r6, r7, r8, r9, r10, r11, r12, r13, r14⟩ := RS
    rcases hx with rfl | rfl
    · exact ⟨r10.1, r10.2.1⟩
    · exact ⟨r11.1, r11.2.1⟩
  have er : ∀ p q, S.2.1 p q = s.2.1 p q := fun p q => by rw [hS2]
  generalize hl : cl S (S.2.1 x0 4) = l at hA
  rw [if_pos hA.1, hS0, show Int32.ofNat l = nn l from rfl, nn_le2 (by omega) (by omega)]
  by_cases c : hdl dd + tt + dd ≤ l
  · rw [if_pos c]
    obtain ⟨s', b1, b2, b3⟩ := k_104 (s := S) (q := S.2.1 x0 4) (M := l) hA.1 hl (by omega)
    have r' : s'.2.1 = s.2.1 := by rw [b2.2.1, hS2]
    have cl' : cl s' (s'.2.1 x0 4) = l := by
      rw [r', ← er]
      show (s'.2.2.1 _).2.1 = l
      rw [(b2.2.2.2.1 _).2]
      exact hl
    refine ⟨s', by rw [b1]; rfl, ?_, by rw [b2.2.2.1, hS2]; exact Nat.le_refl _, fun p q _ => by rw [r'], fun q _ hq => ?_, RSX_wf b2 RS, ?_, by rw [cl']; exact c, by rw [cl']; exact hA.2, fun i hi => ?_⟩
    · funext i j
      exact b2.1 i j (by simp)
    · rw [b2.2.2.2.2 q (by rw [List.mem_singleton, er]; exact hq), hS2]
    · rw [r', ← er]
      exact ⟨hA.1.1, by rw [b2.2.2.1]; exact hA.1.2.1, by rw [(b2.2.2.2.1 _).1]; exact hA.1.2.2⟩
    · rw [cl'] at hi
      rw [r', ← er]
      exact b3 i hi
  · rw [if_neg c, if_pos hA.1]
    have e2 : nn l * 2 = nn (l * 2) := (Int32.ofNat_mul l 2).symm
    have hM : ∃ M, (if nn (hdl dd + tt + dd) < (if nn l * 2 < 65536 then nn l * 2 else 65536) then (if nn l * 2 < 65536 then nn l * 2 else 65536) else nn (hdl dd + tt + dd)) = nn M ∧ hdl dd + tt + dd ≤ M ∧ (2 * l ≤ M ∨ M = 65536) ∧ M ≤ 65536 := by
      rw [e2]
      have h65 : (65536 : Int32) = nn 65536 := rfl
      by_cases c1 : nn (l * 2) < 65536
      · rw [if_pos c1]
        rw [h65] at c1
        have := (nn_lt (by omega) (by omega)).mp c1
        by_cases c2 : nn (hdl dd + tt + dd) < nn (l * 2)
        · rw [if_pos c2]
          have := (nn_lt (by omega) (by omega)).mp c2
          exact ⟨_, rfl, by omega, by omega, by omega⟩
        · rw [if_neg c2]
          have : ¬ hdl dd + tt + dd < l * 2 := fun h => c2 ((nn_lt (by omega) (by omega)).mpr h)
          exact ⟨_, rfl, by omega, by omega, by omega⟩
      · rw [if_neg c1]
        rw [h65] at c1 ⊢
        have : ¬ l * 2 < 65536 := fun h => c1 ((nn_lt (by omega) (by omega)).mpr h)
        by_cases c2 : nn (hdl dd + tt + dd) < nn 65536
        · rw [if_pos c2]
          exact ⟨_, rfl, by omega, by omega, by omega⟩
        · rw [if_neg c2]
          have : ¬ hdl dd + tt + dd < 65536 := fun h => c2 ((nn_lt (by omega) (by omega)).mpr h)
          exact ⟨_, rfl, by omega, by omega, by omega⟩
    obtain ⟨M, hM, m1, m2, m3⟩ := hM
    rw [hM, if_pos (show cN (nn M) from ⟨nn_neg (by omega), by rw [nn_tn (by omega)]; omega⟩), nn_tn (by omega)]
    have Rn := RSX_img (M := M) (x0 := x0) RS hx (by rw [hl]; omega) m3 (by rw [hl]; exact m2) (by omega)
    have hnn : S.2.2.2 = s.2.2.2 := by rw [hS2]
    refine ⟨ni S M x0, rfl, rfl, ?_, fun p q h => ?_, fun q hq _ => ?_, Rn, ?_, ?_, ?_, ?_⟩
    · show s.2.2.2 ≤ S.2.2.2 + 1
      omega
    · rw [ni_o h, er]
    · rw [ni_k (by omega), hS2]
    · rw [ni_r]
      exact ⟨cfr_n _, by show 42 + S.2.2.2 < 42 + (S.2.2.2 + 1); omega, by rw [ni_c]⟩
    · rw [ni_r]; show _ ≤ ((ni S M x0).2.2.1 _).2.1; rw [ni_c]; exact m1
    · rw [ni_r]; show ((ni S M x0).2.2.1 _).2.1 ≤ _; rw [ni_c]; exact m3
    · intro i _
      rw [ni_r, ni_c]
theorem k_prep (G : KG9 s0 k tl B ln a 0 false tt0 dd0 Q s) (htot : Q.2.2.1.length + Q.2.2.2.length ≤ 65420) : ∃ s', f15_64 s = f15_80 mm_U s' 0 ∧ KG9 s0 k tl B 0 0 (nn (bas Q.2.2.1.length)) true Q.2.2.1.length Q.2.2.2.length (Q.1, 0, [], []) s' := by
  obtain ⟨⟨L, Ls, Y, X, S, g2, g6, g7, g21, R, K, g10⟩, hK, h9, _⟩ := G
  have SP := R.2.2.2.2.2.2.2.1
  have R12 := R.2.2.2.2.2.2.2.2.2.2.2.1
  generalize htt : Q.2.2.1.length = tt at htot hK
  generalize hdd : Q.2.2.2.length = dd at htot hK
  have hx0 : s.2.1 16 1 = 18 ∨ s.2.1 16 1 = 20 := by rcases R12 with h | h; exact Or.inr h.2; exact Or.inl h.2
  have hxy : ¬ s.2.1 16 0 = s.2.1 16 1 := by rcases R12 with h | h <;> omega
  have h167 : s.1 16 7 = nn tt := by rw [← htt]; exact hK.2.2.2.1
  have h168 : s.1 16 8 = nn dd := by rw [← hdd]; exact hK.2.2.2.2.1
  generalize hxx : s.2.1 16 1 = x0 at hx0 hxy
  -- with the flag of the second time
  have F1 : CF [(11, 6), (11, 10), (16, 5)] s (cg (cg (cg s 11 6 0) 11 10 (-1)) 16 5 1) := CF_g (CF_g (CF_g (CF_refl _ _) (by decide) _) (by decide) _) (by decide) _
  obtain ⟨s2, b1, b2, b3, b4, b5, b6, b7, b8, b9, b10⟩ := k_103 (s := cg (cg (cg s 11 6 0) 11 10 (-1)) 16 5 1) (k := k) (L := L) (Ls := Ls) (tt := tt) (dd := dd) (x0 := x0) R hx0 htot
  have b3 : s.2.2.2 ≤ s2.2.2.2 := b3
  have b4 : ∀ p q, ¬ (p, q) = (x0, 4) → s2.2.1 p q = s.2.1 p q := b4
  have b5 : ∀ q, q < 42 + s.2.2.2 → ¬ q = s.2.1 x0 4 → s2.2.2.1 q = s.2.2.1 q := b5
  have F2 : CF [(x0, 1), (x0, 2), (x0, 0)] (cg (cg (cg s 11 6 0) 11 10 (-1)) 16 5 1) (cg (cg (cg (cg (cg (cg s 11 6 0) 11 10 (-1)) 16 5 1) x0 1 (nn tt)) x0 2 (nn dd)) x0 0 (nn (hdl dd + tt + dd))) := CF_g (CF_g (CF_g (CF_refl _ _) (by simp) _) (by simp) _) (by simp) _
  have f2 : ∀ i j, ¬ i = x0 → ¬ (i, j) ∈ [(11, 6), (11, 10), (16, 5)] → s2.1 i j = s.1 i j := by
    intro i j h1 h2
    rw [b2, F2.1 i j (by simp [h1]), F1.1 i j h2]
  have n11 : ¬ (11 : Nat) = x0 := by omega
  have n16 : ¬ (16 : Nat) = x0 := by omega
  have n17 : ¬ (17 : Nat) = x0 := by omega
  have n2 : ¬ (2 : Nat) = x0 := by omega
  have n0 : ¬ (0 : Nat) = x0 := by omega
  have v6 : s2.1 11 6 = 0 := by rw [b2, F2.1 11 6 (by simp [n11])]; rfl
  have v10 : s2.1 11 10 = -1 := by rw [b2, F2.1 11 10 (by simp [n11])]; rfl
  have v5 : s2.1 16 5 = 1 := by rw [b2, F2.1 16 5 (by simp [n16])]; rfl
  have vx0 : s2.1 x0 0 = nn (hdl dd + tt + dd) := by
    rw [b2]
    show (if 0 = 0 ∧ x0 = x0 then _ else _) = _
    rw [if_pos ⟨rfl, rfl⟩]
  have vx1 : s2.1 x0 1 = nn tt := by
    rw [b2]
    show (if 1 = 0 ∧ x0 = x0 then nn (hdl dd + tt + dd) else if 1 = 2 ∧ x0 = x0 then nn dd else if 1 = 1 ∧ x0 = x0 then nn tt else (cg (cg (cg s 11 6 0) 11 10 (-1)) 16 5 1).1 x0 1) = _
    rw [if_neg (by omega), if_neg (by omega), if_pos ⟨rfl, rfl⟩]
  have vx2 : s2.1 x0 2 = nn dd := by
    rw [b2]
    show (if 2 = 0 ∧ x0 = x0 then nn (hdl dd + tt + dd) else if 2 = 2 ∧ x0 = x0 then nn dd else _) = _
    rw [if_neg (by omega), if_pos ⟨rfl, rfl⟩]
  -- with the data's address
  have F3 : CF [(17, 2), (16, 6), (16, 7), (16, 8)] s2 (f21 (cg s2 17 2 (nn (bas tt)))) := CF_g (CF_g (CF_g (CF_g (CF_refl _ _) (by decide) _) (by decide) _) (by decide) _) (by decide) _
  have w172 : (f21 (cg s2 17 2 (nn (bas tt)))).1 17 2 = nn (bas tt) := rfl
  have w6 : (f21 (cg s2 17 2 (nn (bas tt)))).1 16 6 = 0 := rfl
  have w7 : (f21 (cg s2 17 2 (nn (bas tt)))).1 16 7 = 0 := rfl
  have w8 : (f21 (cg s2 17 2 (nn (bas tt)))).1 16 8 = 0 := rfl
  have hprog : f15_64 s = f15_80 mm_U (f21 (cg s2 17 2 (nn (bas tt)))) 0 := by
    unfold f15_64 f102
    rw [show (f17 s).2.1 16 1 = x0 from hxx, if_pos (show cQ x0 from hx0), show (f17 s).1 16 7 = nn tt from h167, show (f17 s).1 16 8 = nn dd from h168, show f103 x0 (cg (f17 s) 16 5 1) (nn tt) (nn dd) = some s2 from b1, Option.bind_some, show s2.1 16 7 = nn tt from (f2 16 7 n16 (by decide)).trans h167, (bas_nn (by omega)).1]
    rfl
  generalize hs3 : f21 (cg s2 17 2 (nn (bas tt))) = s3 at F3 w172 w6 w7 w8 hprog
  have f3 : ∀ i j, ¬ i = x0 → ¬ (i, j) ∈ [(11, 6), (11, 10), (16, 5)] → ¬ (i, j) ∈ [(17, 2), (16, 6), (16, 7), (16, 8)] → s3.1 i j = s.1 i j := fun i j h1 h2 h3 => (F3.1 i j h3).trans (f2 i j h1 h2)
  have r3 : ∀ p q, ¬ (p, q) = (x0, 4) → s3.2.1 p q = s.2.1 p q := fun p q h => by rw [F3.2]; exact b4 p q h
  have r3n : ∀ p q, ¬ p = x0 → s3.2.1 p q = s.2.1 p q := fun p q h => r3 p q (fun hh => h (congrArg Prod.fst hh))
  have hcell : ∀ p ∈ OW, ¬ p = (x0, 4) → s3.2.2.1 (s.2.1 p.1 p.2) = s.2.2.1 (s.2.1 p.1 p.2) := by
    intro p hp hne
    rw [F3.2]
    refine b5 _ (SP.2 p hp) (fun hh => hne ?_)
    exact SP.1 p hp (x0, 4) (by rcases hx0 with rfl | rfl <;> decide) hh
  have nle : s.2.2.2 ≤ s3.2.2.2 := by rw [F3.2]; exact b3
  have r00 := r3n 0 0 n0
  have a00 : s3.2.2.1 (s.2.1 0 0) = s.2.2.1 (s.2.1 0 0) := hcell (0, 0) (by decide) (fun hh => n0 (congrArg Prod.fst hh))
  have r117 := (r3n 11 7 n11).trans g7
  have r21 := (r3n 2 1 n2).trans g21
  have R3 : RSX s3 k L Ls := RSX_wf (WF_cf (Q := []) F3) b6
  have hy4 : ∀ y, y = s.2.1 16 0 → (y = 18 ∨ y = 20) → s3.2.2.1 (s.2.1 y 4) = s.2.2.1 (s.2.1 y 4) := by
    intro y hy hyy
    have hne : ¬ y = x0 := fun h => hxy (by rw [← hy]; exact h)
    exact hcell (y, 4) (by rcases hyy with rfl | rfl <;> decide) (fun hh => hne (congrArg Prod.fst hh))
  have hy : s.2.1 16 0 = 18 ∨ s.2.1 16 0 = 20 := by rcases R12 with h | h; exact Or.inl h.1; exact Or.inr h.1
  have K3 : KP s s3 := by
    refine ⟨fun j => f3 0 j n0 (by simp) (by simp), fun j => f3 _ j hxy ?_ ?_, r00, r3n 16 0 n16, r3n 16 1 n16, r3n _ 4 hxy, a00, hy4 _ rfl hy, f3 11 8 n11 (by decide) (by decide), f3 11 0 n11 (by decide) (by decide), f3 11 1 n11 (by decide) (by decide), f3 11 2 n11 (by decide) (by decide)⟩
    · rcases hy with h | h <;> rw [h] <;> simp
    · rcases hy with h | h <;> rw [h] <;> simp
  refine ⟨s3, hprog, ⟨L, Ls, ?_, ?_, ?_, w172, ?_, by rw [r117, r00], by rw [r21, r00], R3, KP_trans K K3, ?_⟩, ?_, ?_, fun _ => ?_⟩
  · unfold BY
    rw [r117, a00]
    obtain ⟨x1, x2, x3, x4, x5⟩ := X
    rw [g21] at x5
    exact x5
  · obtain ⟨x1, x2, x3, x4, x5⟩ := X
    rw [g21] at x1 x2 x3 x4 x5
    unfold SXT cl cA
    rw [r21, a00]
    exact ⟨⟨x1.1, by have := x1.2.1; omega, x1.2.2⟩, x2, x3, x4, x5⟩
  · refine SYM_keep (f3 2 0 n2 (by decide) (by decide)) (fun kk => r3n 2 kk n2) (fun kk h2 h9 => ?_) nle S
    have hO : (2, kk) ∈ OW := by
      have : kk = 2 ∨ kk = 3 ∨ kk = 4 ∨ kk = 5 ∨ kk = 6 ∨ kk = 7 ∨ kk = 8 := by omega
      rcases this with rfl | rfl | rfl | rfl | rfl | rfl | rfl <;> decide
    exact hcell (2, kk) hO (fun hh => n2 (congrArg Prod.fst hh))
  · rw [F3.1 11 6 (by decide), v6]; rfl
  · rw [F3.1 11 10 (by decide), v10]; decide
  · exact ⟨by rw [F3.1 16 5 (by decide), v5]; rfl, Nat.zero_le _, w6, w7, w8, Nat.zero_le _, Nat.zero_le _⟩
  · rw [f3 16 9 n16 (by decide) (by decide)]; exact h9
  · have e161 : s3.2.1 16 1 = x0 := (r3n 16 1 n16).trans hxx
    have e4 : s3.2.1 x0 4 = s2.2.1 x0 4 := by rw [F3.2]
    have fx : ∀ j, s3.1 x0 j = s2.1 x0 j := fun j => F3.1 x0 j (by rcases hx0 with rfl | rfl <;> simp)
    have a2 : s3.2.2.1 = s2.2.2.1 := by rw [F3.2]
    have n2' : s3.2.2.2 = s2.2.2.2 := by rw [F3.2]
    unfold IMG cA cl
    rw [e161, e4, fx, fx, fx, a2, n2', vx0, vx1, vx2]
    exact ⟨hx0, rfl, rfl, rfl, b7, b8, b9, Nat.zero_le _, Nat.zero_le _, fun o ho => by rw [b10 _ (by have : hdl dd + tt + dd ≤ cl s2 (s2.2.1 x0 4) := b8; omega)]; rfl, fun o ho => by rw [b10 _ (by have : hdl dd + tt + dd ≤ cl s2 (s2.2.1 x0 4) := b8; omega)]; rfl, fun i hi => b10 i (by have : hdl dd + tt + dd ≤ cl s2 (s2.2.1 x0 4) := b8; omega)⟩
end KP9
