/-! THE CLASS adds symbols. -/
theorem csz_same {c c' : cS} (hn : c'.2.2.2 = c.2.2.2) (h : ∀ q, q < 42 + c.2.2.2 → (c'.2.2.1 q).1 = (c.2.2.1 q).1 ∧ (c'.2.2.1 q).2.1 = (c.2.2.1 q).2.1) : csz c' = csz c := by
  unfold csz
  rw [hn]
  congr 1
  apply List.map_congr_left
  intro i hi
  rw [List.mem_range] at hi
  rw [(h i hi).1, (h i hi).2]
theorem csz_new {c c' : cS} {t m : Nat} (hn : c'.2.2.2 = c.2.2.2 + 1) (h : ∀ q, q < 42 + c.2.2.2 → (c'.2.2.1 q).1 = (c.2.2.1 q).1 ∧ (c'.2.2.1 q).2.1 = (c.2.2.1 q).2.1) (h2 : (c'.2.2.1 (42 + c.2.2.2)).1 = t ∧ (c'.2.2.1 (42 + c.2.2.2)).2.1 = m) : csz c' = csz c + (if t = 9 then 6 else m) := by
  unfold csz
  rw [hn, show 42 + (c.2.2.2 + 1) = (42 + c.2.2.2) + 1 by omega, List.range_succ, List.map_append, List.sum_append]
  have e1 : List.map (fun i => bif cfr i then (if (c'.2.2.1 i).1 = 9 then 6 else (c'.2.2.1 i).2.1) else 0) (List.range (42 + c.2.2.2)) = List.map (fun i => bif cfr i then (if (c.2.2.1 i).1 = 9 then 6 else (c.2.2.1 i).2.1) else 0) (List.range (42 + c.2.2.2)) := by
    apply List.map_congr_left
    intro i hi
    rw [List.mem_range] at hi
    rw [(h i hi).1, (h i hi).2]
  have hc : cfr (42 + c.2.2.2) = true := by
    unfold cfr
    split
    all_goals first | omega | skip
    simp
  rw [e1]
  simp only [List.map_cons, List.map_nil, List.sum_cons, List.sum_nil, hc, h2.1, h2.2, cond_true, Nat.add_zero]
theorem WF_csz {I : List (Nat × Nat)} {Q : List Nat} {c c' : cS} (F : WF I Q c c') : csz c' = csz c := csz_same F.2.2.1 (fun q _ => F.2.2.2.1 q)
/-- who has an array of its own -/
def OW : List (Nat × Nat) := [(0, 0), (11, 11), (11, 12), (11, 13), (2, 2), (2, 3), (2, 4), (2, 5), (2, 6), (2, 7), (2, 8), (18, 4), (20, 4)]
def SEP (c : cS) : Prop := (∀ p ∈ OW, ∀ q ∈ OW, c.2.1 p.1 p.2 = c.2.1 q.1 q.2 → p = q) ∧ ∀ p ∈ OW, c.2.1 p.1 p.2 < 42 + c.2.2.2
theorem SEP_of {c c' : cS} (h : c'.2.1 = c.2.1) (hn : c.2.2.2 ≤ c'.2.2.2) (S : SEP c) : SEP c' := by
  refine ⟨?_, fun p hp => ?_⟩
  · rw [h]; exact S.1
  · rw [h]; have := S.2 p hp; omega
theorem SEP_wf {I : List (Nat × Nat)} {Q : List Nat} {c c' : cS} (F : WF I Q c c') (S : SEP c) : SEP c' := SEP_of F.2.1 (by rw [F.2.2.1]; exact Nat.le_refl _) S
theorem SEP_new {c c' : cS} {i j : Nat} (hij : (i, j) ∈ OW) (h1 : c'.2.1 i j = 42 + c.2.2.2) (h2 : ∀ p q, ¬ (p, q) = (i, j) → c'.2.1 p q = c.2.1 p q) (hn : c'.2.2.2 = c.2.2.2 + 1) (S : SEP c) : SEP c' := by
  refine ⟨fun p hp q hq h => ?_, fun p hp => ?_⟩
  · by_cases e1 : p = (i, j)
    · by_cases e2 : q = (i, j)
      · rw [e1, e2]
      · rw [e1] at h
        have := h2 q.1 q.2 e2
        rw [this, h1] at h
        have := S.2 q hq
        omega
    · by_cases e2 : q = (i, j)
      · rw [e2] at h
        have := h2 p.1 p.2 e1
        rw [this, h1] at h
        have := S.2 p hp
        omega
      · rw [h2 p.1 p.2 e1, h2 q.1 q.2 e2] at h
        exact S.1 p hp q hq h
  · by_cases e1 : p = (i, j)
    · rw [e1, h1, hn]; omega
    · rw [h2 p.1 p.2 e1, hn]; have := S.2 p hp; omega
/-- a new array -/
def NW (t m : Nat) (g : Nat → Int32) (c c' : cS) : Prop := c'.1 = c.1 ∧ c'.2.1 = c.2.1 ∧ c'.2.2.2 = c.2.2.2 + 1 ∧ c'.2.2.1 (42 + c.2.2.2) = (t, m, g) ∧ ∀ q, ¬ q = 42 + c.2.2.2 → c'.2.2.1 q = c.2.2.1 q
theorem k_copy {s : cS} {q L : Nat} (hA : cA s 1 q) (hL : cl s q = L) (h0 : 0 < L) (h1 : 2 * L ≤ 1000000) : ∃ s' g, f64 s q (nn (2 * L)) = some (42 + s.2.2.2, s') ∧ NW 1 (2 * L) g s s' ∧ ∀ i, i < L → g i = (s.2.2.1 q).2.2 i := by
  have tn : (nn (2 * L)).toNatClampNeg = 2 * L := nn_tn (by omega)
  have tL : (nn L).toNatClampNeg = L := nn_tn (by omega)
  have hq : ¬ q = 42 + s.2.2.2 := by have := hA.2.1; omega
  have e1 : (cn s 1 (2 * L)).2.2.1 q = s.2.2.1 q := by
    show (if q = 42 + s.2.2.2 then _ else s.2.2.1 q) = _
    rw [if_neg hq]
  have e2 : (cn s 1 (2 * L)).2.2.1 (42 + s.2.2.2) = (1, 2 * L, fun _ => 0) := by
    show (if 42 + s.2.2.2 = 42 + s.2.2.2 then _ else _) = _
    rw [if_pos rfl]
  have hcl : cl (cn s 1 (2 * L)) q = L := by show ((cn s 1 (2 * L)).2.2.1 q).2.1 = L; rw [e1]; exact hL
  have hA1 : cA (cn s 1 (2 * L)) 1 q := ⟨hA.1, by show q < 42 + (s.2.2.2 + 1); have := hA.2.1; omega, by rw [e1]; exact hA.2.2⟩
  have hcn : cfr (42 + s.2.2.2) = true := by
    unfold cfr
    split
    all_goals first | omega | skip
    simp
  have hA2 : cA (cn s 1 (2 * L)) 1 (42 + s.2.2.2) := ⟨hcn, by show 42 + s.2.2.2 < 42 + (s.2.2.2 + 1); omega, by rw [e2]⟩
  have z0 : ((0 : Int32)).toNatClampNeg = 0 := rfl
  have hmin : (if nn (2 * L) < Int32.ofNat (cl (cn s 1 (2 * L)) q) then nn (2 * L) else Int32.ofNat (cl (cn s 1 (2 * L)) q)) = nn L := by
    rw [hcl, if_neg]
    show ¬ nn (2 * L) < nn L
    rw [nn_lt (by omega) (by omega)]
    omega
  refine ⟨cy (cn s 1 (2 * L)) q 0 (42 + s.2.2.2) 0 (nn L), va_cpy (s.2.2.1 q).2.2 (fun _ => 0) 0 0 L, ?_, ⟨rfl, rfl, rfl, ?_, ?_⟩, ?_⟩
  · unfold f64
    rw [if_pos hA, hL, if_neg, if_pos ⟨nn_neg (by omega), by rw [tn]; exact h1⟩, tn, if_pos hA1, hmin, if_pos]
    · refine ⟨hA1, hA2, by decide, by decide, nn_neg (by omega), ?_, ?_, fun h => by cases h⟩
      · rw [z0, tL, hcl]; omega
      · rw [z0, tL]; show 0 + L ≤ ((cn s 1 (2 * L)).2.2.1 (42 + s.2.2.2)).2.1; rw [e2]; show 0 + L ≤ 2 * L; omega
    · show ¬ nn (2 * L) = nn L
      rw [nn_eq (by omega) (by omega)]
      omega
  · show (if 42 + s.2.2.2 = 42 + s.2.2.2 then (((cn s 1 (2 * L)).2.2.1 (42 + s.2.2.2)).1, ((cn s 1 (2 * L)).2.2.1 (42 + s.2.2.2)).2.1, va_cpy ((cn s 1 (2 * L)).2.2.1 q).2.2 ((cn s 1 (2 * L)).2.2.1 (42 + s.2.2.2)).2.2 ((0 : Int32)).toNatClampNeg ((0 : Int32)).toNatClampNeg (nn L).toNatClampNeg) else _) = _
    rw [if_pos rfl, e1, e2, z0, tL]
  · intro p hp
    show (if p = 42 + s.2.2.2 then _ else (cn s 1 (2 * L)).2.2.1 p) = _
    rw [if_neg hp]
    show (if p = 42 + s.2.2.2 then _ else s.2.2.1 p) = _
    rw [if_neg hp]
  · intro i hi
    unfold va_cpy
    rw [if_pos ⟨by omega, by omega⟩, Nat.sub_zero, Nat.zero_add]
/-- k of the six arrays are copied -/
def GR (s0 : cS) (L k : Nat) (s : cS) : Prop := s.1 = s0.1 ∧ s.2.2.2 = s0.2.2.2 + k ∧ (∀ i j, ¬ (i = 2 ∧ 3 ≤ j ∧ j < 3 + k) → s.2.1 i j = s0.2.1 i j) ∧ (∀ j, j < k → s.2.1 2 (3 + j) = 42 + s0.2.2.2 + j ∧ (s.2.2.1 (42 + s0.2.2.2 + j)).1 = 1 ∧ (s.2.2.1 (42 + s0.2.2.2 + j)).2.1 = 2 * L ∧ ∀ i, i < L → (s.2.2.1 (42 + s0.2.2.2 + j)).2.2 i = (s0.2.2.1 (s0.2.1 2 (3 + j))).2.2 i) ∧ (∀ q, q < 42 + s0.2.2.2 → s.2.2.1 q = s0.2.2.1 q) ∧ csz s = csz s0 + k * (2 * L) ∧ SEP s
theorem gr_step {s0 s : cS} {L k : Nat} (h : GR s0 L k s) (hk : k < 6) (hA : cA s0 1 (s0.2.1 2 (3 + k))) (hL : cl s0 (s0.2.1 2 (3 + k)) = L) (h0 : 0 < L) (h1 : 2 * L ≤ 1000000) : ∃ r, f64 s (s.2.1 2 (3 + k)) (nn (2 * L)) = some r ∧ GR s0 L (k + 1) (cr r.2 2 (3 + k) r.1) := by
  obtain ⟨g1, g2, g3, g4, g5, g6, g7⟩ := h
  have er : s.2.1 2 (3 + k) = s0.2.1 2 (3 + k) := g3 2 (3 + k) (by omega)
  have ea : s.2.2.1 (s0.2.1 2 (3 + k)) = s0.2.2.1 (s0.2.1 2 (3 + k)) := g5 _ hA.2.1
  obtain ⟨s', g, c1, c2, c3⟩ := k_copy (s := s) (q := s.2.1 2 (3 + k)) (L := L) (by rw [er]; exact ⟨hA.1, by rw [g2]; have := hA.2.1; omega, by rw [ea]; exact hA.2.2⟩) (by rw [er]; show (s.2.2.1 _).2.1 = L; rw [ea]; exact hL) h0 h1
  obtain ⟨d1, d2, d3, d4, d5⟩ := c2
  have hne : ∀ q, q < 42 + s.2.2.2 → s'.2.2.1 q = s.2.2.1 q := fun q hq => d5 q (by omega)
  have hcs : csz s' = csz s + 2 * L := by
    have := csz_new (c := s) (c' := s') (t := 1) (m := 2 * L) d3 (fun q hq => by rw [hne q hq]; exact ⟨rfl, rfl⟩) (by rw [d4]; exact ⟨rfl, rfl⟩)
    rw [this, if_neg (by decide)]
  refine ⟨_, c1, ?_, ?_, ?_, ?_, ?_, ?_, ?_⟩
  · show s'.1 = s0.1; rw [d1, g1]
  · show s'.2.2.2 = _; rw [d3, g2]; omega
  · intro i j hij
    show (if j = 3 + k ∧ i = 2 then _ else s'.2.1 i j) = _
    rw [if_neg (by omega), d2]
    exact g3 i j (by omega)
  · intro j hj
    show (if 3 + j = 3 + k ∧ 2 = 2 then 42 + s.2.2.2 else s'.2.1 2 (3 + j)) = _ ∧ (s'.2.2.1 _).1 = 1 ∧ (s'.2.2.1 _).2.1 = 2 * L ∧ ∀ i, i < L → (s'.2.2.1 _).2.2 i = _
    by_cases hjk : j = k
    · subst hjk
      have e9 : 42 + s0.2.2.2 + j = 42 + s.2.2.2 := by omega
      rw [if_pos ⟨rfl, rfl⟩, e9, d4]
      refine ⟨rfl, rfl, rfl, fun i hi => ?_⟩
      rw [show (1, 2 * L, g).2.2 i = g i from rfl, c3 i hi, er, ea]
    · rw [if_neg (by omega), d2, hne _ (by omega)]
      exact g4 j (by omega)
  · intro q hq
    show s'.2.2.1 q = _
    rw [hne q (by omega)]
    exact g5 q hq
  · show csz s' = _
    rw [hcs, g6, show (k + 1) * (2 * L) = k * (2 * L) + 2 * L from Nat.succ_mul k (2 * L)]; omega
  · refine SEP_new (c := s) (i := 2) (j := 3 + k) ?_ ?_ ?_ ?_ g7
    · have : k = 0 ∨ k = 1 ∨ k = 2 ∨ k = 3 ∨ k = 4 ∨ k = 5 := by omega
      rcases this with rfl | rfl | rfl | rfl | rfl | rfl <;> decide
    · show (if 3 + k = 3 + k ∧ 2 = 2 then 42 + s.2.2.2 else _) = _
      rw [if_pos ⟨rfl, rfl⟩]
    · intro p q hpq
      show (if q = 3 + k ∧ p = 2 then _ else s'.2.1 p q) = _
      rw [if_neg (fun h => hpq (by rw [h.1, h.2])), d2]
    · exact d3
theorem k_grow {s : cS} {L : Nat} (hA : ∀ k, 3 ≤ k → k ≤ 8 → cA s 1 (s.2.1 2 k) ∧ cl s (s.2.1 2 k) = L) (h0 : 0 < L) (h1 : 2 * L ≤ 1000000) (S : SEP s) : ∃ s', f63 s = some s' ∧ GR s L 6 s' := by
  have G0 : GR s L 0 s := ⟨rfl, rfl, fun _ _ _ => rfl, fun j hj => by omega, fun _ _ => rfl, by omega, S⟩
  obtain ⟨r1, e1, G1⟩ := gr_step G0 (by decide) (hA 3 (by decide) (by decide)).1 (hA 3 (by decide) (by decide)).2 h0 h1
  obtain ⟨r2, e2, G2⟩ := gr_step G1 (by decide) (hA 4 (by decide) (by decide)).1 (hA 4 (by decide) (by decide)).2 h0 h1
  obtain ⟨r3, e3, G3⟩ := gr_step G2 (by decide) (hA 5 (by decide) (by decide)).1 (hA 5 (by decide) (by decide)).2 h0 h1
  obtain ⟨r4, e4, G4⟩ := gr_step G3 (by decide) (hA 6 (by decide) (by decide)).1 (hA 6 (by decide) (by decide)).2 h0 h1
  obtain ⟨r5, e5, G5⟩ := gr_step G4 (by decide) (hA 7 (by decide) (by decide)).1 (hA 7 (by decide) (by decide)).2 h0 h1
  obtain ⟨r6, e6, G6⟩ := gr_step G5 (by decide) (hA 8 (by decide) (by decide)).1 (hA 8 (by decide) (by decide)).2 h0 h1
  refine ⟨_, ?_, G6⟩
  have hm : Int32.ofNat (cl s (s.2.1 2 4)) * 2 = nn (2 * L) := by
    rw [(hA 4 (by decide) (by decide)).2]
    show nn L * nn 2 = nn (2 * L)
    rw [Nat.mul_comm]
    exact (Int32.ofNat_mul L 2).symm
  unfold f63
  rw [if_pos (hA 4 (by decide) (by decide)).1, hm]
  have e1 : f64 s (s.2.1 2 3) (nn (2 * L)) = some r1 := e1
  have e2 : f64 (cr r1.2 2 3 r1.1) (r1.2.2.1 2 4) (nn (2 * L)) = some r2 := e2
  have e3 : f64 (cr r2.2 2 4 r2.1) (r2.2.2.1 2 5) (nn (2 * L)) = some r3 := e3
  have e4 : f64 (cr r3.2 2 5 r3.1) (r3.2.2.1 2 6) (nn (2 * L)) = some r4 := e4
  have e5 : f64 (cr r4.2 2 6 r4.1) (r4.2.2.1 2 7) (nn (2 * L)) = some r5 := e5
  have e6 : f64 (cr r5.2 2 7 r5.1) (r5.2.2.1 2 8) (nn (2 * L)) = some r6 := e6
  simp only [e1, Option.bind_some, e2, e3, e4, e5, e6]
