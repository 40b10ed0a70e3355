/-! THE REFERENCE's cursor, and goesOn by the token at hand. -/
def MC (m : mS) (B : Nat → Nat) (z : Nat) (ts : List Tk) : Prop := TX m B z ∧ ∃ t r, ts = t :: r ∧ m.1 18 = nn t.2.2.2.1 ∧ m.1 20 = tcode t.1 ∧ m.1 21 = nn t.2.1 ∧ m.1 23 = tflaw t ∧ tvm B z t (m.1 22) (m.1 24) (m.2 25) ∧ t.2.2.2.1 < 70000 ∧ t.2.1 < 70000 ∧ t.1 < 256 ∧ (∀ w, t.2.2.2.2 = some w → w < 70000) ∧ (¬ t.1 = 0 → t.2.2.2.2 = none → r = tks B z t.2.2.2.1 ∧ t.2.2.2.1 ≤ z) ∧ (4 < t.1 → ¬ t.1 = 60 → ¬ t.1 = 62 → t.2.2.2.2 = none) ∧ (t.1 = 1 → t.2.1 < t.2.2.2.1 ∧ NM B z t.2.1 (t.2.2.2.1 - t.2.1))
section MCU
variable {m m' : mS} {B : Nat → Nat} {z : Nat} {ts : List Tk} {t : Tk} {r : List Tk} {I A : List Nat} {mode : Int32}
theorem MC_fr (h : FR I A m m') (M : MC m B z ts) (h1 : ¬ 17 ∈ I ∧ ¬ 18 ∈ I ∧ ¬ 20 ∈ I ∧ ¬ 21 ∈ I ∧ ¬ 22 ∈ I ∧ ¬ 23 ∈ I ∧ ¬ 24 ∈ I) (h2 : ¬ 4 ∈ A ∧ ¬ 25 ∈ A) : MC m' B z ts := by
  obtain ⟨⟨x1, x2, x3, x4⟩, t, r, e0, e1, e2, e3, e4, e5, e6⟩ := M
  refine ⟨⟨?_, x2, x3, ?_⟩, t, r, e0, ?_, ?_, ?_, ?_, ?_, e6⟩
  · rw [h.1 17 h1.1]; exact x1
  · rw [h.2 4 h2.1]; exact x4
  · rw [h.1 18 h1.2.1]; exact e1
  · rw [h.1 20 h1.2.2.1]; exact e2
  · rw [h.1 21 h1.2.2.2.1]; exact e3
  · rw [h.1 23 h1.2.2.2.2.2.1]; exact e4
  · rw [h.1 22 h1.2.2.2.2.1, h.1 24 h1.2.2.2.2.2.2, h.2 25 h2.2]; exact e5
theorem tk_bnd (hB : ∀ i, B i < 256) (hz : z ≤ 65536) {p : Nat} (hp : p ≤ z) : (tk B z p).2.2.2.1 < 70000 ∧ (tk B z p).2.1 < 70000 ∧ (tk B z p).1 < 256 ∧ ∀ w, (tk B z p).2.2.2.2 = some w → w < 70000 := by
  have ht := tk_tok (a := 0) hB (Nat.zero_le p) hp hz
  refine ⟨?_, by have := ht.2.2.1; omega, ht.1, ht.2.2.2.2.2⟩
  have hs := sk_le (B := B) hp
  unfold tk
  by_cases he : sk B z p = z ∨ gb B z (sk B z p) = 35
  · rw [if_pos he]; show sk B z p < 70000; omega
  · rw [if_neg he]
    have hlt : sk B z p < z := Nat.lt_of_le_of_ne hs.2 (fun hh => he (Or.inl hh))
    generalize sk B z p = q at hlt
    unfold lx
    by_cases h1 : isB (gb B z q) = true ∧ (¬ gb B z q = 46 ∨ isN (gb B z (q + 1)) = true)
    · rw [if_pos h1]
      have := scan_le (P := fun i => isN (B i)) (Nat.le_of_lt hlt)
      show scan _ _ _ < 70000; omega
    rw [if_neg h1]
    by_cases h2 : isD (gb B z q) = true
    · rw [if_pos h2]
      by_cases h3 : gb B z q = 48 ∧ gb B z (q + 1) = 120
      · rw [if_pos h3]
        have hp1 : q + 1 < z := Nat.lt_of_not_le (fun hh => by have := h3.2; rw [gb_out hh] at this; omega)
        have := scan_le (P := fun i => isH (B i)) (show q + 2 ≤ z by omega)
        show scan _ _ _ < 70000; omega
      · rw [if_neg h3]
        have := scan_le (P := fun i => isD (B i)) (Nat.le_of_lt hlt)
        show scan _ _ _ < 70000; omega
    rw [if_neg h2]
    by_cases h4 : gb B z q = 39
    · rw [if_pos h4]
      have := wid_le B z (q + 1)
      show q + 1 + wid B z (q + 1) + 1 < 70000; omega
    rw [if_neg h4]
    by_cases h5 : gb B z q = 34
    · rw [if_pos h5]
      have hE := strE_le B z (z - q) (q + 1) (by omega)
      have := wid_le B z (strE B z (z - q) (q + 1))
      by_cases hc : gb B z (strE B z (z - q) (q + 1)) = 34
      · simp only [if_pos hc]; omega
      · simp only [if_neg hc]; omega
    rw [if_neg h5]
    by_cases h6 : gb B z q = 60 ∨ gb B z q = 62
    · rw [if_pos h6]; show q + 2 < 70000; omega
    rw [if_neg h6]
    by_cases h7 : sgn (gb B z q) = true
    · rw [if_pos h7]; show q + 1 < 70000; omega
    · rw [if_neg h7]; show q + 1 < 70000; omega
/-- next() lays the first of the tokens from p -/
theorem m_nextC (T : TX m B z) {p : Nat} (hp : m.1 18 = nn p) (hpz : p ≤ z) : ∃ m', f117 m = some m' ∧ MC m' B z (tks B z p) ∧ FR [18, 20, 21, 22, 23, 24] [25] m m' := by
  have hz := T.2.1
  obtain ⟨vl, mn, str, e1, e2⟩ := m_next T hp (by omega)
  refine ⟨_, e1, ⟨T, ?_⟩, ?_⟩
  · have hb := tk_bnd T.2.2.1 hz hpz
    have hs8 := tk_tok (a := 0) T.2.2.1 (Nat.zero_le p) hpz hz
    have hs9 : (4 < (tk B z p).1 → ¬ (tk B z p).1 = 60 → ¬ (tk B z p).1 = 62 → (tk B z p).2.2.2.2 = none) ∧ ((tk B z p).1 = 1 → (tk B z p).2.1 < (tk B z p).2.2.2.1 ∧ NM B z (tk B z p).2.1 ((tk B z p).2.2.2.1 - (tk B z p).2.1)) := ⟨hs8.2.2.2.2.1, fun h => (hs8.2.2.2.1 h).2⟩
    rw [tks_un hpz]
    by_cases h0 : (tk B z p).1 = 0
    · rw [if_pos h0]
      exact ⟨_, _, rfl, rfl, rfl, rfl, rfl, e2, hb.1, hb.2.1, hb.2.2.1, hb.2.2.2, fun hh => absurd h0 hh, hs9⟩
    · rw [if_neg h0]
      by_cases hf : (tk B z p).2.2.2.2 = none
      · rw [if_pos hf]
        exact ⟨_, _, rfl, rfl, rfl, rfl, rfl, e2, hb.1, hb.2.1, hb.2.2.1, hb.2.2.2, fun _ _ => ⟨rfl, (tk_next hpz h0 hf).2⟩, hs9⟩
      · rw [if_neg hf]
        exact ⟨_, _, rfl, rfl, rfl, rfl, rfl, e2, hb.1, hb.2.1, hb.2.2.1, hb.2.2.2, fun _ hh => absurd hh hf, hs9⟩
  · refine ⟨fun k hk => ?_, fun k hk => ?_⟩
    · simp only [List.mem_cons, List.not_mem_nil, or_false, not_or] at hk
      unfold mx
      simp only [hk, if_false]
    · simp only [List.mem_cons, List.not_mem_nil, or_false] at hk
      unfold mx
      simp only [hk, if_false]
theorem m_adv (M : MC m B z (t :: r)) (h0 : ¬ t.1 = 0) (hf : t.2.2.2.2 = none) : ∃ m', f117 m = some m' ∧ MC m' B z r ∧ FR [18, 20, 21, 22, 23, 24] [25] m m' := by
  obtain ⟨T, t', r', e0, e1, e2, e3, e4, e5, e6, e7, e8, e9, e10⟩ := M
  obtain ⟨rfl, rfl⟩ := List.cons.inj e0
  obtain ⟨q1, q2⟩ := e10.1 h0 hf
  rw [q1]
  exact m_nextC T e1 q2
/-- next() anywhere: it goes through -/
theorem m_nextS (T : TX m B z) {p : Nat} (hp : m.1 18 = nn p) (hpz : p < 600000) : ∃ m', f117 m = some m' ∧ FR [18, 20, 21, 22, 23, 24] [25] m m' := by
  obtain ⟨vl, mn, str, e1, e2⟩ := m_next T hp hpz
  refine ⟨_, e1, fun k hk => ?_, fun k hk => ?_⟩
  · simp only [List.mem_cons, List.not_mem_nil, or_false, not_or] at hk
    unfold mx
    simp only [hk, if_false]
  · simp only [List.mem_cons, List.not_mem_nil, or_false] at hk
    unfold mx
    simp only [hk, if_false]
theorem tcode_4 {k : Nat} : tcode k = 4 ↔ 4 ≤ k := by
  unfold tcode
  by_cases h0 : k = 0
  · subst h0; decide
  by_cases h1 : k = 1
  · subst h1; decide
  by_cases h2 : k = 2
  · subst h2; decide
  by_cases h3 : k = 3
  · subst h3; decide
  rw [if_neg h0, if_neg h1, if_neg h2, if_neg h3]
  exact ⟨fun _ => by omega, fun _ => rfl⟩
theorem lev_sgn {g : Nat} (h : sgn g = false) (h1 : ¬ g = 60) (h2 : ¬ g = 62) : lev g = 0 := by
  unfold sgn at h
  simp only [decide_eq_false_iff_not] at h
  unfold lev
  rw [if_neg (by omega), if_neg (by omega), if_neg (by omega), if_neg (by omega), if_neg (by omega), if_neg (by omega), if_neg h1, if_neg h2, if_neg (by omega), if_neg (by omega)]
/-- goesOn, by the token at hand -/
theorem m_goes (M : MC m B z (t :: r)) (h11 : m.1 11 = 0) : f156 m mode = if lev t.1 = 0 then f156_86 mm_U m mode else (f130 m).bind fun r1 => f156_35 mm_U r1 mode (nn (lev t.1)) := by
  obtain ⟨T, t', r', e0, e1, e2, e3, e4, e5, e6, e7, e8, e9, e10⟩ := M
  obtain ⟨rfl, rfl⟩ := List.cons.inj e0
  have hlev := lev_le t.1
  unfold f156 f156_25 f156_26
  have z0 : ¬ nn (lev t.1) ≤ (0 : Int32) ∨ lev t.1 = 0 := by
    by_cases h : lev t.1 = 0
    · exact Or.inr h
    · refine Or.inl (fun hh => ?_)
      have hh : nn (lev t.1) ≤ nn 0 := hh
      have := (nn_le (by omega) (by omega)).mp hh
      omega
  by_cases h4 : 4 ≤ t.1
  · rw [if_pos (by rw [e2]; exact tcode_4.mpr h4), if_pos h11]
    have el : f150 (m.1 22) = nn (lev t.1) := by
      by_cases h44 : t.1 = 4
      · obtain ⟨q1, q2, q3, q4⟩ := e5.2.2.1 h44
        have hg := gb_lt T.2.2.1 z t.2.1
        rw [q1, f150_nn hg, lev_sgn q2 q3 q4, h44]
        rfl
      · rw [e5.2.1 (by omega), f150_nn e8]
    rw [el]
    by_cases h : lev t.1 = 0
    · rw [if_pos h, h, if_pos (by decide)]
    · rcases z0 with z0 | z0
      · rw [if_neg h, if_neg z0]
      · exact absurd z0 h
  · have h0 : lev t.1 = 0 := by
      refine Decidable.byContradiction (fun hh => ?_)
      have := lev_pos (show 0 < lev t.1 by omega)
      omega
    rw [if_neg (by rw [e2]; exact fun hh => h4 (tcode_4.mp hh)), if_pos (by decide), if_pos h0]
end MCU
section MCV
variable {m : mS} {B : Nat → Nat} {z : Nat} {t : Tk} {r : List Tk} {V : List Int32} {S : List Sg} {d k w : Nat} {x y f9 s9 mode : Int32}
theorem ST_fr {I A : List Nat} {m' : mS} (h : FR I A m m') (T : ST m V S d) (h1 : ¬ 39 ∈ I ∧ ¬ 40 ∈ I ∧ ¬ 41 ∈ I) (h2 : ¬ 42 ∈ A ∧ ¬ 43 ∈ A ∧ ¬ 44 ∈ A ∧ ¬ 45 ∈ A ∧ ¬ 46 ∈ A) : ST m' V S d := by
  obtain ⟨a1, a2, a3, a4, a5, a6, a7⟩ := T
  refine ⟨by rw [h.1 39 h1.1]; exact a1, by rw [h.1 40 h1.2.1]; exact a2, by rw [h.1 41 h1.2.2]; exact a3, by rw [h.2 42 h2.1]; exact a4, SL_eq (h.2 43 h2.2.1) (h.2 44 h2.2.2.1) (h.2 45 h2.2.2.2.1) (h.2 46 h2.2.2.2.2) a5, a6, a7⟩
theorem tflaw_none {t : Tk} (h : t.2.2.2.2 = none) (h4 : ¬ t.1 = 4) : tflaw t = -1 := by unfold tflaw; rw [if_neg h4, h]
theorem tflaw_some {t : Tk} {w : Nat} (h : t.2.2.2.2 = some w) (h4 : ¬ t.1 = 4) : tflaw t = nn w := by unfold tflaw; rw [if_neg h4, h]
/-- a pending operator may be reduced before goesOn -/
theorem m_comm (M : MC m B z (t :: r)) (h11 : m.1 11 = 0) (hb : bz (m.1 38)) (T : ST m (y :: x :: V) ((k, w, f9, s9) :: S) d) (hk2 : k < 256) (hk : 0 < lev k) (hkl : lev t.1 ≤ lev k) (hz : (k = 47 ∨ k = 37) → ¬ y = 0) : f156 m mode = f156 (rdS m S.length V.length (wk k x y)) mode := by
  have F := rdS_fr (m := m) S.length V.length (wk k x y)
  have M' : MC (rdS m S.length V.length (wk k x y)) B z (t :: r) := MC_fr F M (by decide) (by decide)
  rw [m_goes M h11, m_goes M' h11]
  by_cases h0 : lev t.1 = 0
  · rw [if_pos h0, if_pos h0]
    exact g86_red T hk2 hk hz hb
  rw [if_neg h0, if_neg h0]
  have h4 : ¬ t.1 = 4 := by
    have := lev_pos (show 0 < lev t.1 by omega)
    omega
  obtain ⟨TXm, t', r', e0, e1, e2, e3, e4, e5, e6, e7, e8, e9, e10⟩ := M
  obtain ⟨rfl, rfl⟩ := List.cons.inj e0
  have e4' : (rdS m S.length V.length (wk k x y)).1 23 = m.1 23 := rfl
  unfold f130
  rw [e4', e4]
  cases hf : t.2.2.2.2 with
  | none =>
    rw [tflaw_none hf h4, if_pos (by decide), if_pos (by decide), Option.bind_some, Option.bind_some]
    exact g35_red T hk2 (by omega) hkl hz hb
  | some w9 =>
    have := e9 w9 hf
    rw [tflaw_some hf h4, if_neg (nn_neg (by omega)), if_neg (nn_neg (by omega))]
    obtain ⟨mF, f1, f2, f3, f4, f5, f6⟩ := fail_red (m := m) S.length V.length (wk k x y) 1 (nn w9) h11
    rw [f1, f2]
    simp only [Option.bind_some]
    have TF : ST mF (y :: x :: V) ((k, w, f9, s9) :: S) d := ST_fr f3 T (by decide) (by decide)
    have hbF : bz (mF.1 38) := by rw [f3.1 38 (by decide)]; exact hb
    exact g35_red TF hk2 (by omega) hkl hz hbF
theorem m_commL (M : MC m B z (t :: r)) (h11 : m.1 11 = 0) (hb : bz (m.1 38)) (T : ST m (y :: x :: V) ((k, w, f9, s9) :: S) d) (hk2 : k < 256) (hk : 0 < lev k) (hkl : lev t.1 ≤ lev k) (hz : (k = 47 ∨ k = 37) → ¬ y = 0) (u : Nat) : f146_19 u m mode 1 1 = f146_19 u (rdS m S.length V.length (wk k x y)) mode 1 1 := by
  cases u with
  | zero => rfl
  | succ u =>
    have c10 : ¬ (1 : Int32) = 0 := by decide
    have h11' : (rdS m S.length V.length (wk k x y)).1 11 = 0 := h11
    rw [f146_19, f146_19, if_neg c10, if_neg c10, if_pos h11, if_pos h11', if_neg c10, if_neg c10, m_comm M h11 hb T hk2 hk hkl hz]
end MCV
