/-! BOTH STATES between calls; the calls that only look. -/
def ERX (c : cS) (m : mS) : Prop := (m.1 11 = 0 ∧ c.1 11 0 = 0 ∧ c.1 11 1 = 0 ∧ c.1 11 2 = 0) ∨ (¬ m.1 11 = 0 ∧ c.1 11 0 = m.1 13 ∧ c.1 11 1 = m.1 12 ∧ c.1 11 2 = m.1 11)
/-- the image that was made last -/
def IMX (c : cS) (m : mS) : Prop := ∃ W, W ≤ cl c (c.2.1 (c.2.1 16 0) 4) ∧ c.1 (c.2.1 16 0) 0 = nn W ∧ m.1 7 = nn W ∧ (∀ i, i < W → (c.2.2.1 (c.2.1 (c.2.1 16 0) 4)).2.2 i &&& 255 = m.2 6 i &&& 255) ∧ ((W = 0 ∧ c.1 (c.2.1 16 0) 1 = 0 ∧ c.1 (c.2.1 16 0) 2 = 0 ∧ c.1 (c.2.1 16 0) 3 = 0) ∨ (0 < W ∧ c.1 (c.2.1 16 0) 1 = m.1 8 ∧ c.1 (c.2.1 16 0) 2 = m.1 9 ∧ c.1 (c.2.1 16 0) 3 = m.1 10))
/-- the text -/
def TPX (c : cS) (m : mS) (tl : Nat) : Prop := c.1 0 1 = nn tl ∧ m.1 5 = nn tl ∧ tl ≤ cl c (c.2.1 0 0) ∧ (∀ i, i < tl → b8 ((c.2.2.1 (c.2.1 0 0)).2.2 i) = b8 (m.2 4 i)) ∧ (∀ i, ((c.2.2.1 (c.2.1 0 0)).2.2 i).toInt8.toInt32 = (c.2.2.1 (c.2.1 0 0)).2.2 i) ∧ ∀ i, (m.2 4 i).toInt8.toInt32 = m.2 4 i
def CMX (k : Nat) (c : cS) (m : mS) : Prop := ∃ tl L Ls, RSX c k L Ls ∧ tl ≤ 20 * k ∧ TPX c m tl ∧ bz (m.1 38) ∧ ERX c m ∧ IMX c m
section CMS
variable {k : Nat} {c : cS} {m : mS}
theorem CMX_k (h : CMX k c m) : CMX (k + 1) c m := by
  obtain ⟨tl, L, Ls, R, h1, h2⟩ := h
  exact ⟨tl, L, Ls, RSX_k R, by omega, h2⟩
theorem CMX_3 (x : Int32) (h : CMX k c m) : CMX k c (mg m 3 x) := by
  obtain ⟨tl, L, Ls, R, h1, h2, h3, h4, h5⟩ := h
  exact ⟨tl, L, Ls, R, h1, h2, h3, h4, h5⟩
theorem CMX_room (h : CMX k c m) (hk : k ≤ 512) : c.2.2.2 ≤ 60000 ∧ csz c ≤ 8000000 := by
  obtain ⟨tl, L, Ls, R, h1, h2⟩ := h
  obtain ⟨r1, r2, r3, r4, r5, r6, r7, r8, r9, r10, r11, r12, r13, r14⟩ := R
  have e1 : ∀ l, l ≤ 65536 → ipt l ≤ 196608 ∧ iqt l ≤ 65620 := by
    intro l hl
    unfold ipt iqt
    split <;> omega
  have := e1 _ r10.2.1
  have := e1 _ r11.2.1
  have := r9.2.2
  omega
theorem nn_of (x : Int32) (h : ¬ x < 0) : ∃ n, x = nn n ∧ n < 2147483648 := by
  refine ⟨x.toInt.toNat, ?_, ?_⟩
  · have h0 : 0 ≤ x.toInt := by
      rw [Int32.lt_iff_toInt_lt] at h
      have : (0 : Int32).toInt = 0 := rfl
      omega
    apply Int32.toInt_inj.mp
    have := Int32.toInt_lt x
    rw [nn_int (by omega)]
    omega
  · have := Int32.toInt_lt x
    omega
/-- the end of the text is moved -/
theorem e_111 (h : CMX k c m) (a : Int32) : ∃ m', f111 m a = some ((f9 c a).1, m') ∧ CMX (k + 1) (f9 c a).2 m' := by
  obtain ⟨tl, L, Ls, R, h1, ⟨t1, t2, t3, t4, t5, t6⟩, h3, h4, h5⟩ := h
  have H : CMX (k + 1) c (mg m 3 0) := CMX_3 0 (CMX_k ⟨tl, L, Ls, R, h1, ⟨t1, t2, t3, t4, t5, t6⟩, h3, h4, h5⟩)
  have hcl : cl c (c.2.1 0 0) ≤ 65536 := R.2.2.2.2.2.2.2.2.1.2.2
  unfold f111 f9
  by_cases c1 : a < 0
  · rw [if_pos c1, if_pos c1]
    exact ⟨_, rfl, H⟩
  · rw [if_neg c1, if_neg c1, t1, t2]
    obtain ⟨n, rfl, hn⟩ := nn_of a c1
    by_cases c2 : nn n ≤ nn tl
    · rw [if_pos c2, if_pos c2]
      have c2 := (nn_le hn (by omega)).mp c2
      refine ⟨_, rfl, n, L, Ls, RSX_sh rfl rfl (fun q => ⟨rfl, rfl⟩) (RSX_k R), by omega, ⟨rfl, rfl, by show n ≤ cl c (c.2.1 0 0); omega, fun i hi => t4 i (by omega), t5, t6⟩, h3, h4, ?_⟩
      obtain ⟨W, w1, w2, w3, w4, w5⟩ := h5
      have R12 := R.2.2.2.2.2.2.2.2.2.2.2.1
      have e : ∀ j, (cg c 0 1 (nn n)).1 (c.2.1 16 0) j = c.1 (c.2.1 16 0) j := by
        intro j
        show (if j = 1 ∧ c.2.1 16 0 = 0 then _ else c.1 _ j) = _
        rw [if_neg (by omega)]
      have e2 : (cg c 0 1 (nn n)).2 = c.2 := rfl
      unfold IMX cl
      rw [e2, e, e, e, e]
      exact ⟨W, w1, w2, w3, w4, w5⟩
    · rw [if_neg c2, if_neg c2]
      exact ⟨_, rfl, H⟩
theorem e_112 (h : CMX k c m) : ∃ m', f112 m = some (f10 c, m') ∧ CMX (k + 1) c m' := by
  refine ⟨mg m 3 0, ?_, CMX_3 0 (CMX_k h)⟩
  obtain ⟨tl, L, Ls, R, h1, ⟨t1, t2, t3, t4, t5, t6⟩, h3, h4, h5⟩ := h
  unfold f112 f10
  rw [t1, t2]
theorem e_174 (h : CMX k c m) (a : Int32) : ∃ m', f174 m a = some (f11 c a, m') ∧ CMX (k + 1) c m' := by
  refine ⟨mg m 3 0, ?_, CMX_3 0 (CMX_k h)⟩
  obtain ⟨tl, L, Ls, R, h1, h2, h3, h4, h5⟩ := h
  unfold f174 f11
  rcases h4 with ⟨g1, g2, g3, g4⟩ | ⟨g1, g2, g3, g4⟩
  · rw [if_pos g1, g2, g3, g4]
    split
    · rfl
    · split
      · rfl
      · split <;> rfl
  · rw [if_neg g1, g2, g3, g4]
    split
    · rfl
    · split
      · rfl
      · split <;> rfl
theorem e_175 (h : CMX k c m) (a : Int32) : ∃ r m', f12 c a = some r ∧ f175 m a = some (r, m') ∧ CMX (k + 1) c m' := by
  have H := CMX_3 0 (CMX_k h)
  obtain ⟨tl, L, Ls, R, h1, h2, h3, h4, ⟨W, w1, w2, w3, w4, w5⟩⟩ := h
  have R12 := R.2.2.2.2.2.2.2.2.2.2.2.1
  have hq : cQ (c.2.1 16 0) := by rcases R12 with h | h; exact Or.inl h.1; exact Or.inr h.1
  have hA : cA c 0 (c.2.1 (c.2.1 16 0) 4) ∧ cl c (c.2.1 (c.2.1 16 0) 4) ≤ 65536 := by
    rcases R12 with h | h <;> rw [h.1]
    · exact ⟨R.2.2.2.2.2.2.2.2.2.1.1, R.2.2.2.2.2.2.2.2.2.1.2.1⟩
    · exact ⟨R.2.2.2.2.2.2.2.2.2.2.1.1, R.2.2.2.2.2.2.2.2.2.2.1.2.1⟩
  unfold f12 f13 f175
  rw [if_pos hq, w2, w3]
  by_cases c1 : a < 0
  · rw [if_pos c1, if_pos c1]
    exact ⟨_, _, rfl, rfl, H⟩
  · rw [if_neg c1, if_neg c1]
    obtain ⟨n, rfl, hn⟩ := nn_of a c1
    by_cases c2 : nn W ≤ nn n
    · rw [if_pos c2, if_pos c2]
      exact ⟨_, _, rfl, rfl, H⟩
    · rw [if_neg c2, if_neg c2]
      have c2 : ¬ W ≤ n := fun h => c2 ((nn_le (by omega) hn).mpr h)
      rw [if_pos hA.1, if_neg (show ¬ Int32.ofNat (cl c (c.2.1 (c.2.1 16 0) 4)) ≤ nn n from fun h => by have := (nn_le (by omega) hn).mp h; omega), if_pos ⟨hA.1, (nn_ib hn).mpr (by omega)⟩, if_pos ((nn_ib hn).mpr (by omega))]
      refine ⟨_, _, rfl, ?_, H⟩
      unfold ce
      rw [nn_tn hn, w4 n (by omega)]
theorem e_176 (h : CMX k c m) (a : Int32) : ∃ r m', f14 c a = some r ∧ f176 m a = some (r, m') ∧ CMX (k + 1) c m' := by
  have H := CMX_3 0 (CMX_k h)
  obtain ⟨tl, L, Ls, R, h1, h2, h3, h4, ⟨W, w1, w2, w3, w4, w5⟩⟩ := h
  have R12 := R.2.2.2.2.2.2.2.2.2.2.2.1
  have hq : cQ (c.2.1 16 0) := by rcases R12 with h | h; exact Or.inl h.1; exact Or.inr h.1
  have hcl : cl c (c.2.1 (c.2.1 16 0) 4) ≤ 65536 := by
    rcases R12 with h | h <;> rw [h.1]
    · exact R.2.2.2.2.2.2.2.2.2.1.2.1
    · exact R.2.2.2.2.2.2.2.2.2.2.1.2.1
  unfold f14 f176 f176_14
  simp only [if_pos hq]
  by_cases c1 : a < 0
  · rw [if_pos c1, if_neg (fun h => by rw [h] at c1; exact absurd c1 (by decide)), if_neg (fun h => by rw [h] at c1; exact absurd c1 (by decide)), if_neg (fun h => by rw [h] at c1; exact absurd c1 (by decide)), if_neg (fun h => by rw [h] at c1; exact absurd c1 (by decide))]
    exact ⟨_, _, rfl, rfl, H⟩
  · rw [if_neg c1]
    obtain ⟨n, rfl, hn⟩ := nn_of a c1
    by_cases c2 : nn n ≤ 3
    · have c3 : n ≤ 3 := (nn_le (b := 3) hn (by decide)).mp c2
      rw [if_pos c2, w3]
      have hz : nn W = 0 ↔ W = 0 := nn_eq (b := 0) (by omega) (by decide)
      have hn4 : n = 0 ∨ n = 1 ∨ n = 2 ∨ n = 3 := by omega
      rcases w5 with ⟨v0, v1, v2, v3⟩ | ⟨v0, v1, v2, v3⟩
      · rw [w2, v1, v2, v3, if_pos (hz.mpr v0), hz.mpr v0]
        rcases hn4 with rfl | rfl | rfl | rfl
        all_goals exact ⟨_, _, rfl, rfl, H⟩
      · have hwz : ¬ nn W = 0 := fun h => by have := hz.mp h; omega
        rw [w2, v1, v2, v3, if_neg hwz]
        rcases hn4 with rfl | rfl | rfl | rfl
        all_goals exact ⟨_, _, rfl, rfl, H⟩
    · have c3 : ¬ n ≤ 3 := fun h => c2 ((nn_le (b := 3) hn (by decide)).mpr h)
      have e : ∀ j, j ≤ 3 → ¬ nn n = nn j := fun j hj h => by have := (nn_eq hn (by omega)).mp h; omega
      rw [if_neg c2, if_neg (show ¬ nn n = 0 from e 0 (by omega)), if_neg (show ¬ nn n = 1 from e 1 (by omega)), if_neg (show ¬ nn n = 2 from e 2 (by omega)), if_neg (show ¬ nn n = 3 from e 3 (by omega))]
      exact ⟨_, _, rfl, rfl, H⟩
end CMS
