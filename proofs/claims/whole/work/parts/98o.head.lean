/-! THE HEAD of the image: words are put, in both programs. -/
/-- n bytes of v lie at p -/
def pw (f : Nat → Int32) (p : Nat) (v : Int32) (n : Nat) : Nat → Int32 := fun i => if p ≤ i ∧ i < p + n then (v >>> (nn (8 * (i - p)) &&& 31)).toInt8.toInt32 else f i
def pws (p : Nat) (w : Nat → Int32) (f : Nat → Int32) : Nat → Nat → Int32
  | 0 => f
  | n + 1 => pw (pws p w f n) (p + 4 * n) (w n) 4
theorem pws_out (p : Nat) (w f : Nat → Int32) : ∀ n i, (i < p ∨ p + 4 * n ≤ i) → pws p w f n i = f i := by
  intro n
  induction n with
  | zero => intro i _; rfl
  | succ n ih =>
    intro i h
    rw [pws]
    unfold pw
    rw [if_neg (by omega), ih i (by omega)]
theorem pws_in (p : Nat) (w f : Nat → Int32) : ∀ n j t, j < n → t < 4 → pws p w f n (p + 4 * j + t) = (w j >>> (nn (8 * t) &&& 31)).toInt8.toInt32 := by
  intro n
  induction n with
  | zero => intro j t h; omega
  | succ n ih =>
    intro j t h ht
    rw [pws]
    unfold pw
    by_cases c : j = n
    · rw [if_pos (by omega), show p + 4 * j + t - (p + 4 * n) = t by omega, c]
    · rw [if_neg (by omega), ih j t (by omega) ht]
theorem pws_c (p : Nat) (w f g : Nat → Int32) (n i : Nat) (h : ¬ (p ≤ i ∧ i < p + 4 * n) → f i = g i) : pws p w f n i = pws p w g n i := by
  by_cases c : p ≤ i ∧ i < p + 4 * n
  · rw [show i = p + 4 * ((i - p) / 4) + (i - p) % 4 by omega, pws_in p w f n _ _ (by omega) (by omega), pws_in p w g n _ _ (by omega) (by omega)]
  · rw [pws_out p w f n i (by omega), pws_out p w g n i (by omega)]
    exact h c
theorem le_get (v : Int32) : ∀ d k i, i < d → (le v d k).getD i 0 = (v >>> (nn (8 * (k + i)) &&& 31)).toInt8.toInt32 := by
  intro d
  induction d with
  | zero => intro k i h; omega
  | succ d ih =>
    intro k i h
    cases i with
    | zero => rfl
    | succ i =>
      have := ih (k + 1) i (by omega)
      rw [show k + (i + 1) = k + 1 + i by omega, ← this]
      rfl
section HC
variable {s0 s : cS} {q W : Nat} {f : Nat → Int32}
/-- the image's array is f -/
def HD (s0 : cS) (q : Nat) (f : Nat → Int32) (s : cS) : Prop := WF [] [s0.2.1 q 4] s0 s ∧ (s.2.2.1 (s0.2.1 q 4)).2.2 = f
/-- the image has room -/
def HQ (s0 : cS) (q W : Nat) : Prop := s0.1 q 0 = nn W ∧ W ≤ cl s0 (s0.2.1 q 4) ∧ cl s0 (s0.2.1 q 4) ≤ 65536 ∧ cA s0 0 (s0.2.1 q 4)
theorem c_84 (Q : HQ s0 q W) (H : HD s0 q f s) (v : Int32) (p n : Nat) (hn : n ≤ 4) (hp : p + n ≤ W) : ∃ s', f84 q s (nn p) v (nn n) = some s' ∧ HD s0 q (pw f p v n) s' := by
  obtain ⟨s', r1, r2, r3, r4⟩ := k_84 Q.1 Q.2.1 Q.2.2.1 Q.2.2.2 v n hn n 0 p mm_U s (by omega) (by omega) (by show _ < 200000; omega) hp H.1
  refine ⟨s', r1, r2, ?_⟩
  funext i
  unfold pw
  by_cases c : p ≤ i ∧ i < p + n
  · rw [if_pos c]
    have := r4 (i - p) (by omega)
    rw [show p + 0 + (i - p) = i by omega, le_get v n 0 (i - p) (by omega), Nat.zero_add] at this
    exact this
  · rw [if_neg c, r3 i (by omega), H.2]
def phw (a b c d : Int32) (j : Nat) : Int32 := if j = 0 then 1 else if j = 1 then a else if 4 ≤ j then (if 6 ≤ j then (if j = 6 then d else 4096) else c) else b
theorem c_107 (Q : HQ s0 q W) (H : HD s0 q f s) (a b c d : Int32) (p : Nat) (hp : p + 32 ≤ W) : ∃ s', f107 q s (nn p) a b c d = some s' ∧ HD s0 q (pws p (phw a b c d) f 8) s' := by
  obtain ⟨s1, a1, H1⟩ := c_84 Q H 1 p 4 (by omega) (by omega)
  obtain ⟨s2, a2, H2⟩ := c_84 Q H1 a (p + 4) 4 (by omega) (by omega)
  obtain ⟨s3, a3, H3⟩ := c_84 Q H2 b (p + 8) 4 (by omega) (by omega)
  obtain ⟨s4, a4, H4⟩ := c_84 Q H3 b (p + 12) 4 (by omega) (by omega)
  obtain ⟨s5, a5, H5⟩ := c_84 Q H4 c (p + 16) 4 (by omega) (by omega)
  obtain ⟨s6, a6, H6⟩ := c_84 Q H5 c (p + 20) 4 (by omega) (by omega)
  obtain ⟨s7, a7, H7⟩ := c_84 Q H6 d (p + 24) 4 (by omega) (by omega)
  obtain ⟨s8, a8, H8⟩ := c_84 Q H7 4096 (p + 28) 4 (by omega) (by omega)
  refine ⟨s8, ?_, H8⟩
  have e : ∀ x, nn p + nn x = nn (p + x) := nn_add p
  have t4 : (4 : Int32) = nn 4 := rfl
  have t8 : (8 : Int32) = nn 8 := rfl
  have t12 : (12 : Int32) = nn 12 := rfl
  have t16 : (16 : Int32) = nn 16 := rfl
  have t20 : (20 : Int32) = nn 20 := rfl
  have t24 : (24 : Int32) = nn 24 := rfl
  have t28 : (28 : Int32) = nn 28 := rfl
  unfold f107
  rw [t4, t8, t12, t16, t20, t24, t28]
  rw [a1, Option.bind_some, e, a2, Option.bind_some, e, a3, Option.bind_some, e, a4, Option.bind_some, e, a5, Option.bind_some, e, a6, Option.bind_some, e, a7, Option.bind_some, e, a8]
  rfl
def CH (f : Nat → Int32) (ent cnt : Int32) : Nat → Int32 := pw (pw (pw (pw (pw (pw (pw (pw (pw (pw f 0 1179403647 4) 4 65793 4) 16 2 2) 18 243 2) 20 1 4) 24 ent 4) 28 52 4) 40 52 2) 42 32 2) 44 cnt 2
def hcn (dd : Nat) : Int32 := if 0 < dd then 2 else 1
/-- the head of the class, with its program headers -/
def CHD (f : Nat → Int32) (ent base : Int32) (tt dd : Nat) : Nat → Int32 := if 0 < dd then pws 84 (phw (nn (hdl dd + tt)) base (nn dd) 6) (pws 52 (phw (nn (hdl dd)) 0 (nn tt) 5) (CH f ent 2) 8) 8 else pws 52 (phw (nn (hdl dd)) 0 (nn tt) 5) (CH f ent 1) 8
theorem c_106 {tt dd : Nat} (Q : HQ s0 q (hdl dd + tt + dd)) (h1 : s0.1 q 1 = nn tt) (h2 : s0.1 q 2 = nn dd) (hd : dd ≤ 65536) (ent base : Int32) : ∃ s', f106 q s0 ent base = some s' ∧ HD s0 q (CHD (s0.2.2.1 (s0.2.1 q 4)).2.2 ent base tt dd) s' := by
  have hh := hdl_le dd
  have H0 : HD s0 q (s0.2.2.1 (s0.2.1 q 4)).2.2 s0 := ⟨WF_refl _ _ _, rfl⟩
  obtain ⟨s1, a1, H1⟩ := c_84 Q H0 1179403647 0 4 (by omega) (by omega)
  obtain ⟨s2, a2, H2⟩ := c_84 Q H1 65793 4 4 (by omega) (by omega)
  obtain ⟨s3, a3, H3⟩ := c_84 Q H2 2 16 2 (by omega) (by omega)
  obtain ⟨s4, a4, H4⟩ := c_84 Q H3 243 18 2 (by omega) (by omega)
  obtain ⟨s5, a5, H5⟩ := c_84 Q H4 1 20 4 (by omega) (by omega)
  obtain ⟨s6, a6, H6⟩ := c_84 Q H5 ent 24 4 (by omega) (by omega)
  obtain ⟨s7, a7, H7⟩ := c_84 Q H6 52 28 4 (by omega) (by omega)
  obtain ⟨s8, a8, H8⟩ := c_84 Q H7 52 40 2 (by omega) (by omega)
  obtain ⟨s9, a9, H9⟩ := c_84 Q H8 32 42 2 (by omega) (by omega)
  have step : f106 q s0 ent base = (if s9.1 q 2 ≤ 0 then f106_92 q s9 base 1 44 else f106_92 q s9 base 2 44) := by
    unfold f106
    rw [show f84 q s0 0 1179403647 4 = some s1 from a1, Option.bind_some, show f84 q s1 4 65793 4 = some s2 from a2, Option.bind_some, show f84 q s2 16 2 2 = some s3 from a3, Option.bind_some, show f84 q s3 18 243 2 = some s4 from a4, Option.bind_some, show f84 q s4 20 1 4 = some s5 from a5, Option.bind_some, show f84 q s5 24 ent 4 = some s6 from a6, Option.bind_some, show f84 q s6 28 52 4 = some s7 from a7, Option.bind_some, show f84 q s7 40 52 2 = some s8 from a8, Option.bind_some, show f84 q s8 42 32 2 = some s9 from a9, Option.bind_some]
  have k1 : ∀ {g : Nat → Int32} {z : cS}, HD s0 q g z → z.1 q 1 = nn tt := fun H => (H.1.1 q 1 (by simp)).trans h1
  have k2 : ∀ {g : Nat → Int32} {z : cS}, HD s0 q g z → z.1 q 2 = nn dd := fun H => (H.1.1 q 2 (by simp)).trans h2
  have h9 : nn dd ≤ 0 ↔ dd ≤ 0 := nn_le (b := 0) (by omega) (by decide)
  rw [step, k2 H9]
  unfold CHD
  by_cases c : 0 < dd
  · rw [if_neg (fun h => by have := h9.mp h; omega), if_pos c]
    obtain ⟨t1, b1, T1⟩ := c_84 Q H9 2 44 2 (by omega) (by omega)
    have e0 := hdl_83 (k1 T1) (k2 T1) (by omega)
    have hv : hdl dd = 116 := by unfold hdl; rw [if_pos c]
    obtain ⟨t2, b2, T2⟩ := c_107 Q T1 (nn (hdl dd)) 0 (nn tt) 5 52 (by omega)
    have e1 := hdl_83 (k1 T2) (k2 T2) (by omega)
    obtain ⟨t3, b3, T3⟩ := c_107 Q T2 (nn (hdl dd + tt)) base (nn dd) 6 84 (by omega)
    refine ⟨t3, ?_, T3⟩
    unfold f106_92
    rw [show f84 q s9 44 2 2 = some t1 from b1, Option.bind_some, e0.1, k1 T1, show f107 q t1 52 (nn (hdl dd)) 0 (nn tt) 5 = some t2 from b2, Option.bind_some, k2 T2, if_neg (fun h => by have := h9.mp h; omega), e1.2, show f107 q t2 84 (nn (hdl dd + tt)) base (nn dd) 6 = some t3 from b3]
    rfl
  · rw [if_pos (h9.mpr (by omega)), if_neg c]
    obtain ⟨t1, b1, T1⟩ := c_84 Q H9 1 44 2 (by omega) (by omega)
    have e0 := hdl_83 (k1 T1) (k2 T1) (by omega)
    obtain ⟨t2, b2, T2⟩ := c_107 Q T1 (nn (hdl dd)) 0 (nn tt) 5 52 (by omega)
    refine ⟨t2, ?_, T2⟩
    unfold f106_92
    rw [show f84 q s9 44 1 2 = some t1 from b1, Option.bind_some, e0.1, k1 T1, show f107 q t1 52 (nn (hdl dd)) 0 (nn tt) 5 = some t2 from b2, Option.bind_some, k2 T2, if_pos (h9.mpr (by omega))]
end HC
