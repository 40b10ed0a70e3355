/-! THE HEAD of the image in the reference. -/
section HM
variable {m0 m : mS} {f : Nat → Int32}
/-- the reference's image is f -/
def RD (m0 : mS) (f : Nat → Int32) (m : mS) : Prop := m.1 = m0.1 ∧ (∀ k, ¬ k = 6 → m.2 k = m0.2 k) ∧ m.2 6 = f
theorem mb_6 (j v : Int32) : (mb m 6 j v).2 6 = upd (m.2 6) j.toNatClampNeg v := rfl
theorem mb_n6 (j v : Int32) {k : Nat} (h : ¬ k = 6) : (mb m 6 j v).2 k = m.2 k := by
  show mm_bu m.2 6 _ k = _
  unfold mm_bu
  rw [if_neg h]
theorem m_172 (H : RD m0 f m) (v : Int32) (p n : Nat) (hn : n ≤ 4) (hp : p + n ≤ 65536) : ∃ m', f172 m (nn p) v (nn n) = some m' ∧ RD m0 (pw f p v n) m' := by
  have lp : ∀ (d k u : Nat) (m1 : mS) (g : Nat → Int32), n - k = d → k ≤ n → d < u → RD m0 g m1 → (∀ i, g i = if p ≤ i ∧ i < p + k then (v >>> (nn (8 * (i - p)) &&& 31)).toInt8.toInt32 else f i) → ∃ m', f172_3 u m1 (nn p) v (nn n) (nn k) = some m' ∧ RD m0 (pw f p v n) m' := by
    intro d
    induction d with
    | zero =>
      intro k u m1 g hd hk hu H1 hg
      have eu : u = (u - 1) + 1 := by omega
      have ek : k = n := by omega
      rw [eu, f172_3, nn_le2 (by omega) (by omega), if_pos (by omega)]
      refine ⟨m1, rfl, H1.1, H1.2.1, ?_⟩
      rw [H1.2.2]
      funext i
      rw [hg i, ek]
      rfl
    | succ d ih =>
      intro k u m1 g hd hk hu H1 hg
      have eu : u = (u - 1) + 1 := by omega
      have e8 : (8 : Int32) * nn k = nn (8 * k) := (Int32.ofNat_mul 8 k).symm
      rw [eu, f172_3, nn_le2 (by omega) (by omega), if_neg (by omega), nn_add, if_pos ((nn_ib (by omega)).mpr (by omega)), e8, i8_i8, nn_add1]
      refine ih (k + 1) (u - 1) _ (upd g (p + k) ((v >>> (nn (8 * k) &&& 31)).toInt8.toInt32)) (by omega) (by omega) (by omega) ⟨H1.1, fun j hj => (mb_n6 _ _ hj).trans (H1.2.1 j hj), ?_⟩ (fun i => ?_)
      · rw [mb_6, nn_tn (by omega), H1.2.2]
      · unfold upd
        by_cases c : i = p + k
        · rw [if_pos c, if_pos (by omega), show i - p = k by omega]
        · rw [if_neg c, hg i]
          by_cases c2 : p ≤ i ∧ i < p + k
          · rw [if_pos c2, if_pos (by omega)]
          · rw [if_neg c2, if_neg (by omega)]
  exact lp n 0 mm_U m f (by omega) (by omega) (by show _ < 200000; omega) H (fun i => by rw [if_neg (by omega)])
theorem st173 (u : Nat) (m : mS) (x1 a b c d : Int32) : ∀ j, j < 8 → f173_3 (u + 1) m x1 a b c d (nn j) = (f172 m (52 + 32 * x1 + 4 * nn j) (phw a b c d j) 4).bind fun r1 => f173_3 u r1 x1 a b c d (nn j + 1) := by
  intro j hj
  have : j = 0 ∨ j = 1 ∨ j = 2 ∨ j = 3 ∨ j = 4 ∨ j = 5 ∨ j = 6 ∨ j = 7 := by omega
  rcases this with rfl | rfl | rfl | rfl | rfl | rfl | rfl | rfl <;> (rw [f173_3]; rfl)
theorem m_173 (H : RD m0 f m) (a b c d : Int32) (x : Nat) (hx : x ≤ 1) : ∃ m', f173 m (nn x) a b c d = some m' ∧ RD m0 (pws (52 + 32 * x) (phw a b c d) f 8) m' := by
  have lp : ∀ (r j u : Nat) (m1 : mS), 8 - j = r → j ≤ 8 → r < u → RD m0 (pws (52 + 32 * x) (phw a b c d) f j) m1 → ∃ m', f173_3 u m1 (nn x) a b c d (nn j) = some m' ∧ RD m0 (pws (52 + 32 * x) (phw a b c d) f 8) m' := by
    intro r
    induction r with
    | zero =>
      intro j u m1 hr hj hu H1
      have eu : u = (u - 1) + 1 := by omega
      have ej : j = 8 := by omega
      subst ej
      rw [eu, f173_3]
      exact ⟨m1, rfl, H1⟩
    | succ r ih =>
      intro j u m1 hr hj hu H1
      have eu : u = (u - 1) + 1 := by omega
      have e1 : (52 : Int32) + 32 * nn x + 4 * nn j = nn (52 + 32 * x + 4 * j) := by
        rw [show (32 : Int32) * nn x = nn (32 * x) from (Int32.ofNat_mul 32 x).symm, show (4 : Int32) * nn j = nn (4 * j) from (Int32.ofNat_mul 4 j).symm, show (52 : Int32) = nn 52 from rfl, nn_add, nn_add]
      rw [eu, st173 _ _ _ _ _ _ _ j (by omega), e1]
      obtain ⟨m2, b1, b2⟩ := m_172 H1 (phw a b c d j) (52 + 32 * x + 4 * j) 4 (by omega) (by omega)
      rw [show (4 : Int32) = nn 4 from rfl, b1, Option.bind_some, nn_add1]
      exact ih (j + 1) (u - 1) m2 (by omega) (by omega) (by omega) b2
  exact lp 8 0 mm_U m (by omega) (by omega) (by show _ < 200000; omega) H
def hwd (ent cnt : Int32) (j : Nat) : Int32 := if j = 0 then 1179403647 else if j = 1 then 65793 else if j = 4 then 15925250 else if j = 5 then 1 else if j = 6 then ent else if j = 7 then 52 else if j = 10 then 2097204 else if j = 11 then cnt else 0
theorem st170 (u : Nat) (m : mS) (ent x1 x2 : Int32) (h : f171 m = some ent) : ∀ j, j < 13 → f170_25 (u + 1) m x1 x2 (nn j) = (f172 m (4 * nn j) (hwd ent x1 j) 4).bind fun r1 => f170_25 u r1 x1 x2 (nn j + 1) := by
  intro j hj
  have : j = 0 ∨ j = 1 ∨ j = 2 ∨ j = 3 ∨ j = 4 ∨ j = 5 ∨ j = 6 ∨ j = 7 ∨ j = 8 ∨ j = 9 ∨ j = 10 ∨ j = 11 ∨ j = 12 := by omega
  by_cases c : j = 6
  · subst c
    rw [f170_25, h]
    rfl
  · rcases this with rfl | rfl | rfl | rfl | rfl | rfl | rfl | rfl | rfl | rfl | rfl | rfl | rfl
    all_goals first | exact absurd rfl c | (rw [f170_25]; rfl)
theorem m_25 (H : RD m0 f m) {ent : Int32} (hent : ∀ m1 g, RD m0 g m1 → f171 m1 = some ent) (x1 x2 : Int32) : ∃ m', f170_25 mm_U m x1 x2 0 = f170_133 m' x1 x2 ∧ RD m0 (pws 0 (hwd ent x1) f 13) m' := by
  have lp : ∀ (r j u : Nat) (m1 : mS), 13 - j = r → j ≤ 13 → r < u → RD m0 (pws 0 (hwd ent x1) f j) m1 → ∃ m', f170_25 u m1 x1 x2 (nn j) = f170_133 m' x1 x2 ∧ RD m0 (pws 0 (hwd ent x1) f 13) m' := by
    intro r
    induction r with
    | zero =>
      intro j u m1 hr hj hu H1
      have eu : u = (u - 1) + 1 := by omega
      have ej : j = 13 := by omega
      subst ej
      rw [eu, f170_25]
      exact ⟨m1, rfl, H1⟩
    | succ r ih =>
      intro j u m1 hr hj hu H1
      have eu : u = (u - 1) + 1 := by omega
      have e1 : (4 : Int32) * nn j = nn (0 + 4 * j) := by
        rw [Nat.zero_add]
        exact (Int32.ofNat_mul 4 j).symm
      rw [eu, st170 _ _ ent _ _ (hent m1 _ H1) j (by omega), e1]
      obtain ⟨m2, b1, b2⟩ := m_172 H1 (hwd ent x1 j) (0 + 4 * j) 4 (by omega) (by omega)
      rw [show (4 : Int32) = nn 4 from rfl, b1, Option.bind_some, nn_add1]
      exact ih (j + 1) (u - 1) m2 (by omega) (by omega) (by omega) b2
  exact lp 13 0 mm_U m (by omega) (by omega) (by show _ < 200000; omega) H
end HM
