/-! THE START, and all calls. -/
theorem c0_csz : csz c0 ≤ 1500 := by decide +kernel
theorem CMX_0 : CMX 0 c0 m0 := by
  refine ⟨0, 32, 16, ?_, Nat.le_refl _, ⟨rfl, rfl, Nat.zero_le _, fun i hi => absurd hi (Nat.not_lt_zero _), fun _ => rfl, fun _ => rfl⟩, Or.inl rfl, Or.inl ⟨rfl, rfl, rfl, rfl⟩, 0, Nat.zero_le _, rfl, rfl, fun i hi => absurd hi (Nat.not_lt_zero _), Or.inl ⟨rfl, rfl, rfl, rfl⟩⟩
  have hA : ∀ t q, cfr q = true → q < 42 → (c0.2.2.1 q).1 = t → cA c0 t q := fun t q h1 h2 h3 => ⟨h1, h2, h3⟩
  have hz := c0_csz
  refine ⟨⟨hA 1 13 rfl (by decide) rfl, hA 1 14 rfl (by decide) rfl, hA 1 15 rfl (by decide) rfl, rfl, rfl, rfl, by decide, by decide, by decide, by decide⟩, by decide, by decide, ⟨hA 1 4 rfl (by decide) rfl, rfl⟩, fun kk h3 h8 => ?_, by decide, by decide, ⟨?_, ?_⟩, ⟨hA 0 1 rfl (by decide) rfl, by decide, by decide⟩, ⟨hA 0 19 rfl (by decide) rfl, by decide, Or.inl rfl⟩, ⟨hA 0 21 rfl (by decide) rfl, by decide, Or.inl rfl⟩, Or.inl ⟨rfl, rfl⟩, ?_, ?_⟩
  · have : kk = 3 ∨ kk = 4 ∨ kk = 5 ∨ kk = 6 ∨ kk = 7 ∨ kk = 8 := by omega
    rcases this with rfl | rfl | rfl | rfl | rfl | rfl
    · exact ⟨hA 1 5 rfl (by decide) rfl, rfl⟩
    · exact ⟨hA 1 6 rfl (by decide) rfl, rfl⟩
    · exact ⟨hA 1 7 rfl (by decide) rfl, rfl⟩
    · exact ⟨hA 1 8 rfl (by decide) rfl, rfl⟩
    · exact ⟨hA 1 9 rfl (by decide) rfl, rfl⟩
    · exact ⟨hA 1 10 rfl (by decide) rfl, rfl⟩
  · show ∀ p ∈ OW, ∀ q ∈ OW, c0_R p.1 p.2 = c0_R q.1 q.2 → p = q
    decide
  · show ∀ p ∈ OW, c0_R p.1 p.2 < 42 + 0
    decide
  · have e1 : cl c0 (c0.2.1 0 0) = 256 := rfl
    have e2 : cl c0 (c0.2.1 18 4) = 0 := rfl
    have e3 : cl c0 (c0.2.1 20 4) = 0 := rfl
    rw [e1, e2, e3]
    unfold ipt
    rw [if_neg (by decide)]
    omega
  · have e4 : c0.2.2.2 = 0 := rfl
    rw [e4]
    omega
theorem goal_P : GoalP := by
  refine ⟨CMX, CMX_0, fun k c m h hk => CMX_room h hk, fun k c m h hk => ⟨fun a b x y z => e_110 h hk a b x y z, fun a => e_111 h a, e_112 h, e_113 h hk, fun a => e_174 h a, fun a => e_175 h a, fun a => e_176 h a, CMX_k h⟩⟩
