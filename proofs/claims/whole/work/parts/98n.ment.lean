/-! THE REFERENCE's entry. -/
section ME
variable {m : mS} {B : Nat → Nat} {tl : Nat} {tb : List Sy} {base : Int32}
theorem entF_lt (B : Nat → Nat) (tb : List Sy) : ∀ n i, entF B tb n = some i → i < n := by
  intro n
  induction n with
  | zero => intro i h; cases h
  | succ n ih =>
    intro i h
    rw [entF] at h
    split at h
    · have := Option.some.inj h; omega
    · have := ih i h; omega
theorem m_171 (X : MXT m B tl) (S : SYMm m B tl tb) (h34 : m.1 34 = base) : f171 m = some (sVal tb base (entI B tb)) := by
  obtain ⟨y1, y2, y3⟩ := S
  have kst : pk9 stW = 495873782388 := by decide +kernel
  have lp : ∀ (d i u : Nat), tb.length - i = d → i ≤ tb.length → d < u → f171_4 u m (sVal tb base (entF B tb i)) (nn i) = some (sVal tb base (entI B tb)) := by
    intro d
    induction d with
    | zero =>
      intro i u hd hi hu
      have eu : u = (u - 1) + 1 := by omega
      have ei : i = tb.length := by omega
      rw [eu, f171_4, y1, nn_le2 (by omega) (by omega), if_pos (by omega), ei]
      rfl
    | succ d ih =>
      intro i u hd hi hu
      have eu : u = (u - 1) + 1 := by omega
      have hib : ib (nn i) 17500 := (nn_ib (by omega)).mpr (by omega)
      obtain ⟨z1, z2, z3, z4, z5, z6⟩ := y3 i (by omega)
      have hs2 := z1.2.2.2.1
      have I := ih (i + 1) (u - 1) (by omega) (by omega) (by omega)
      rw [entF] at I
      rw [eu, f171_4, y1, nn_le2 (by omega) (by omega), if_neg (by omega), if_pos hib, if_pos hib, if_pos hib, nn_tn (by omega), z2, z3, z4]
      have next : ∀ o : Option Nat, (if syn B tb i = stW ∧ (tb.getD i sy0).2.2.1 < 2 then some i else entF B tb i) = o → f171_4 (u - 1) m (sVal tb base o) (nn i + 1) = some (sVal tb base (entI B tb)) := by
        intro o ho
        rw [← ho, nn_add1]
        exact I
      have no : ¬ (syn B tb i = stW ∧ (tb.getD i sy0).2.2.1 < 2) → f171_54 (f171_4 (u - 1)) m (sVal tb base (entF B tb i)) (nn i) = some (sVal tb base (entI B tb)) := by
        intro h
        unfold f171_54 f171_55 f171_89
        rw [if_pos rfl]
        exact next _ (if_neg h)
      have hsk : nn (skd (tb.getD i sy0).2.2.1) ≤ 1 ↔ (tb.getD i sy0).2.2.1 = 2 := by
        have : ∀ x, x ≤ 2 → (nn (skd x) ≤ 1 ↔ x = 2) := by decide
        exact this _ hs2
      by_cases c1 : nn (tb.getD i sy0).2.1 = 5
      · have e5 : (tb.getD i sy0).2.1 = 5 := (nn_eq (b := 5) (by have := z1.2.1; have := X.1; omega) (by decide)).mp c1
        rw [if_pos c1]
        by_cases c2 : nn (skd (tb.getD i sy0).2.2.1) ≤ 1
        · rw [if_pos c2]
          have := hsk.mp c2
          exact no (fun h => by omega)
        · rw [if_neg c2]
          have hne : ¬ (tb.getD i sy0).2.2.1 = 2 := fun h => c2 (hsk.mpr h)
          have hpk : f136 m (nn (tb.getD i sy0).1) (nn (tb.getD i sy0).2.1) = some (pk9 (syn B tb i)) := m_pack X.1 X.2.1 X.2.2.2 z1.2.1
          rw [e5] at hpk
          rw [show (5 : Int32) = nn 5 from rfl, hpk, Option.bind_some]
          have hnm : ∀ b ∈ syn B tb i, 0 < b ∧ b < 128 := nb_bt (z := tl) ⟨z1.2.1, z1.2.2.1⟩
          by_cases c3 : lg_cmp (pk9 (syn B tb i)) 495873782388 = 0
          · have hy : syn B tb i = stW := pk9_inj hnm (by decide) (by decide) (by decide) ((lg_eq.mp c3).trans kst.symm)
            rw [if_pos c3]
            unfold f171_55 f171_84 f171_89
            rw [if_neg (by decide), if_pos hib, if_pos hib, nn_tn (by omega), z4, z5]
            have hfin : sVal tb base (some i) = (if (tb.getD i sy0).2.2.1 = 1 then base + (tb.getD i sy0).2.2.2.1 else (tb.getD i sy0).2.2.2.1) := rfl
            have N := next (some i) (if_pos ⟨hy, by omega⟩)
            rw [hfin] at N
            have h01 : (tb.getD i sy0).2.2.1 = 0 ∨ (tb.getD i sy0).2.2.1 = 1 := by omega
            rcases h01 with h | h
            · rw [h] at N ⊢
              rw [if_neg (by decide)] at N
              rw [if_neg (by decide), Int32.add_zero]
              exact N
            · rw [h] at N ⊢
              rw [if_pos rfl] at N
              rw [if_pos (by decide), h34, Int32.add_comm]
              exact N
          · rw [if_neg c3]
            exact no (fun h => c3 (lg_eq.mpr (by rw [h.1]; exact kst)))
      · rw [if_neg c1]
        refine no (fun h => c1 ?_)
        have : (syn B tb i).length = 5 := by rw [h.1]; rfl
        unfold syn at this
        rw [nb_len] at this
        rw [this]; rfl
  have L := lp tb.length 0 mm_U rfl (Nat.zero_le _) (by show _ < 200000; omega)
  exact L
end ME
