/-! THE REFERENCE's registers. -/
section MR
variable {m : mS} {B : Nat → Nat} {z s l : Nat}
theorem m_regF {P : Int64} (hf : f136 m (nn s) (nn l) = some P) : ∀ (k u : Nat), k ≤ 33 → k < u → (∀ i, i < k → ¬ mm_reg i = P) → f135_23_6 u m (nn s) (nn l) (nn k - 1) = some (-1) := by
  intro k
  induction k with
  | zero =>
    intro u h1 h2 h3
    have eu : u = (u - 1) + 1 := by omega
    rw [eu, f135_23_6, if_pos (by decide)]
    rfl
  | succ k ih =>
    intro u h1 h2 h3
    have eu : u = (u - 1) + 1 := by omega
    rw [eu, f135_23_6, nn_pred, if_neg (nn_neg (by omega)), if_pos ((nn_ib (by omega)).mpr (by omega)), hf, Option.bind_some, nn_tn (by omega), if_neg (fun hh => h3 k (by omega) (lg_eq.mp hh)), nn_m, ih (u - 1) (by omega) (by omega) (fun i hi => h3 i (by omega))]
theorem m_regT {P : Int64} (hf : f136 m (nn s) (nn l) = some P) {j : Nat} (hj : mm_reg j = P) : ∀ (d k u : Nat), k - (j + 1) = d → k ≤ 33 → j < k → k < u → (∀ i, j < i → i < k → ¬ mm_reg i = P) → f135_23_6 u m (nn s) (nn l) (nn k - 1) = some (nn j) := by
  intro d
  induction d with
  | zero =>
    intro k u hd h1 h2 h3 h4
    have eu : u = (u - 1) + 1 := by omega
    have ek : k = j + 1 := by omega
    subst ek
    rw [eu, f135_23_6, nn_pred, if_neg (nn_neg (by omega)), if_pos ((nn_ib (by omega)).mpr (by omega)), hf, Option.bind_some, nn_tn (by omega), if_pos (lg_eq.mpr hj)]
  | succ d ih =>
    intro k u hd h1 h2 h3 h4
    have eu : u = (u - 1) + 1 := by omega
    obtain ⟨k, rfl⟩ : ∃ q, k = q + 1 := ⟨k - 1, by omega⟩
    rw [eu, f135_23_6, nn_pred, if_neg (nn_neg (by omega)), if_pos ((nn_ib (by omega)).mpr (by omega)), hf, Option.bind_some, nn_tn (by omega), if_neg (fun hh => h4 k (by omega) (by omega) (lg_eq.mp hh)), nn_m, ih k (u - 1) (by omega) (by omega) (by omega) (by omega) (fun i hi hi2 => h4 i hi (by omega))]
theorem reg_ne : ∀ i, i < 33 → ∀ j, j < 33 → mm_reg i = mm_reg j → i = j := by decide +kernel
theorem reg_pk : ∀ k, k < 33 → mm_reg k = pk9 (rwd k) ∧ (rwd k).length < 9 ∧ (rwd k).all (fun b => decide (0 < b ∧ b < 128)) = true ∧ 0 < (rwd k).length := by decide +kernel
theorem m_regw (hz : z ≤ 65536) (hW : ∀ i, i < z → b8 (m.2 4 i) = B i) (hB : ∀ i, B i < 256) (hn : NM B z s l) : f135_23 m (nn s) (nn l) = some (match ixR (nb B s l) with | some j => nn j | none => -1) := by
  have hf := m_pack (m := m) hz hW hB hn.1
  have hb := nb_bt hn
  have e33 : Int32.ofNat 33 - 1 = nn 33 - 1 := rfl
  unfold f135_23
  rw [e33]
  cases hs : ixR (nb B s l) with
  | none =>
    refine m_regF hf 33 mm_U (by omega) (by show 33 < 200000; omega) (fun i hi h => ?_)
    have h2 := reg_pk i hi
    have hv : ∀ b ∈ rwd i, 0 < b ∧ b < 128 := fun b hb => by simpa using List.all_eq_true.mp h2.2.2.1 b hb
    have := pk9_inj hb hv h2.2.1 h2.2.2.2 (by rw [← h, h2.1])
    unfold ixR at hs
    rw [List.find?_eq_none] at hs
    exact hs i (List.mem_range.mpr hi) (by simp [this])
  | some j =>
    obtain ⟨h1, h2⟩ := ixR_some hs
    have h4 := reg_pk j h1
    have hP : mm_reg j = pk9 (nb B s l) := by rw [h4.1, h2]
    exact m_regT hf hP (33 - (j + 1)) 33 mm_U rfl (by omega) h1 (by show 33 < 200000; omega) (fun i h5 h6 h7 => by
      have := reg_ne i h6 j h1 (by rw [h7, hP])
      omega)
/-- the reference's registerAt -/
theorem m_reg (hz : z ≤ 65536) (hW : ∀ i, i < z → b8 (m.2 4 i) = B i) (hY : ∀ i, (m.2 4 i).toInt8.toInt32 = m.2 4 i) (hB : ∀ i, B i < 256) (hn : NM B z s l) (h0 : 0 < l) : f134 m (nn s) (nn l) = some (rgI (nb B s l)) := by
  have hn1 := hn.1
  have raw : ∀ i, i < l → m.2 4 (s + i) = nn (B (s + i)) := by
    intro i hi
    have e := hW (s + i) (by omega)
    have hb := isN_lt (hn.2 i hi)
    have := byte_nn (hY (s + i)) (by rw [e]; omega)
    rw [e] at this
    exact this
  have e1 : (1 : Int32) = nn 1 := rfl
  have e2 : (2 : Int32) = nn 2 := rfl
  unfold f134 rgI
  rw [m_regw hz hW hB hn, Option.bind_some, rg_rgX _ (nb_sm hn)]
  unfold rgX
  -- what 143 answers
  have fin0 : ∀ v, f134_142 m (match ixR (nb B s l) with | some j => nn j | none => -1) v = some (match (match ixR (nb B s l) with | some k => some (if k = 32 then 8 else k) | none => none : Option Nat) with | some r => nn r | none => -1) := by
    intro v
    unfold f134_142 f134_143
    cases hs : ixR (nb B s l) with
    | none => rfl
    | some j =>
      have hj := (ixR_some hs).1
      by_cases h32 : j = 32
      · subst h32; rfl
      · simp only [if_neg h32]
        rw [if_neg (show ¬ nn j = (32 : Int32) from fun hh => h32 ((nn_eq (b := 32) (by omega) (by omega)).mp hh)), if_neg (nn_neg (by omega))]
  have fin1 : ∀ v : Nat, f134_143 m (match ixR (nb B s l) with | some j => nn j | none => -1) (nn v) 1 = some (match (match ixR (nb B s l) with | some k => some (if k = 32 then 8 else k) | none => some v : Option Nat) with | some r => nn r | none => -1) := by
    intro v
    unfold f134_143
    cases hs : ixR (nb B s l) with
    | none => rfl
    | some j =>
      have hj := (ixR_some hs).1
      by_cases h32 : j = 32
      · subst h32; rfl
      · simp only [if_neg h32]
        rw [if_neg (show ¬ nn j = (32 : Int32) from fun hh => h32 ((nn_eq (b := 32) (by omega) (by omega)).mp hh)), if_neg (nn_neg (by omega))]
  have nl : ∀ k : Nat, k < 100000 → ¬ l = k → ¬ nn l = nn k := fun k hk h hh => h ((nn_eq (by omega) (by omega)).mp hh)
  by_cases l2 : l = 2
  · subst l2
    have r0 := raw 0 (by omega)
    have r1 := raw 1 (by omega)
    rw [Nat.add_zero] at r0
    have hg0 := hB s
    have hg1 := hB (s + 1)
    have es : nn s + nn 2 - 1 = nn (s + 1) := by rw [nn_add, nn_pred]
    rw [if_pos (show nn 2 = (2 : Int32) from rfl), nn_add1, if_pos ((nn_ib (by omega)).mpr (by omega)), nn_tn (by omega), r1]
    unfold f134_78
    rw [if_neg (show ¬ nn 2 ≤ (1 : Int32) by decide), if_neg (show ¬ (4 : Int32) ≤ nn 2 by decide), if_pos ((nn_ib (by omega)).mpr (by omega)), nn_tn (by omega), r0, q_eq (x := 120) (k := 120) rfl hg0 (by decide), nn_add1, if_pos ((nn_ib (by omega)).mpr (by omega)), nn_tn (by omega), r1, q_b (ch_digit hg1), es, if_pos ((nn_ib (by omega)).mpr (by omega)), nn_tn (by omega), r1, q_b (ch_digit hg1), ch_hex hg1]
    have ew : nb B s 2 = [B s, B (s + 1)] := rfl
    have ep : plR (nb B s 2) = if B s = 120 ∧ isD (B (s + 1)) = true then some (B (s + 1) - 48) else none := by rw [ew]; rfl
    by_cases hp : B s = 120 ∧ isD (B (s + 1)) = true
    · have dr := isD_rng.mp hp.2
      have ev : hxd (B (s + 1)) = B (s + 1) - 48 := by unfold hxd; rw [if_pos dr]
      rw [if_pos hp.1, if_pos hp.2, if_pos hp.2, if_pos (isD_H hp.2), ev, if_neg (show ¬ (32 : Int32) ≤ nn (B (s + 1) - 48) from fun hh => by have := (nn_le (a := 32) (by omega) (by omega)).mp hh; omega), fin1, ep, if_pos hp]
      rfl
    · rw [ep, if_neg hp]
      by_cases q1 : B s = 120
      · rw [if_pos q1, if_neg (fun h => hp ⟨q1, h⟩), fin0]; rfl
      · rw [if_neg q1, fin0]; rfl
  rw [if_neg (show ¬ nn l = (2 : Int32) from nl 2 (by omega) l2)]
  by_cases l3 : l = 3
  · subst l3
    have r0 := raw 0 (by omega)
    have r1 := raw 1 (by omega)
    have r2 := raw 2 (by omega)
    rw [Nat.add_zero] at r0
    have hg0 := hB s
    have hg1 := hB (s + 1)
    have hg2 := hB (s + 2)
    have es : nn s + nn 3 - 1 = nn (s + 2) := by rw [nn_add, nn_pred]
    have ew : nb B s 3 = [B s, B (s + 1), B (s + 2)] := rfl
    have ep : plR (nb B s 3) = if B s = 120 ∧ isD (B (s + 1)) = true ∧ isD (B (s + 2)) = true ∧ ¬ B (s + 1) = 48 ∧ (B (s + 1) - 48) * 10 + (B (s + 2) - 48) < 32 then some ((B (s + 1) - 48) * 10 + (B (s + 2) - 48)) else none := by rw [ew]; rfl
    have core : ∀ y0 : Int32, f134_78 m (nn s) (nn 3) (match ixR (nb B s 3) with | some j => nn j | none => -1) y0 = if B s = 120 then (if isD (B (s + 1)) = true then (if isD (B (s + 2)) = true then (if (32 : Int32) ≤ y0 then f134_142 m (match ixR (nb B s 3) with | some j => nn j | none => -1) y0 else f134_143 m (match ixR (nb B s 3) with | some j => nn j | none => -1) y0 1) else f134_142 m (match ixR (nb B s 3) with | some j => nn j | none => -1) y0) else f134_142 m (match ixR (nb B s 3) with | some j => nn j | none => -1) y0) else f134_142 m (match ixR (nb B s 3) with | some j => nn j | none => -1) y0 := by
      intro y0
      unfold f134_78
      rw [if_neg (show ¬ nn 3 ≤ (1 : Int32) by decide), if_neg (show ¬ (4 : Int32) ≤ nn 3 by decide), if_pos ((nn_ib (by omega)).mpr (by omega)), nn_tn (by omega), r0, q_eq (x := 120) (k := 120) rfl hg0 (by decide), nn_add1, if_pos ((nn_ib (by omega)).mpr (by omega)), nn_tn (by omega), r1, q_b (ch_digit hg1), es, if_pos ((nn_ib (by omega)).mpr (by omega)), nn_tn (by omega), r2, q_b (ch_digit hg2)]
    have cz : ∀ y0 : Int32, (¬ (B s = 120 ∧ isD (B (s + 1)) = true ∧ isD (B (s + 2)) = true) ∨ (32 : Int32) ≤ y0) → f134_78 m (nn s) (nn 3) (match ixR (nb B s 3) with | some j => nn j | none => -1) y0 = some (match (match ixR (nb B s 3) with | some k => some (if k = 32 then 8 else k) | none => none : Option Nat) with | some r => nn r | none => -1) := by
      intro y0 h
      rw [core, fin0]
      by_cases q1 : B s = 120
      · rw [if_pos q1]
        by_cases q2 : isD (B (s + 1)) = true
        · rw [if_pos q2]
          by_cases q3 : isD (B (s + 2)) = true
          · rw [if_pos q3]
            rcases h with h | h
            · exact absurd ⟨q1, q2, q3⟩ h
            · rw [if_pos h]
          · rw [if_neg q3]
        · rw [if_neg q2]
      · rw [if_neg q1]
    unfold f134_77
    have g1 : m.2 4 (nn s + 1).toNatClampNeg = nn (B (s + 1)) := by rw [nn_add1, nn_tn (by omega), r1]
    have g2 : m.2 4 (nn s + 2).toNatClampNeg = nn (B (s + 2)) := by rw [nn_add2, nn_tn (by omega), r2]
    have i1 : ib (nn s + 1) 65536 := by rw [nn_add1]; exact (nn_ib (by omega)).mpr (by omega)
    have i2 : ib (nn s + 2) 65536 := by rw [nn_add2]; exact (nn_ib (by omega)).mpr (by omega)
    rw [if_pos (show nn 3 = (3 : Int32) from rfl), if_pos i1]
    simp only [g1, g2, if_pos i1, if_pos i2]
    rw [q_eq (x := 48) (k := 48) rfl hg1 (by decide), ch_hex hg1, ch_hex hg2, ep]
    by_cases q48 : B (s + 1) = 48
    · rw [if_pos q48, if_neg (fun hh => hh.2.2.2.1 q48)]
      -- v is -1: taken for no register, or for one below 32
      rw [core]
      by_cases q1 : B s = 120 ∧ isD (B (s + 1)) = true ∧ isD (B (s + 2)) = true
      · rw [if_pos q1.1, if_pos q1.2.1, if_pos q1.2.2, if_neg (by decide)]
        unfold f134_143
        cases hs : ixR (nb B s 3) with
        | none => rfl
        | some j =>
          have hj := (ixR_some hs).1
          by_cases h32 : j = 32
          · subst h32; rfl
          · simp only [if_neg h32]
            rw [if_neg (show ¬ nn j = (32 : Int32) from fun hh => h32 ((nn_eq (b := 32) (by omega) (by omega)).mp hh)), if_neg (nn_neg (by omega))]
      · rw [← core, cz _ (Or.inl q1)]; rfl
    · rw [if_neg q48]
      by_cases hd : isD (B (s + 1)) = true ∧ isD (B (s + 2)) = true
      · have d1 := isD_rng.mp hd.1
        have d2 := isD_rng.mp hd.2
        have v1 : hxd (B (s + 1)) = B (s + 1) - 48 := by unfold hxd; rw [if_pos d1]
        have v2 : hxd (B (s + 2)) = B (s + 2) - 48 := by unfold hxd; rw [if_pos d2]
        have e10 : ∀ v : Nat, v < 10 → 10 * nn v = nn (v * 10) := by decide +kernel
        rw [if_pos (isD_H hd.1), if_pos (isD_H hd.2), v1, v2, e10 _ (by omega), nn_add]
        by_cases q1 : B s = 120 ∧ (B (s + 1) - 48) * 10 + (B (s + 2) - 48) < 32
        · rw [core, if_pos q1.1, if_pos hd.1, if_pos hd.2, if_neg (show ¬ (32 : Int32) ≤ nn ((B (s + 1) - 48) * 10 + (B (s + 2) - 48)) from fun hh => by have := (nn_le (a := 32) (by omega) (by omega)).mp hh; omega), fin1, if_pos ⟨q1.1, hd.1, hd.2, q48, q1.2⟩]; rfl
        · rw [if_neg (fun hh => q1 ⟨hh.1, hh.2.2.2.2⟩)]
          by_cases q2 : B s = 120
          · rw [cz _ (Or.inr (show (32 : Int32) ≤ nn ((B (s + 1) - 48) * 10 + (B (s + 2) - 48)) from (nn_le (a := 32) (by omega) (by omega)).mpr (by omega)))]; rfl
          · rw [cz _ (Or.inl (fun hh => q2 hh.1))]; rfl
      · rw [if_neg (show ¬ (B s = 120 ∧ isD (B (s + 1)) = true ∧ isD (B (s + 2)) = true ∧ ¬ B (s + 1) = 48 ∧ (B (s + 1) - 48) * 10 + (B (s + 2) - 48) < 32) from fun hh => hd ⟨hh.2.1, hh.2.2.1⟩), cz _ (Or.inl (fun hh => hd ⟨hh.2.1, hh.2.2⟩))]; rfl
  · rw [if_neg (show ¬ nn l = (3 : Int32) from nl 3 (by omega) l3)]
    unfold f134_77 f134_78
    have ep : plR (nb B s l) = none := by
      have hl := nb_len B s l
      generalize nb B s l = w at hl
      match w, hl with
      | [], _ => rfl
      | [_], _ => rfl
      | [_, _], h => simp at h; omega
      | [_, _, _], h => simp at h; omega
      | _ :: _ :: _ :: _ :: _, _ => rfl
    rw [ep]
    by_cases q : l ≤ 1
    · rw [if_pos (show nn l ≤ (1 : Int32) from (nn_le (b := 1) (by omega) (by omega)).mpr q), fin0]; rfl
    · rw [if_neg (show ¬ nn l ≤ (1 : Int32) from fun hh => q ((nn_le (b := 1) (by omega) (by omega)).mp hh)), if_pos (show (4 : Int32) ≤ nn l from (nn_le (a := 4) (by omega) (by omega)).mpr (by omega)), fin0]; rfl
end MR
