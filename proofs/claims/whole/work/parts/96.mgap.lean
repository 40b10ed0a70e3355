/-! THE REFERENCE's gaps, constants, global names. -/
section MG
variable {m : mS} {B : Nat → Nat} {tl z ln : Nat} {tb : List Sy} {base here : Int32} {ag : Bool} {P : Ps} {ts : List Tk} {j : Nat} {d : Rx (List Tk)}
theorem read_45 {tb1 tb2 : List Sy} {b1 b2 h1 h2 : Int32} (hf : sFrm j = 4 ∨ sFrm j = 5) (hag : AGR (B, tb1, ln, b1, h1, 0) (B, tb2, ln, b2, h2, 0)) : xRead B z false tb1 ln b1 h1 j ts = xRead B z true tb2 ln b2 h2 j ts := by
  have e0 : ∀ g, eMode g (sFrm j) = 0 := by
    intro g
    unfold eMode
    rw [if_pos (by rcases hf with h | h; exact Or.inl h; exact Or.inr (Or.inl h))]
  have n2 : ¬ sFrm j = 2 := by rcases hf with h | h <;> rw [h] <;> decide
  have n3 : ¬ sFrm j = 3 := by rcases hf with h | h <;> rw [h] <;> decide
  have n6 : ¬ sFrm j = 6 := by rcases hf with h | h <;> rw [h] <;> decide
  unfold xRead
  rw [if_neg n2, if_neg n2, if_neg n3, if_neg n3, if_neg n6, if_neg n6, e0, e0, x0_ops (E1 := (B, tb1, ln, b1, h1, 0)) (E2 := (B, tb2, ln, b2, h2, 0)) rfl rfl rfl hag]
theorem d_gap (hj : j < 83) (h1 : 79 ≤ mw j) (h2 : mw j < 81) (C : MCX m B tl z tb ln base here ag P) (h37 : m.1 37 = 0) (W : ag = true → WIT B z ln tb j ts (sEnd P) 65420) (M : MSx m B z (.inl ts)) : ∃ m', f167 m (nn (mw j)) = some m' ∧ SFIN m m' B tl z tb ln base here ag P j ts := by
  obtain ⟨u1, u2⟩ := uC j hj h1 h2
  obtain ⟨n39, n40⟩ := mw60 hj (by omega) (by omega)
  have hf : sFrm j = 4 ∨ sFrm j = 5 := by rw [u1]; split; exact Or.inl rfl; exact Or.inr rfl
  have h19 := C.1.2.2.2.2.2.2.2
  have hsEnd := C.2.2.2
  have N := nvi_0 (here := here) C.1.1 C.1.2.1 C.1.2.2.1 C.1.2.2.2.1 C.1.2.2.2.2.1 C.1.2.2.2.2.2.1
  rw [C.1.2.2.2.2.2.2.1] at N
  obtain ⟨v, e', m1, d1, q1, q2, q3, q4, _⟩ := m_146 (e := true) N (Or.inl ⟨rfl, rfl⟩) C.2.1 rfl (fun h => by cases h) M
  have C1 := MCX_fr (fq q2) C
  have hrd : xRead B z ag tb ln base here j ts = some (prq ((0, 0, 0, v, e'), [], none) d1) := by
    have e0 : eMode ag (sFrm j) = 0 := by
      unfold eMode
      rw [if_pos (by rcases hf with h | h; exact Or.inl h; exact Or.inr (Or.inl h))]
    have n2 : ¬ sFrm j = 2 := by rcases hf with h | h <;> rw [h] <;> decide
    have n3 : ¬ sFrm j = 3 := by rcases hf with h | h <;> rw [h] <;> decide
    have n6 : ¬ sFrm j = 6 := by rcases hf with h | h <;> rw [h] <;> decide
    unfold xRead
    rw [if_neg n2, if_neg n3, if_neg n6, e0, xPat_p n39 n40]
    dsimp only
    rw [u2]
    have := (ops_e (E := (B, tb, ln, base, here, 0)) (ps := []) (o := (0, op0.2)) (al_no (fun p r h => by cases h)) q4).trans ops_0
    have this : xOps (B, tb, ln, base, here, 0) [101] (0, op0.2) ts = _ := this
    rw [this]
    cases d1 <;> rfl
  -- the second time all is well
  have h2nd : ag = true → ∃ r, d1 = .inl r ∧ GAP j ((0, 0, 0, v, e'), [], none, r) ∧ sEnd P + sSz (sFrm j) (sEnd P) ((0, 0, 0, v, e'), [], none, r) ≤ 65420 := by
    intro hg
    obtain ⟨tb', here1, q9, w1, w2, w3, w4, _⟩ := W hg
    rw [read_45 hf (EXT_agr w1 C.1.2.2.1 0 base here1 here 0 0)] at w2
    rw [hg] at hrd
    rw [hrd] at w2
    cases d1 with
    | inr p => cases w2
    | inl r =>
      have w2 := Sum.inl.inj (Option.some.inj w2)
      rw [← w2] at w3 w4
      exact ⟨r, rfl, w3, w4⟩
  have gapI : ∀ r, GAP j ((0, 0, 0, v, e'), [], none, r) ↔ ¬ v < 0 ∧ ¬ (if mw j = 79 then 65420 else 12 : Int32) < v := by
    intro r
    unfold GAP
    dsimp only
    rw [u1]
    by_cases c : mw j = 79
    · rw [if_pos c, if_pos c]
      constructor
      · intro h; exact ⟨Int32.not_lt.mpr (h.1 rfl).1, Int32.not_lt.mpr (h.1 rfl).2⟩
      · intro h; exact ⟨fun _ => ⟨Int32.not_lt.mp h.1, Int32.not_lt.mp h.2⟩, fun h => absurd h (by decide)⟩
    · rw [if_neg c, if_neg c]
      constructor
      · intro h; exact ⟨Int32.not_lt.mpr (h.2 rfl).1, Int32.not_lt.mpr (h.2 rfl).2⟩
      · intro h; exact ⟨fun h => absurd h (by decide), fun _ => ⟨Int32.not_lt.mp h.1, Int32.not_lt.mp h.2⟩⟩
  have b0 : bz (0 : Int32) := Or.inl rfl
  have b1 : bz (1 : Int32) := Or.inr rfl
  -- a gap of w bytes, the flag y
  have fin : ∀ (y : Int32) (w : Nat), w ≤ 70000 → (ag = true → sEnd P + w ≤ 65420) → ∃ m', f168 (mg m1 37 y) (nn w) = some m' ∧ FR IQ9 AQ9 m m' ∧ MSx m' B z d1 ∧ PSm m' ag P (List.replicate w 0) ∧ m'.1 37 = y ∧ SYMm m' B tl (tb ++ []) := by
    intro y w hw hr
    have F2 : FR [37] [] m1 (mg m1 37 y) := FR_g (FR_refl _ _ _) (by decide) _
    have C2 := MCX_fr (FR_mono F2 (by decide) (by decide)) C1
    obtain ⟨m', g1, g2, g3⟩ := m_gap (ag := ag) C2.1.2.2.2.2.2.2.2 C2.2.2.1 (w := w) (by omega) (by show sEnd P + 0 + w ≤ _; omega) (fun h => hr h)
    refine ⟨m', g1, FR_trans (FR_mono q2 (by decide) (by decide)) (FR_trans (FR_mono F2 (by decide) (by decide)) (FR_mono g2 (by decide) (by decide))), MSx_fr g2 (by decide) (by decide) (MSx_fr F2 (by decide) (by decide) q3), g3, by rw [g2.1 37 (by decide)]; rfl, ?_⟩
    rw [List.append_nil]
    exact SYMm_fr g2 (by decide) (by decide) C2.1.2.1
  have e167 : f167 m (nn (mw j)) = if v < 0 then f167_204 m1 (nn (mw j)) v else f167_197 m1 (nn (mw j)) v (if mw j = 79 then 65420 else 12) v := by
    unfold f167
    rw [show (74 : Int32) = nn 74 from rfl, nn_le2 (by omega) (by omega), if_pos (by omega), show (77 : Int32) = nn 77 from rfl, nn_le2 (by omega) (by omega), if_pos (by omega), show (79 : Int32) = nn 79 from rfl, nn_le2 (by omega) (by omega), if_pos (by omega), show (81 : Int32) = nn 81 from rfl, nn_le2 (by omega) (by omega), if_neg (by omega), q1, Option.bind_some, q_eq (x := nn 79) (k := 79) rfl (by omega) (by decide)]
    show (if v < 0 then _ else if mw j = 79 then _ else _) = _
    by_cases c : mw j = 79
    · rw [if_pos c, if_pos c]
    · rw [if_neg c, if_neg c]
  have eBad : f167_204 m1 (nn (mw j)) v = f168 (mg m1 37 1) (nn 0) ∨ True := Or.inr trivial
  have e204 : ∀ m', f168 (mg m1 37 1) (nn 0) = some m' → f167_204 m1 (nn (mw j)) v = some m' := by
    intro m' h
    unfold f167_204 f167_205
    rw [if_pos rfl]
    unfold f167_216
    rw [if_pos b1, if_pos rfl]
    unfold f167_235 f167_236
    rw [if_pos rfl]
    unfold f167_275
    rw [show (0 : Int32) = nn 0 from rfl, h]
    rfl
  by_cases cg : ¬ v < 0 ∧ ¬ (if mw j = 79 then 65420 else 12 : Int32) < v
  · -- a gap
    have G := gapI
    have hv0 : 0 ≤ v := Int32.not_lt.mp cg.1
    have hvn := sm_nn hv0
    have hsz : ∃ w, w ≤ 70000 ∧ (∀ r, sSz (sFrm j) (sEnd P) ((0, 0, 0, v, e'), [], none, r) = w) ∧ ∀ m', f168 (mg m1 37 0) (nn w) = some m' → f167 m (nn (mw j)) = some m' := by
      by_cases c : mw j = 79
      · have hv2 := tn_le (n := 65420) (by decide) (Int32.not_lt.mp (by have := cg.2; rw [if_pos c] at this; exact this))
        refine ⟨v.toNatClampNeg, by omega, fun r => ?_, fun m' h => ?_⟩
        · rw [u1, if_pos c]; rfl
        · rw [e167, if_neg cg.1]
          unfold f167_197
          rw [if_neg cg.2]
          unfold f167_205
          rw [if_neg (by decide)]
          unfold f167_216
          rw [if_pos b0, if_neg (by decide), q_eq (x := 80) (k := 80) rfl (by omega) (by decide), if_neg (by omega)]
          unfold f167_235 f167_236
          rw [if_neg (by decide), q_eq (x := 79) (k := 79) rfl (by omega) (by decide), if_pos c]
          unfold f167_275
          rw [hvn, h]
          rfl
      · have hv2 := tn_le (n := 12) (by decide) (Int32.not_lt.mp (by have := cg.2; rw [if_neg c] at this; exact this))
        have h80 : mw j = 80 := by omega
        generalize hk : v.toNatClampNeg = k at hvn hv2
        have h2k : 2 ^ k ≤ 4096 := by
          have := Nat.pow_le_pow_right (n := 2) (by decide) (show k ≤ 12 by omega)
          exact this
        have h2p : 0 < 2 ^ k := Nat.two_pow_pos _
        have hml := Nat.mod_lt (sEnd P) h2p
        have hml2 := Nat.mod_lt (2 ^ k - sEnd P % 2 ^ k) h2p
        refine ⟨(2 ^ k - sEnd P % 2 ^ k) % 2 ^ k, by omega, fun r => ?_, fun m' h => ?_⟩
        · rw [u1, if_neg c]
          show (2 ^ v.toNatClampNeg - sEnd P % 2 ^ v.toNatClampNeg) % 2 ^ v.toNatClampNeg = _
          rw [hk]
        · rw [e167, if_neg cg.1]
          unfold f167_197
          rw [if_neg cg.2]
          unfold f167_205
          rw [if_neg (by decide)]
          unfold f167_216
          rw [if_pos b0, if_neg (by decide), q_eq (x := 80) (k := 80) rfl (by omega) (by decide), if_pos h80]
          unfold f167_236
          have h32 : (mg m1 37 0).1 32 = nn P.2.1 := C1.2.2.1.1
          have hP1 := C1.2.2.1.2.1
          have hat : (mg m1 37 0).2 35 ((mg m1 37 0).1 32).toNatClampNeg = nn (sEnd P) := by
            have := PSm_at C1.2.2.1
            rw [List.length_nil, Nat.add_zero] at this
            exact this
          have hy : ((1 : Int32) <<< (v &&& 31)) = nn (2 ^ k) := by rw [hvn]; exact al3 k (by omega)
          have hy0 : ¬ nn (2 ^ k) = 0 := by
            intro h9
            have := (nn_eq (b := 0) (by omega) (by omega)).mp h9
            omega
          rw [if_neg (by decide), q_eq (x := 79) (k := 79) rfl (by omega) (by decide), if_neg c, hy, if_pos (show ib ((mg m1 37 0).1 32) 2 by rw [h32]; exact (nn_ib (by omega)).mpr (by omega)), if_pos hy0, if_pos hy0, hat, nn_mod (by omega) (by omega), nn_sub (by omega), nn_mod (by omega) (by omega)]
          unfold f167_275
          rw [h]
          rfl
    obtain ⟨w, hw, hs, hp⟩ := hsz
    have hroom : ag = true → sEnd P + w ≤ 65420 := by
      intro h
      obtain ⟨r, _, _, x3⟩ := h2nd h
      rw [hs r] at x3
      exact x3
    obtain ⟨m', g1, g2, g3, g4, g5, g6⟩ := fin 0 w hw hroom
    refine ⟨m', hp m' g1, ((0, 0, 0, v, e'), [], none), d1, _, hrd, g3, g2, g4, fun r hr => ⟨g6, ?_, fun _ => ⟨fun _ => ⟨?_, g5⟩, fun h => absurd ((gapI r).mpr cg) h⟩, fun h => ⟨?_, fun _ => ?_⟩⟩⟩
    · show SDN B (tb ++ [])
      rw [List.append_nil]
      exact C.1.2.2.1
    · rw [List.length_replicate, hs r]
    · rw [g5]
      rcases hf with h | h <;> rw [h] <;> rfl
    · have hy : sByt (sFrm j) (sCod j) here (sEnd P) ((0, 0, 0, v, e'), [], none, r) = List.replicate (sSz (sFrm j) (sEnd P) ((0, 0, 0, v, e'), [], none, r)) 0 := by
        rcases hf with h | h <;> rw [h] <;> rfl
      rw [hy, hs r]
  · -- out of range
    have hag : ag = false := by
      cases hg : ag with
      | false => rfl
      | true =>
        obtain ⟨r, _, x2, _⟩ := h2nd hg
        exact absurd ((gapI r).mp x2) cg
    obtain ⟨m', g1, g2, g3, g4, g5, g6⟩ := fin 1 0 (by decide) (fun h => by rw [hag] at h; cases h)
    refine ⟨m', ?_, ((0, 0, 0, v, e'), [], none), d1, _, hrd, g3, g2, g4, fun r hr => ⟨g6, ?_, fun _ => ⟨fun h => absurd ((gapI r).mp h) cg, fun _ => g5⟩, fun h => by rw [hag] at h; cases h⟩⟩
    · rw [e167]
      by_cases c : v < 0
      · rw [if_pos c]; exact e204 m' g1
      · rw [if_neg c]
        unfold f167_197
        by_cases c2 : (if mw j = 79 then 65420 else 12 : Int32) < v
        · rw [if_pos c2]; exact e204 m' g1
        · exact absurd ⟨c, c2⟩ cg
    · show SDN B (tb ++ [])
      rw [List.append_nil]
      exact C.1.2.2.1
end MG
