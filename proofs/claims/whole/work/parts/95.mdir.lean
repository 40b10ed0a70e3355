/-! THE REFERENCE's strings and gaps. -/
section ME
variable {m : mS} {B : Nat → Nat} {tl z ln : Nat} {tb : List Sy} {base here : Int32} {ag : Bool} {P : Ps} {ts : List Tk} {j : Nat} {d : Rx (List Tk)}
theorem MSx_dd {I A : List Nat} {m' : mS} {p : Nat × Nat} (F : FR I A m m') (hI : ∀ k ∈ [11, 12, 13, 15, 16, 38], ¬ k ∈ I) (h : MSx m B z (.inr p)) : MSx m' B z (.inr p) := by
  obtain ⟨hb, h1, h2, h3, h4, h5⟩ := h
  exact ⟨by rw [F.1 38 (hI 38 (by decide))]; exact hb, by rw [F.1 11 (hI 11 (by decide))]; exact h1, h2, h3, by rw [F.1 12 (hI 12 (by decide)), F.1 16 (hI 16 (by decide))]; exact h4, by rw [F.1 13 (hI 13 (by decide)), F.1 15 (hI 15 (by decide))]; exact h5⟩
theorem tcode_3' {k : Nat} : tcode k = 3 ↔ k = 3 := by
  unfold tcode
  by_cases h0 : k = 0
  · rw [if_pos h0, h0]; decide
  rw [if_neg h0]
  by_cases h1 : k = 1
  · rw [if_pos h1, h1]; decide
  rw [if_neg h1]
  by_cases h2 : k = 2
  · rw [if_pos h2, h2]; decide
  rw [if_neg h2]
  by_cases h3 : k = 3
  · rw [if_pos h3]; exact ⟨fun _ => h3, fun _ => rfl⟩
  · rw [if_neg h3]; exact ⟨fun h => absurd h (by decide), fun h => absurd h h3⟩
theorem strL_sm (B : Nat → Nat) (z : Nat) : ∀ u p, ∀ b ∈ strL B z u p, b < 128 := by
  intro u
  induction u with
  | zero => intro p b h; cases h
  | succ u ih =>
    intro p b h
    rw [strL] at h
    by_cases hm : mean B z 34 p = 999
    · rw [if_pos hm] at h; cases h
    · rw [if_neg hm] at h
      rcases List.mem_cons.mp h with h | h
      · have := mean_or B z 34 p
        omega
      · exact ih _ b h
/-- the bytes of a string are put -/
theorem lp_111 {x : Int32} {L : List Nat} (hL : ∀ b ∈ L, b < 128) (hLl : L.length ≤ 70000) (h19 : m.1 19 = eb ag) (h11 : m.1 11 = 0) (h24 : m.1 24 = nn L.length) (h25 : ∀ i, i < L.length → m.2 25 i = nn (L.getD i 0)) (hb : sEnd P ≤ 70000) (hr : ag = true → sEnd P + L.length ≤ 65420) : ∀ (l2 l1 : List Nat) (u : Nat) (m1 : mS), L = l1 ++ l2 → l2.length < u → FR [] [35, 36] m m1 → PSm m1 ag P (l1.map nn) → L.length ≤ 65536 → ∃ m2, f167_111 u m1 x (nn l1.length) = f167_143 m2 x ∧ FR [] [35, 36] m m2 ∧ PSm m2 ag P (L.map nn) := by
  intro l2
  induction l2 with
  | nil =>
    intro l1 u m1 e hu F PS h6
    rw [List.append_nil] at e
    have eu : u = (u - 1) + 1 := by omega
    rw [eu, f167_111, F.1 24 (by decide), h24, ← e, if_pos (Int32.le_refl _)]
    exact ⟨m1, rfl, F, by rw [← e] at PS; exact PS⟩
  | cons b l2 ih =>
    intro l1 u m1 e hu F PS h6
    rw [List.length_cons] at hu
    have eu : u = (u - 1) + 1 := by omega
    have hlen : L.length = l1.length + (l2.length + 1) := by rw [e, List.length_append, List.length_cons]
    have hg : L.getD l1.length 0 = b := by
      rw [e, List.getD_eq_getElem?_getD, List.getElem?_append, if_neg (by omega), Nat.sub_self]
      rfl
    have hb8 : b < 128 := hL b (by rw [e]; exact List.mem_append_right _ (List.mem_cons_self ..))
    have hv : m1.2 25 l1.length = nn b := by rw [F.2 25 (by decide), h25 _ (by omega), hg]
    obtain ⟨m2, b1, b2, b3⟩ := m_pt (ag := ag) (by rw [F.1 19 (by decide)]; exact h19) PS (nn b) (w := 1) (by decide) (by rw [List.length_map]; omega) (fun h => by have := hr h; rw [List.length_map]; omega)
    rw [le1 b hb8] at b3
    rw [eu, f167_111, F.1 24 (by decide), h24, if_neg (fun h => by have := (nn_le (by omega) (by omega)).mp h; omega), F.1 11 (by decide), if_pos h11, if_pos ((nn_ib (by omega)).mpr (by omega)), nn_tn (by omega), hv, show f144 m1 (nn b) 1 = some m2 from b1, Option.bind_some, nn_add1]
    have := ih (l1 ++ [b]) (u - 1) m2 (by rw [e, List.append_assoc]; rfl) (by omega) (FR_trans F b2) (by rw [List.map_append]; exact b3) h6
    rw [List.length_append, List.length_singleton] at this
    exact this
theorem d_str (hj : j < 83) (h1 : 77 ≤ mw j) (h2 : mw j < 79) (C : MCX m B tl z tb ln base here ag P) (h37 : m.1 37 = 0) (W : ag = true → WIT B z ln tb j ts (sEnd P) 65420) (M : MSx m B z (.inl ts)) : ∃ m', f167 m (nn (mw j)) = some m' ∧ SFIN m m' B tl z tb ln base here ag P j ts := by
  obtain ⟨u1, u2⟩ := uB j hj h1 h2
  have h19 := C.1.2.2.2.2.2.2.2
  have hsEnd := C.2.2.2
  have M0 := M
  obtain ⟨hb, M1, M2, M3, M4⟩ := M
  obtain ⟨t, r, rfl, e20⟩ := MC_20 M1
  have hz := M1.1.2.1
  have hbnd : ∃ p, m.1 18 = nn p ∧ p < 70000 := by
    obtain ⟨T, t', r', e0, e1, e2, e3, e4, e5, e6, e7⟩ := M1
    exact ⟨_, e1, e6⟩
  obtain ⟨p9, hp9, hp8⟩ := hbnd
  have e167 : f167 m (nn (mw j)) = if m.1 20 = 3 then f167_105 m (nn (mw j)) else ((f131 m 1 (m.1 21)).bind fun r1 => f167_105 r1 (nn (mw j))) := by
    unfold f167
    rw [show (74 : Int32) = nn 74 from rfl, nn_le2 (by omega) (by omega), if_pos (by omega), show (77 : Int32) = nn 77 from rfl, nn_le2 (by omega) (by omega), if_pos (by omega), show (79 : Int32) = nn 79 from rfl, nn_le2 (by omega) (by omega), if_neg (by omega)]
  have e143 : ∀ mm, f167_143 mm (nn (mw j)) = f167_156 mm (nn (sCod j).toNatClampNeg) 0 := by
    intro mm
    unfold f167_143
    rw [q_eq (x := 78) (k := 78) rfl (by omega) (by decide), u2]
    by_cases c : mw j = 78
    · rw [if_pos c, if_pos c]; rfl
    · rw [if_neg c, if_neg c]; rfl
  have hn1 : (sCod j).toNatClampNeg ≤ 1 := by rw [u2]; split <;> omega
  have hrd : xRead B z ag tb ln base here j (t :: r) = xStr B z (sCod j).toNatClampNeg (t :: r) := by
    unfold xRead
    rw [if_neg (show ¬ sFrm j = 2 by rw [u1]; decide), if_pos u1]
  -- dead before the bytes
  have dead : ∀ (q : mS) (p : Nat × Nat), FR [11, 12, 13] [] m q → MSx q B z (.inr p) → xStr B z (sCod j).toNatClampNeg (t :: r) = some (.inr p) → ∃ m', f167_105 q (nn (mw j)) = some m' ∧ SFIN m m' B tl z tb ln base here ag P j (t :: r) := by
    intro q p F Mq hx
    have hag : ag = false := by
      cases hg : ag with
      | false => rfl
      | true =>
        obtain ⟨tb', here1, q1, w1, w2, w3, w4, _⟩ := W hg
        unfold xRead at w2
        rw [if_neg (show ¬ sFrm j = 2 by rw [u1]; decide), if_pos u1, hx] at w2
        cases w2
    have n11 := MSx_ne Mq
    have PSq : PSm q ag P [] := PSm_fr F (by decide) (by decide) (by decide) C.2.2.1
    obtain ⟨m2, b1, b2, b3⟩ := m_pt (ag := ag) (by rw [F.1 19 (by decide)]; exact h19) PSq 0 (w := (sCod j).toNatClampNeg) (by omega) (by show sEnd P + 0 + _ ≤ _; omega) (fun h => by rw [hag] at h; cases h)
    have T2 : TX m2 B z := (MC_fr (FR_trans (FR_mono F (by decide) (by decide)) (FR_mono b2 (by decide) (by decide)) : FR [11, 12, 13] [35, 36] m m2) M1 (by decide) (by decide)).1
    obtain ⟨m3, g1, g2⟩ := m_nextS T2 (by rw [b2.1 18 (by decide), F.1 18 (by decide)]; exact hp9) (by omega)
    have F9 : FR [11, 12, 13, 18, 20, 21, 22, 23, 24] [25, 35, 36] m m3 := FR_trans (FR_mono F (by decide) (by decide)) (FR_trans (FR_mono b2 (by decide) (by decide)) (FR_mono g2 (by decide) (by decide)))
    refine ⟨m3, ?_, (op0, [], none), .inr p, _, ?_, MSx_dd g2 (by decide) (MSx_dd b2 (by decide) Mq), FR_mono F9 (by decide) (by decide), PSm_fr g2 (by decide) (by decide) (by decide) b3, fun r h => by cases h⟩
    · unfold f167_105
      rw [f130_dead n11, Option.bind_some]
      show f167_111 (199999 + 1) q (nn (mw j)) 0 = _
      rw [f167_111, if_neg n11, e143]
      have e156 : f167_156 q (nn (sCod j).toNatClampNeg) 0 = some m3 := by
        unfold f167_156
        rw [b1, Option.bind_some, g1]
        rfl
      rw [e156]
      split <;> rfl
    · rw [hrd, hx]; rfl
  rw [e167]
  by_cases c3 : t.1 = 3
  · rw [if_pos (show m.1 20 = 3 by rw [e20]; exact tcode_3'.mpr c3)]
    cases hf : t.2.2.2.2 with
    | some w =>
      obtain ⟨q, q1, q2, q3, q4, q5⟩ := takes_bad M1 M3 hf (by omega)
      have Mq : MSx q B z (.inr (w, 1)) := MSx_err hb q2 q3 (by decide) (by decide) q4 q5
      have hx : xStr B z (sCod j).toNatClampNeg (t :: r) = some (.inr (w, 1)) := by
        unfold xStr xExp
        simp only [if_pos c3, hf]
        rfl
      obtain ⟨m', k1, k2⟩ := dead q (w, 1) q2 Mq hx
      refine ⟨m', ?_, k2⟩
      rw [← k1]
      unfold f167_105
      rw [q1, f130_dead (MSx_ne Mq)]
    | none =>
      have h130 := takes_ok M1 hf (by omega)
      have hval : m.1 24 = nn (strL B z (z - t.2.1) (t.2.1 + 1)).length ∧ ∀ i, i < (strL B z (z - t.2.1) (t.2.1 + 1)).length → m.2 25 i = nn ((strL B z (z - t.2.1) (t.2.1 + 1)).getD i 0) := by
        obtain ⟨T, t', r', e0, e1, e2, e3, e4, e5, e6⟩ := M1
        obtain ⟨rfl, rfl⟩ := List.cons.inj e0
        exact e5.2.2.2 c3 hf
      have hlen := strL_len B z (z - t.2.1) (t.2.1 + 1)
      have hsm := strL_sm B z (z - t.2.1) (t.2.1 + 1)
      have hx : xStr B z (sCod j).toNatClampNeg (t :: r) = some (.inl (op0, (strL B z (z - t.2.1) (t.2.1 + 1)).map nn ++ List.replicate (sCod j).toNatClampNeg 0, none, r)) := by
        unfold xStr xExp
        simp only [if_pos c3, hf]
        rfl
      have hroom : ag = true → sEnd P + ((strL B z (z - t.2.1) (t.2.1 + 1)).length + (sCod j).toNatClampNeg) ≤ 65420 := by
        intro hg
        obtain ⟨tb', here1, q1, w1, w2, w3, w4, _⟩ := W hg
        have hs : sSz (sFrm j) (sEnd P) q1 = q1.2.1.length := by
          unfold sSz
          rw [u1, if_neg (by decide), if_pos (by decide)]
        unfold xRead at w2
        rw [if_neg (show ¬ sFrm j = 2 by rw [u1]; decide), if_pos u1, hx] at w2
        have w2 := Sum.inl.inj (Option.some.inj w2)
        rw [hs, ← w2] at w4
        have w4 : sEnd P + ((strL B z (z - t.2.1) (t.2.1 + 1)).map nn ++ List.replicate (sCod j).toNatClampNeg 0).length ≤ 65420 := w4
        rw [List.length_append, List.length_map, List.length_replicate] at w4
        exact w4
      generalize hL : strL B z (z - t.2.1) (t.2.1 + 1) = L at hval hlen hsm hx hroom
      obtain ⟨m1, a1, a2, a3⟩ := lp_111 (x := nn (mw j)) (L := L) hsm (by omega) h19 M3 hval.1 hval.2 hsEnd (fun h => by have := hroom h; omega) L [] mm_U m rfl (by show L.length < 200000; omega) (FR_refl _ _ _) C.2.2.1 (by omega)
      obtain ⟨m2, b1, b2, b3⟩ := m_pt (ag := ag) (by rw [a2.1 19 (by decide)]; exact h19) a3 0 (w := (sCod j).toNatClampNeg) (by omega) (by rw [List.length_map]; omega) (fun h => by have := hroom h; rw [List.length_map]; omega)
      have Mb : MSx m2 B z (.inl (t :: r)) := MSx_fr b2 (by decide) (by decide) (MSx_fr a2 (by decide) (by decide) M0)
      obtain ⟨m3, g1, g2, g3⟩ := MSx_next Mb (by omega) hf
      have F9 : FR [18, 20, 21, 22, 23, 24] [25, 35, 36] m m3 := FR_trans (FR_mono a2 (by decide) (by decide)) (FR_trans (FR_mono b2 (by decide) (by decide)) (FR_mono g2 (by decide) (by decide)))
      have k7 : m3.1 37 = 0 := by rw [F9.1 37 (by decide)]; exact h37
      have hle : le 0 (sCod j).toNatClampNeg 0 = List.replicate (sCod j).toNatClampNeg 0 := by
        rw [u2]
        split
        · exact le0
        · rfl
      rw [hle] at b3
      have PS3 := PSm_fr g2 (by decide) (by decide) (by decide) b3
      refine ⟨m3, ?_, (op0, L.map nn ++ List.replicate (sCod j).toNatClampNeg 0, none), .inl r, _, ?_, g3, FR_mono F9 (by decide) (by decide), PS3, fun r' _ => ⟨?_, ?_, fun _ => ⟨fun _ => ⟨?_, k7⟩, fun h => absurd ?_ h⟩, fun h => ⟨by rw [u1, k7]; rfl, fun _ => ?_⟩⟩⟩
      · unfold f167_105
        rw [h130, Option.bind_some, show (0 : Int32) = nn ([] : List Nat).length from rfl, a1, e143]
        unfold f167_156
        rw [b1, Option.bind_some, g1]
        rfl
      · rw [hrd, hx]; rfl
      · show SYMm m3 B tl (tb ++ [])
        rw [List.append_nil]
        exact SYMm_fr F9 (by decide) (by decide) C.1.2.1
      · show SDN B (tb ++ [])
        rw [List.append_nil]
        exact C.1.2.2.1
      · unfold sSz
        rw [u1, if_neg (by decide), if_pos (by decide)]
      · exact ⟨fun h => absurd h (by rw [u1]; decide), fun h => absurd h (by rw [u1]; decide)⟩
      · unfold sByt
        rw [u1, if_pos (by decide)]
  · rw [if_neg (show ¬ m.1 20 = 3 by rw [e20, tcode_3']; exact c3)]
    obtain ⟨q, q1, q2, q3, q4, q5⟩ := fail_at M1 M3 1
    have Mq : MSx q B z (.inr (t.2.1, 1)) := MSx_err hb q2 q3 (by decide) (by decide) q4 q5
    have hx : xStr B z (sCod j).toNatClampNeg (t :: r) = some (.inr (t.2.1, 1)) := by
      unfold xStr xExp
      simp only [if_neg c3]
      rfl
    obtain ⟨m', k1, k2⟩ := dead q (t.2.1, 1) q2 Mq hx
    exact ⟨m', by rw [show f131 m 1 (m.1 21) = some q from q1, Option.bind_some]; exact k1, k2⟩
theorem nn_div {a b : Nat} (ha : a < 2147483648) (hb : b < 2147483648) : nn a / nn b = nn (a / b) := by
  apply Int32.toInt_inj.mp
  have h1 : (nn b) ≠ -1 := nn_m1 hb
  rw [Int32.toInt_div_of_ne_right _ _ h1, nn_int ha, nn_int hb, nn_int (Nat.lt_of_le_of_lt (Nat.div_le_self a b) ha), Int.tdiv_eq_ediv_of_nonneg (Int.natCast_nonneg a)]
  rfl
theorem nn_mod {a b : Nat} (ha : a < 2147483648) (hb : b < 2147483648) : nn a - nn a / nn b * nn b = nn (a % b) := by
  rw [nn_div ha hb, show nn (a / b) * nn b = nn (a / b * b) from (Int32.ofNat_mul (a / b) b).symm, nn_sub (Nat.div_mul_le_self a b)]
  congr 1
  have := Nat.div_add_mod a b
  rw [Nat.mul_comm] at this
  omega
theorem al3 : ∀ n, n < 13 → ((1 : Int32) <<< (nn n &&& 31)) = nn (2 ^ n) := by decide +kernel
end ME
