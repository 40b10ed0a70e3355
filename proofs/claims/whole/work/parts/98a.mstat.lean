/-! THE REFERENCE's statement: its end. -/
section MT
variable {m : mS} {B : Nat → Nat} {tl z ln : Nat} {tb : List Sy} {base here : Int32} {ag : Bool} {P : Ps} {ts : List Tk} {j : Nat} {d : Rx (List Tk)}
theorem tcode_0' {k : Nat} : tcode k = 0 ↔ k = 0 := by
  unfold tcode
  by_cases h0 : k = 0
  · rw [if_pos h0]; exact ⟨fun _ => h0, fun _ => rfl⟩
  rw [if_neg h0]
  refine ⟨fun h => ?_, fun h => absurd h h0⟩
  split at h
  · exact absurd h (by decide)
  split at h
  · exact absurd h (by decide)
  split at h
  · exact absurd h (by decide)
  · exact absurd h (by decide)
theorem IF_S {m' : mS} (hj : j < 83) (hx : mw j < 72) (C : MCX m B tl z tb ln base here ag P) (I : IFIN m m' B z tb ln base here ag P j ts) : SFIN m m' B tl z tb ln base here ag P j ts := by
  obtain ⟨o, d', bs, i1, i2, i3, i4, i5, i6, i7⟩ := I
  obtain ⟨v7, v2, v3, v6, v4, v5, v1⟩ := tV j hj hx
  refine ⟨(o, [], none), d', bs, ?_, i2, FR_mono i1 (by decide) (by decide), i4, fun r hr => ⟨?_, ?_, fun hg => ⟨fun _ => ⟨i5 r hr, i6 hg⟩, fun h => absurd ⟨fun h => absurd h v4, fun h => absurd h v5⟩ h⟩, fun hg => i7 hg r hr⟩⟩
  · have em : eMode ag (sFrm j) = if ag = true then 2 else 1 := by
      unfold eMode
      rw [if_neg (fun h => by rcases h with h | h | h; exact v4 h; exact v5 h; exact v6 h)]
    unfold xRead
    rw [if_neg v2, if_neg v3, if_neg v6, em, i3]
    cases d' <;> rfl
  · show SYMm m' B tl (tb ++ [])
    rw [List.append_nil]
    exact SYMm_fr i1 (by decide) (by decide) C.1.2.1
  · show SDN B (tb ++ [])
    rw [List.append_nil]
    exact C.1.2.2.1
theorem f156_dead {x pl : Int32} (h : ¬ m.1 11 = 0) : f115_156 m x pl = some m := by
  have h234 : f115_234 m pl = some m := by
    unfold f115_234
    rw [f131_dead h]
    split
    · rfl
    · split <;> rfl
  have h227 : f115_227 m pl = some m := by
    unfold f115_227
    rw [f131_dead h, Option.bind_some, h234]
  have h194 : f115_194 m pl = some m := by
    unfold f115_194
    rw [h234, h227, if_pos (show ib (0 : Int32) 2 by decide), if_pos (show ib (1 : Int32) 2 by decide)]
    split
    · split
      · split <;> rfl
      · rfl
    · rfl
  have h172 : f115_172 m x pl = some m := by
    unfold f115_172
    rw [h194, f131_dead h, Option.bind_some, h194]
    split
    · rfl
    · split <;> rfl
  unfold f115_156
  rw [h172, f131_dead h, Option.bind_some, h172]
  split <;> rfl
/-- the end of a statement that is read -/
theorem m_end {x pl : Nat} {t0 : Tk} {r0 : List Tk} (hx : x < 83) (hpl : pl < 70000) (h19 : m.1 19 = eb ag) (M : MSx m B z (.inl (t0 :: r0))) {al : Prop} (h33 : m.1 33 - m.1 33 / 4 * 4 = 0 ↔ al) {n0 n1 : Nat} (h35 : m.2 35 0 = nn n0) (h35' : m.2 35 1 = nn n1) (hn0 : n0 ≤ 500000) (hn1 : n1 ≤ 500000) : ∃ m', f115_156 m (nn x) (nn pl) = some m' ∧ FR [11, 12, 13] [] m m' ∧ (¬ t0.1 = 0 → MSx m' B z (.inr (t0.2.1, 1))) ∧ (t0.1 = 0 → (x < 72 ∧ ¬ al → MSx m' B z (.inr (pl, 7))) ∧ (¬ (x < 72 ∧ ¬ al) → (ag = false → (m.1 37 = 0 ∧ n0 + n1 ≤ 65420 → m' = m) ∧ (¬ (m.1 37 = 0 ∧ n0 + n1 ≤ 65420) → MSx m' B z (.inr (pl, 6)))) ∧ (ag = true → (m.1 37 = 0 → m' = m) ∧ (¬ m.1 37 = 0 → MSx m' B z (.inr (pl, 10)))))) := by
  obtain ⟨hb, M1, M2, M3, M4⟩ := M
  have e20 : m.1 20 = tcode t0.1 := by
    obtain ⟨t', r', e0, e1⟩ := MC_20 M1
    obtain ⟨rfl, rfl⟩ := List.cons.inj e0
    exact e1
  -- an error at the statement's name
  have err : ∀ k : Nat, 0 < k → k < 100 → ∃ q, f131 m (nn k) (nn pl) = some q ∧ FR [11, 12, 13] [] m q ∧ MSx q B z (.inr (pl, k)) := by
    intro k h0 h1
    have F : FR [11, 12, 13] [] m (mg (mg (mg m 11 (nn k)) 12 (nn pl - m.1 16)) 13 (m.1 15)) := FR_g (FR_g (FR_g (FR_refl _ _ _) (by decide) _) (by decide) _) (by decide) _
    exact ⟨_, by rw [f131_alive M3], F, MSx_err hb F rfl h0 h1 rfl rfl⟩
  by_cases c0 : t0.1 = 0
  · have e156 : f115_156 m (nn x) (nn pl) = f115_172 m (nn x) (nn pl) := by
      unfold f115_156
      rw [if_pos (show m.1 20 = 0 by rw [e20]; exact tcode_0'.mpr c0)]
    rw [e156]
    have e194 : ∃ m', f115_194 m (nn pl) = some m' ∧ FR [11, 12, 13] [] m m' ∧ (ag = false → (m.1 37 = 0 ∧ n0 + n1 ≤ 65420 → m' = m) ∧ (¬ (m.1 37 = 0 ∧ n0 + n1 ≤ 65420) → MSx m' B z (.inr (pl, 6)))) ∧ (ag = true → (m.1 37 = 0 → m' = m) ∧ (¬ m.1 37 = 0 → MSx m' B z (.inr (pl, 10)))) := by
      unfold f115_194
      rw [h19]
      cases ag with
      | false =>
        rw [if_pos (show eb false = 0 from rfl), if_pos (show ib (0 : Int32) 2 by decide), if_pos (show ib (1 : Int32) 2 by decide)]
        have e234 : ∀ mm : mS, mm.1 19 = eb false → f115_234 mm (nn pl) = some mm := by
          intro mm h
          unfold f115_234
          rw [h, if_pos (show eb false = 0 from rfl)]
        obtain ⟨q, q1, q2, q3⟩ := err 6 (by decide) (by decide)
        have e227 : f115_227 m (nn pl) = some q := by
          unfold f115_227
          rw [show f131 m 6 (nn pl) = some q from q1, Option.bind_some, e234 q (by rw [q2.1 19 (by decide)]; exact h19)]
        rw [e227, e234 m h19, show m.2 35 (0 : Int32).toNatClampNeg = nn n0 from h35, show m.2 35 (1 : Int32).toNatClampNeg = nn n1 from h35', nn_add, show (65420 : Int32) = nn 65420 from rfl, nn_le2 (by omega) (by omega)]
        by_cases c : m.1 37 = 0
        · rw [if_pos c]
          by_cases c2 : n0 + n1 ≤ 65420
          · rw [if_pos c2]
            exact ⟨m, rfl, FR_refl _ _ _, fun _ => ⟨fun _ => rfl, fun h => absurd ⟨c, c2⟩ h⟩, fun h => by cases h⟩
          · rw [if_neg c2]
            exact ⟨q, rfl, q2, fun _ => ⟨fun h => absurd h.2 c2, fun _ => q3⟩, fun h => by cases h⟩
        · rw [if_neg c]
          exact ⟨q, rfl, q2, fun _ => ⟨fun h => absurd h.1 c, fun _ => q3⟩, fun h => by cases h⟩
      | true =>
        rw [if_neg (show ¬ eb true = 0 by decide)]
        unfold f115_234
        rw [h19, if_neg (show ¬ eb true = 0 by decide)]
        by_cases c : m.1 37 = 0
        · rw [if_pos c]
          exact ⟨m, rfl, FR_refl _ _ _, (fun h => by cases h), fun _ => ⟨fun _ => rfl, fun h => absurd c h⟩⟩
        · rw [if_neg c]
          obtain ⟨q, q1, q2, q3⟩ := err 10 (by decide) (by decide)
          exact ⟨q, by rw [show f131 m 10 (nn pl) = some q from q1]; rfl, q2, (fun h => by cases h), fun _ => ⟨fun h => absurd h c, fun _ => q3⟩⟩
    unfold f115_172
    rw [show (72 : Int32) = nn 72 from rfl, nn_le2 (by omega) (by omega)]
    by_cases c72 : 72 ≤ x
    · rw [if_pos c72]
      obtain ⟨m', k1, k2, k3, k4⟩ := e194
      exact ⟨m', k1, k2, fun h => absurd c0 h, fun _ => ⟨fun h => absurd h.1 (by omega), fun _ => ⟨k3, k4⟩⟩⟩
    · rw [if_neg c72]
      by_cases ca : m.1 33 - m.1 33 / 4 * 4 = 0
      · rw [if_pos ca]
        obtain ⟨m', k1, k2, k3, k4⟩ := e194
        exact ⟨m', k1, k2, fun h => absurd c0 h, fun _ => ⟨fun h => absurd (h33.mp ca) h.2, fun _ => ⟨k3, k4⟩⟩⟩
      · rw [if_neg ca]
        obtain ⟨q, q1, q2, q3⟩ := err 7 (by decide) (by decide)
        have n11 := MSx_ne q3
        have hd : f115_194 q (nn pl) = some q := by
          have h234 : f115_234 q (nn pl) = some q := by
            unfold f115_234
            rw [f131_dead n11]
            split
            · rfl
            · split <;> rfl
          have h227 : f115_227 q (nn pl) = some q := by
            unfold f115_227
            rw [f131_dead n11, Option.bind_some, h234]
          unfold f115_194
          rw [h234, h227, if_pos (show ib (0 : Int32) 2 by decide), if_pos (show ib (1 : Int32) 2 by decide)]
          split
          · split
            · split <;> rfl
            · rfl
          · rfl
        refine ⟨q, by rw [show f131 m 7 (nn pl) = some q from q1, Option.bind_some, hd], q2, fun h => absurd c0 h, fun _ => ⟨fun _ => q3, fun h => absurd ⟨by omega, fun h9 => ca (h33.mpr h9)⟩ h⟩⟩
  · obtain ⟨q, q1, q2, q3, q4, q5⟩ := fail_at M1 M3 1
    have Mq : MSx q B z (.inr (t0.2.1, 1)) := MSx_err hb q2 q3 (by decide) (by decide) q4 q5
    refine ⟨q, ?_, q2, fun _ => Mq, fun h => absurd h c0⟩
    have hd := f156_dead (x := nn x) (pl := nn pl) (MSx_ne Mq)
    unfold f115_156
    rw [if_neg (show ¬ m.1 20 = 0 by rw [e20, tcode_0']; exact c0), show f131 m 1 (m.1 21) = some q from q1, Option.bind_some]
    -- dead all along
    have hd2 : f115_172 q (nn x) (nn pl) = some q := by
      unfold f115_156 at hd
      by_cases c : q.1 20 = 0
      · rw [if_pos c] at hd; exact hd
      · rw [if_neg c, f131_dead (MSx_ne Mq), Option.bind_some] at hd; exact hd
    exact hd2
theorem PSm_tb {t : List Sy} {bs : List Int32} (h : PSm m ag P bs) : PSm m ag (t, P.2) bs := by
  unfold PSm sAdd at h ⊢
  by_cases c : P.2.1 = 0
  · rw [if_pos c] at h
    rw [if_pos (show ((t, P.2) : Ps).2.1 = 0 from c)]
    exact h
  · rw [if_neg c] at h
    rw [if_neg (show ¬ ((t, P.2) : Ps).2.1 = 0 from c)]
    exact h
/-- the bytes of a statement are the pass's -/
theorem PSm_end {t : List Sy} {bs bs2 : List Int32} (h : PSm m ag P bs) (hl : bs.length = bs2.length) (hb : ag = true → bs = bs2) : PSm m ag (sAdd (t, P.2) bs2) [] := by
  have h := PSm_tb (t := t) h
  have key : ∀ Q : Ps, PSm m ag Q bs → PSm m ag (sAdd Q bs2) [] := by
    intro Q h
    obtain ⟨h1, h2, h3, h4, h5, h6, h7⟩ := h
    have e1 : (sAdd Q bs).2.2.1.length = (sAdd Q bs2).2.2.1.length := by
      unfold sAdd
      split
      · show (Q.2.2.1 ++ bs).length = (Q.2.2.1 ++ bs2).length
        rw [List.length_append, List.length_append, hl]
      · rfl
    have e2 : (sAdd Q bs).2.2.2.length = (sAdd Q bs2).2.2.2.length := by
      unfold sAdd
      split
      · rfl
      · show (Q.2.2.2 ++ bs).length = (Q.2.2.2 ++ bs2).length
        rw [List.length_append, List.length_append, hl]
    have e3 : (sAdd Q bs2).2.1 = Q.2.1 := by unfold sAdd; split <;> rfl
    unfold PSm
    rw [sAdd_nil, e3]
    refine ⟨h1, h2, by rw [← e1]; exact h3, by rw [← e2]; exact h4, by rw [← e1]; exact h5, by rw [← e2]; exact h6, fun hg => ?_⟩
    have := h7 hg
    rw [hb hg] at this
    exact this
  exact key _ h
end MT
