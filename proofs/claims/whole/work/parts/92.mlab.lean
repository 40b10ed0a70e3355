/-! THE REFERENCE's labels. -/
def IL : List Nat := [11, 12, 13, 18, 20, 21, 22, 23, 24, 26]
def AL : List Nat := [25, 27, 28, 29, 30, 31]
section MB
variable {m : mS} {B : Nat → Nat} {tl z ln : Nat} {tb : List Sy} {base here : Int32} {ag : Bool} {P : Ps} {ts : List Tk}
theorem SDN_snoc {x : Sy} (h : SDN B tb) (hn : sfind B tb (nb B x.1 x.2.1) = none) : SDN B (tb ++ [x]) := by
  have hs : ∀ i, i < tb.length → syn B (tb ++ [x]) i = syn B tb i := fun i hi => by unfold syn; rw [getD_l hi]
  have hx : syn B (tb ++ [x]) tb.length = nb B x.1 x.2.1 := by
    unfold syn
    rw [List.getD_eq_getElem?_getD, List.getElem?_append, if_neg (by omega), Nat.sub_self]
    rfl
  intro i j hi hj he
  rw [List.length_append, List.length_singleton] at hi hj
  by_cases ci : i < tb.length
  · by_cases cj : j < tb.length
    · rw [hs i ci, hs j cj] at he; exact h i j ci cj he
    · have ej : j = tb.length := by omega
      rw [ej, hx, hs i ci] at he
      exact absurd he (lastE_none hn i ci)
  · have ei : i = tb.length := by omega
    by_cases cj : j < tb.length
    · rw [ei, hx, hs j cj] at he
      exact absurd he.symm (lastE_none hn j cj)
    · omega
theorem mg_back (m : mS) (k : Nat) (x : Int32) : mg (mg m k x) k (m.1 k) = m := by
  refine Prod.ext ?_ rfl
  funext i
  show upd (upd m.1 k x) k (m.1 k) i = m.1 i
  unfold upd
  by_cases h : i = k
  · rw [if_pos h, h]
  · rw [if_neg h, if_neg h]
theorem m_118 (T : TX m B z) {p : Nat} (h18 : m.1 18 = nn p) (hp : p < 900000) : f118 m = some (mg m 18 (nn (sk B z p))) := by
  have hz := T.2.1
  have hmx : m = mx m (nn p) (m.1 20) (m.1 21) (m.1 22) (m.1 23) (m.1 24) (m.2 25) := by rw [← h18]; exact mx_id.symm
  have := m_blanks (tk := m.1 20) (st := m.1 21) (vl := m.1 22) (fl := m.1 23) (mn := m.1 24) (str := m.2 25) T mm_U p (by show z - p < 200000; omega) hp
  rw [← hmx] at this
  have e9 : mg m 18 (nn (sk B z p)) = mx m (nn (sk B z p)) (m.1 20) (m.1 21) (m.1 22) (m.1 23) (m.1 24) (m.2 25) := by
    conv => lhs; rw [hmx]
    rw [mx_18]
  rw [e9]
  exact this
theorem m_137 {n : Nat} (h19 : m.1 19 = eb ag) (h26 : m.1 26 = nn n) (hn : n < 17500) (k s l v : Int32) : ∃ m', f137 m k s l v = some m' ∧ FR [26] [27, 28, 29, 30, 31] m m' ∧ (ag = true → m' = m) ∧ (ag = false → m'.1 26 = nn (n + 1) ∧ m'.2 27 = upd (m.2 27) n s ∧ m'.2 28 = upd (m.2 28) n l ∧ m'.2 29 = upd (m.2 29) n k ∧ m'.2 30 = upd (m.2 30) n v ∧ m'.2 31 = upd (m.2 31) n (m.1 15)) := by
  unfold f137
  rw [h19]
  cases ag with
  | true => exact ⟨m, by rw [if_neg (show ¬ eb true = 0 by decide)], FR_refl _ _ _, fun _ => rfl, fun h => by cases h⟩
  | false =>
    have hi : ib (m.1 26) 17500 := by rw [h26]; exact (nn_ib (by omega)).mpr hn
    rw [if_pos (show eb false = 0 from rfl), if_pos hi, if_pos hi, if_pos hi, if_pos hi, if_pos hi]
    refine ⟨_, rfl, FR_b (FR_b (FR_b (FR_b (FR_b (FR_g (FR_refl _ _ _) (by decide) _) (by decide) _ _) (by decide) _ _) (by decide) _ _) (by decide) _ _) (by decide) _ _, (fun h => by cases h), fun _ => ?_⟩
    have ht : (m.1 26).toNatClampNeg = n := by rw [h26, nn_tn (by omega)]
    refine ⟨?_, ?_, ?_, ?_, ?_, ?_⟩
    · show m.1 26 + 1 = _
      rw [h26, nn_add1]
    · rw [mb_ne (by decide), mb_ne (by decide), mb_ne (by decide), mb_ne (by decide), mb_eq, ht]; rfl
    · rw [mb_ne (by decide), mb_ne (by decide), mb_ne (by decide), mb_eq, ht, mb_ne (by decide)]; rfl
    · rw [mb_ne (by decide), mb_ne (by decide), mb_eq, ht, mb_ne (by decide), mb_ne (by decide)]; rfl
    · rw [mb_ne (by decide), mb_eq, ht, mb_ne (by decide), mb_ne (by decide), mb_ne (by decide)]; rfl
    · rw [mb_eq, ht, mb_ne (by decide), mb_ne (by decide), mb_ne (by decide), mb_ne (by decide)]; rfl
theorem SYMm_add {m' : mS} {st l sec ln : Nat} {v : Int32} (S : SYMm m B tl tb) (hn : tb.length < 17500) (hE : SEN B tl (st, l, sec, v, ln)) (h1 : m'.1 26 = nn (tb.length + 1)) (h2 : m'.2 27 = upd (m.2 27) tb.length (nn st)) (h3 : m'.2 28 = upd (m.2 28) tb.length (nn l)) (h4 : m'.2 29 = upd (m.2 29) tb.length (nn (skd sec))) (h5 : m'.2 30 = upd (m.2 30) tb.length v) (h6 : m'.2 31 = upd (m.2 31) tb.length (nn ln)) : SYMm m' B tl (tb ++ [(st, l, sec, v, ln)]) := by
  obtain ⟨s1, s2, s3⟩ := S
  refine ⟨by rw [h1, List.length_append, List.length_singleton], by rw [List.length_append, List.length_singleton]; omega, fun i hi => ?_⟩
  rw [List.length_append, List.length_singleton] at hi
  rw [h2, h3, h4, h5, h6]
  unfold upd
  by_cases c : i < tb.length
  · rw [getD_l c, if_neg (by omega), if_neg (by omega), if_neg (by omega), if_neg (by omega), if_neg (by omega)]
    exact s3 i c
  · have ei : i = tb.length := by omega
    have e : (tb ++ [(st, l, sec, v, ln)]).getD i sy0 = (st, l, sec, v, ln) := by
      rw [ei, List.getD_eq_getElem?_getD, List.getElem?_append, if_neg (by omega), Nat.sub_self]
      rfl
    rw [e, if_pos ei, if_pos ei, if_pos ei, if_pos ei, if_pos ei]
    exact ⟨hE, rfl, rfl, rfl, rfl, rfl⟩
/-- a name is new -/
theorem m_132 {t : Tk} {r : List Tk} (S : SCm m B tl z tb ln base ag) (M : MSx m B z (.inl (t :: r))) (h1 : t.1 = 1) : ∃ m', f132 m = some m' ∧ FR [11, 12, 13] [] m m' ∧ (if ag = true ∨ isNew B tb t = true then m' = m else MSx m' B z (.inr (t.2.1, 2))) := by
  obtain ⟨hb, M1, M2, M3, M4⟩ := M
  obtain ⟨S1, S2, S3, S4, S5, S6, S7, S8⟩ := S
  unfold f132
  rw [S8]
  cases ag with
  | true => exact ⟨m, by rw [if_neg (show ¬ eb true = 0 by decide)], FR_refl _ _ _, by rw [if_pos (Or.inl rfl)]⟩
  | false =>
    rw [if_pos (show eb false = 0 from rfl), m_look S1 S2 S3 S4 (FR_refl _ _ _) M1 h1, Option.bind_some]
    have hR := (isR_at S1.2.2.1 M1).2 h1
    rw [hR, Option.bind_some]
    obtain ⟨q, q1, q2, q3, q4, q5⟩ := fail_at M1 M3 2
    have bad : f132_47 m = some q := by unfold f132_47; rw [show f131 m 2 (m.1 21) = some q from q1]; rfl
    have Mq : MSx q B z (.inr (t.2.1, 2)) := MSx_err hb q2 q3 (by decide) (by decide) q4 q5
    cases hs : sfind B tb (tname B t) with
    | some k =>
      have hk := sfind_S S2 k hs
      have hnew : isNew B tb t = false := by unfold isNew; simp [hs]
      rw [show jI (some k) = nn k from rfl, if_pos (nn_pos (by omega)), bad]
      exact ⟨q, rfl, q2, by rw [if_neg (fun h => by rcases h with h | h; cases h; rw [hnew] at h; cases h)]; exact Mq⟩
    | none =>
      rw [show jI none = (-1 : Int32) from rfl, if_neg (show ¬ (0 : Int32) ≤ -1 by decide)]
      cases hg : rg (tname B t) with
      | some n =>
        have hn := rg_lt hg
        have hnew : isNew B tb t = false := by unfold isNew; simp [hg]
        rw [show rgI (tname B t) = nn n by unfold rgI; rw [hg], if_neg (nn_neg (by omega)), bad]
        exact ⟨q, rfl, q2, by rw [if_neg (fun h => by rcases h with h | h; cases h; rw [hnew] at h; cases h)]; exact Mq⟩
      | none =>
        have hnew : isNew B tb t = true := by unfold isNew; simp [hg, hs]
        rw [show rgI (tname B t) = -1 from rgI_m1.mpr hg, if_pos (show (-1 : Int32) < 0 by decide)]
        exact ⟨m, rfl, FR_refl _ _ _, by rw [if_pos (Or.inr hnew)]⟩
theorem tk_58 {p : Nat} (hp : p ≤ z) : (tk B z p).1 = 58 ↔ gb B z (sk B z p) = 58 := by
  have hq : sk B z p ≤ z := scan_le hp
  unfold tk
  by_cases c : sk B z p = z ∨ gb B z (sk B z p) = 35
  · rw [if_pos c]
    constructor
    · intro h; cases h
    · intro h
      rcases c with c | c
      · rw [gb_out (by omega)] at h; cases h
      · omega
  · rw [if_neg c]
    generalize sk B z p = q
    unfold lx
    by_cases c1 : isB (gb B z q) = true ∧ (¬ gb B z q = 46 ∨ isN (gb B z (q + 1)) = true)
    · rw [if_pos c1]
      constructor
      · intro h; cases h
      · intro h; rw [h] at c1; cases c1.1
    rw [if_neg c1]
    by_cases c2 : isD (gb B z q) = true
    · rw [if_pos c2]
      constructor
      · intro h; split at h <;> cases h
      · intro h; rw [h] at c2; cases c2
    rw [if_neg c2]
    by_cases c3 : gb B z q = 39
    · rw [if_pos c3]; constructor
      · intro h; cases h
      · intro h; omega
    rw [if_neg c3]
    by_cases c4 : gb B z q = 34
    · rw [if_pos c4]; constructor
      · intro h; cases h
      · intro h; omega
    rw [if_neg c4]
    by_cases c5 : gb B z q = 60 ∨ gb B z q = 62
    · rw [if_pos c5]
    rw [if_neg c5]
    by_cases c6 : sgn (gb B z q) = true
    · rw [if_pos c6]
    rw [if_neg c6]
    constructor
    · intro h; cases h
    · intro h; rw [h] at c6; exact absurd rfl c6
/-- what the labels leave -/
def LBD (m : mS) (B : Nat → Nat) (z : Nat) (l : List Tk) (d : Rx (List Tk)) : Prop := ((d = .inl l ∧ ∀ t r, l = t :: r → t.1 = 1 → t.2.2.2.2 = none) ∨ ∃ t r w, l = t :: r ∧ t.1 = 1 ∧ t.2.2.2.2 = some w ∧ d = .inr (w, 1)) ∧ MSx m B z d
theorem m_lab {off : Nat} : ∀ (n : Nat) (ts : List Tk) (tb : List Sy) (m : mS) (u : Nat), ts.length ≤ n → MSx m B z (.inl ts) → SCm m B tl z tb ln base ag → PSm m ag P [] → tb.length + (if ag = true then 0 else ts.length) ≤ 17400 → n + 1 < u → ∃ m', f116_6 u m 1 = some m' ∧ FR IL AL m m' ∧ (match xLab B ag P.2.1 (nn (sEnd P)) ln ts tb with
    | .inl l => SCm m' B tl z l.2 ln base ag ∧ ∃ d, LBD m' B z l.1 d
    | .inr p => MSx m' B z (.inr p)) := by
  intro n
  induction n with
  | zero =>
    intro ts tb m u hn M
    obtain ⟨t, r, rfl, _⟩ := MC_20 M.2.1
    simp at hn
  | succ n ih =>
    intro ts tb m u hn M S PS hm hu
    have M0 := M
    obtain ⟨hb, M1, M2, M3, M4⟩ := M
    obtain ⟨t, r, rfl, e20⟩ := MC_20 M1
    rw [List.length_cons] at hn hm
    have hm9 : tb.length ≤ 17400 := by split at hm <;> omega
    have eu : u = (u - 1) + 1 := by omega
    rw [eu, f116_6, if_neg (show ¬ (1 : Int32) = 0 by decide), if_pos M3]
    by_cases c1 : t.1 = 1
    · rw [if_pos (show m.1 20 = 1 by rw [e20]; exact tcode_1.mpr c1)]
      have hT := M1.1
      cases hf : t.2.2.2.2 with
      | some w =>
        -- too long a name
        obtain ⟨q, q1, q2, q3, q4, q5⟩ := takes_bad M1 M3 hf (by omega)
        have nq : ¬ q.1 11 = 0 := by rw [q3]; decide
        have Mq : MSx q B z (.inr (w, 1)) := MSx_err hb q2 q3 (by decide) (by decide) q4 q5
        have hq18 : ∃ p, q.1 18 = nn p ∧ p < 70000 := by
          obtain ⟨T, t', r', e0, e1, e2, e3, e4, e5, e6, e7⟩ := M1
          exact ⟨_, by rw [q2.1 18 (by decide)]; exact e1, e6⟩
        obtain ⟨p9, hp9, hp8⟩ := hq18
        have Tq : TX q B z := (MC_fr q2 M1 (by decide) (by decide)).1
        have hz := hT.2.1
        have e118 : ∃ x, f118 q = some (mg q 18 x) := ⟨_, m_118 Tq hp9 (by omega)⟩
        obtain ⟨x, hx⟩ := e118
        rw [q1, Option.bind_some, hx, Option.bind_some, if_neg (show ¬ (mg q 18 x).1 11 = 0 from nq)]
        unfold f116_64 f116_65
        rw [if_pos rfl]
        unfold f116_84 f116_112 f116_127 f116_142
        rw [if_pos rfl, if_pos rfl, if_pos rfl]
        have e1 : ∀ s9, f116_6 (u - 1) s9 0 = some s9 := by
          intro s9
          rw [show u - 1 = (u - 2) + 1 by omega, f116_6, if_pos rfl]
        rw [e1]
        have F : FR IL AL m (mg (mg q 18 x) 18 ((mg q 18 x).1 21 + (q.1 18 - q.1 21))) := FR_g (FR_g (FR_mono q2 (by decide) (by decide)) (by decide) _) (by decide) _
        refine ⟨_, rfl, F, ?_⟩
        have hw := M2.1
        have hxl : xLab B ag P.2.1 (nn (sEnd P)) ln (t :: r) tb = .inl (t :: r, tb) := by
          cases r with
          | nil => rfl
          | cons t2 r2 => rw [xLab_two, if_neg (fun h => by rw [hf] at h; cases h.2.1)]
        rw [hxl]
        have Fs : FR [11, 12, 13, 18] [] m (mg (mg q 18 x) 18 ((mg q 18 x).1 21 + (q.1 18 - q.1 21))) := FR_g (FR_g (FR_mono q2 (by decide) (by decide)) (by decide) _) (by decide) _
        exact ⟨SCm_fr Fs (by decide) (by decide) S, .inr (w, 1), Or.inr ⟨t, r, w, rfl, c1, hf, rfl⟩, Mq⟩
      | none =>
        have h130 := takes_ok M1 hf (by omega)
        have hE : m.1 18 = nn t.2.2.2.1 ∧ m.1 21 = nn t.2.1 ∧ r = tks B z t.2.2.2.1 ∧ t.2.2.2.1 ≤ z ∧ t.2.1 < t.2.2.2.1 ∧ NM B z t.2.1 (t.2.2.2.1 - t.2.1) := by
          obtain ⟨T, t', r', e0, e1, e2, e3, e4, e5, e6, e7, e8, e9, e10, e11, e12⟩ := M1
          obtain ⟨rfl, rfl⟩ := List.cons.inj e0
          exact ⟨e1, e3, (e10 (by omega) hf).1, (e10 (by omega) hf).2, e12 c1⟩
        obtain ⟨h18, h21, hrt, hez, hlt, hnm⟩ := hE
        have hz := hT.2.1
        obtain ⟨r2, hr2⟩ := tks_hd (B := B) hez
        rw [hr2] at hrt
        have e118 := m_118 hT h18 (by omega)
        have hskz : sk B z t.2.2.2.1 ≤ z := scan_le hez
        have e119 : f119 (mg m 18 (nn (sk B z t.2.2.2.1))) 0 = some (nn (gb B z (sk B z t.2.2.2.1))) := m_here (m := mg m 18 (nn (sk B z t.2.2.2.1))) hT 0 (p := sk B z t.2.2.2.1) rfl (by omega)
        have hlen : m.1 18 - m.1 21 = nn (t.2.2.2.1 - t.2.1) := by rw [h18, h21, nn_sub (by omega)]
        have hback : mg (mg m 18 (nn (sk B z t.2.2.2.1))) 18 ((mg m 18 (nn (sk B z t.2.2.2.1))).1 21 + (m.1 18 - m.1 21)) = m := by
          have e9 : (mg m 18 (nn (sk B z t.2.2.2.1))).1 21 + (m.1 18 - m.1 21) = m.1 18 := by
            rw [hlen]
            show m.1 21 + _ = _
            rw [h21, nn_add, h18]
            congr 1
            omega
          rw [e9, mg_back]
        rw [h130, Option.bind_some, e118, Option.bind_some, if_pos (show (mg m 18 (nn (sk B z t.2.2.2.1))).1 11 = 0 from M3), e119, Option.bind_some, q_eq (x := 58) (k := 58) rfl (gb_lt hT.2.2.1 _ _) (by decide)]
        have e0 : ∀ s9, f116_6 (u - 1) s9 0 = some s9 := by
          intro s9
          rw [show u - 1 = (u - 2) + 1 by omega, f116_6, if_pos rfl]
        have hxl := xLab_two (B := B) (ag := ag) (ln := ln) P.2.1 (nn (sEnd P)) t (tk B z t.2.2.2.1) r2 tb
        rw [← hrt] at hxl
        rw [hxl]
        by_cases cc : gb B z (sk B z t.2.2.2.1) = 58
        · have hk : (tk B z t.2.2.2.1).1 = 58 := (tk_58 hez).mpr cc
          rw [if_pos cc, if_pos ⟨c1, hf, hk⟩]
          unfold f116_65
          rw [hback, if_neg (show ¬ (1 : Int32) = 0 by decide)]
          obtain ⟨m1, a1, a2, a3⟩ := m_132 S M0 c1
          rw [a1, Option.bind_some]
          unfold f116_84
          have h32 : m1.1 32 = nn P.2.1 := by rw [a2.1 32 (by decide)]; exact PS.1
          have hP1 := PS.2.1
          rw [if_neg (show ¬ (1 : Int32) = 0 by decide), if_pos (show ib (m1.1 32) 2 by rw [h32]; exact (nn_ib (by omega)).mpr (by omega))]
          have h26 : m1.1 26 = nn tb.length := by rw [a2.1 26 (by decide)]; exact S.2.1.1
          have h19 : m1.1 19 = eb ag := by rw [a2.1 19 (by decide)]; exact S.2.2.2.2.2.2.2
          obtain ⟨m2, b1, b2, b3, b4⟩ := m_137 (ag := ag) h19 h26 (by omega) (2 + m1.1 32) (m1.1 21) (m.1 18 - m.1 21) ((m1.2 35) (m1.1 32).toNatClampNeg)
          rw [b1, Option.bind_some]
          by_cases cn : ag = true ∨ isNew B tb t = true
          · rw [if_pos cn] at a3
            subst a3
            have Mb : MSx m2 B z (.inl (t :: r)) := MSx_fr b2 (by decide) (by decide) M0
            have n2 : m2.1 11 = 0 := Mb.2.2.2.1
            obtain ⟨m3, g1, g2, g3⟩ := MSx_next Mb (by omega) hf
            have n3 : m3.1 11 = 0 := g3.2.2.2.1
            rw [hrt] at g3
            obtain ⟨m4, k1, k2, k3⟩ := MSx_next g3 (by omega) (MC_flaw g3.2.1 (by omega) (by omega) (by omega))
            have Fa : FR IL AL m1 m4 := FR_trans (FR_mono b2 (by decide) (by decide)) (FR_trans (FR_mono g2 (by decide) (by decide)) (FR_mono k2 (by decide) (by decide)))
            have Fc : FR [18, 20, 21, 22, 23, 24] [25] m2 m4 := FR_trans g2 k2
            have S4 : SCm m4 B tl z (if ag = true then tb else tb ++ [tsy t P.2.1 (nn (sEnd P)) ln]) ln base ag := by
              refine SCm_fr Fc (by decide) (by decide) ?_
              cases hg : ag with
              | true =>
                rw [b3 hg, if_pos rfl, ← hg]
                exact S
              | false =>
                rw [if_neg (by decide)]
                obtain ⟨w1, w2, w3, w4, w5, w6⟩ := b4 hg
                obtain ⟨S1, S2, S3, S4, S5, S6, S7, S8⟩ := S
                rw [hlen] at w3
                have hat := PSm_at PS
                rw [List.length_nil, Nat.add_zero] at hat
                have hs2 : (2 : Int32) + m1.1 32 = nn (skd P.2.1) := by
                  rw [h32, show (2 : Int32) = nn 2 from rfl, nn_add]
                  unfold skd
                  rw [if_neg (by omega)]
                rw [hs2] at w4
                rw [hat] at w5
                rw [h21] at w2
                rw [S5] at w6
                have hnew : isNew B tb t = true := by
                  rcases cn with h | h
                  · rw [hg] at h; cases h
                  · exact h
                have hnone : sfind B tb (tname B t) = none := (of_decide_eq_true hnew).2
                refine ⟨MXT_fr b2 (by decide) S1, SYMm_add S2 (by omega) ?_ w1 w2 w3 w4 w5 w6, SDN_snoc S3 hnone, S4, by rw [b2.1 15 (by decide)]; exact S5, S6, by rw [b2.1 34 (by decide)]; exact S7, by rw [b2.1 19 (by decide), ← hg]; exact S8⟩
                refine ⟨by show 0 < t.2.2.2.1 - t.2.1; omega, by show t.2.1 + (t.2.2.2.1 - t.2.1) ≤ tl; omega, fun i hi => hnm.2 i hi, by show P.2.1 ≤ 2; omega, S6⟩
            have P4 : PSm m4 ag P [] := PSm_fr Fa (by decide) (by decide) (by decide) PS
            have hl2 : r.length = r2.length + 1 := by rw [hrt, List.length_cons]
            have hA : f116_112 (f116_6 (u - 1)) m2 1 = f116_6 (u - 1) m4 1 := by
              unfold f116_112 f116_127 f116_142
              rw [if_neg (show ¬ (1 : Int32) = 0 by decide), if_pos n2, g1, Option.bind_some, if_neg (show ¬ (1 : Int32) = 0 by decide), if_pos n3, k1]
              rfl
            rw [hA]
            by_cases hg : ag = true
            · rw [if_pos hg] at S4 ⊢
              obtain ⟨m', x1, x2, x3⟩ := ih r2 tb m4 (u - 1) (by omega) k3 S4 P4 (by rw [if_pos hg]; omega) (by omega)
              exact ⟨m', x1, FR_trans Fa x2, x3⟩
            · rw [if_neg hg] at S4 ⊢
              have hnew : isNew B tb t = true := by
                rcases cn with h | h
                · exact absurd h hg
                · exact h
              rw [if_pos hnew]
              obtain ⟨m', x1, x2, x3⟩ := ih r2 _ m4 (u - 1) (by omega) k3 S4 P4 (by rw [if_neg hg] at hm ⊢; rw [List.length_append, List.length_singleton]; omega) (by omega)
              exact ⟨m', x1, FR_trans Fa x2, x3⟩
          · have hg : ag = false := by
              cases h : ag with
              | false => rfl
              | true => exact absurd (Or.inl h) cn
            have hnew : ¬ isNew B tb t = true := fun h => cn (Or.inr h)
            rw [if_neg cn] at a3
            have Mb : MSx m2 B z (.inr (t.2.1, 2)) := MSx_fr b2 (by decide) (by decide) a3
            have n2 := MSx_ne Mb
            have hA : f116_112 (f116_6 (u - 1)) m2 1 = some m2 := by
              unfold f116_112 f116_127 f116_142
              rw [if_neg (show ¬ (1 : Int32) = 0 by decide), if_neg n2, if_neg (show ¬ (1 : Int32) = 0 by decide), if_neg n2, show u - 1 = (u - 2) + 1 by omega, f116_6, if_neg (show ¬ (1 : Int32) = 0 by decide), if_neg n2]
            rw [hA, if_neg (show ¬ ag = true by rw [hg]; decide), if_neg hnew]
            exact ⟨m2, rfl, FR_trans (FR_mono a2 (by decide) (by decide)) (FR_mono b2 (by decide) (by decide)), Mb⟩
        · have hk : ¬ (tk B z t.2.2.2.1).1 = 58 := fun h => cc ((tk_58 hez).mp h)
          rw [if_neg cc, if_neg (fun h => hk h.2.2)]
          unfold f116_64 f116_65
          rw [hback, if_pos rfl]
          unfold f116_84 f116_112 f116_127 f116_142
          rw [if_pos rfl, if_pos rfl, if_pos rfl, e0]
          refine ⟨m, rfl, FR_refl _ _ _, S, .inl (t :: r), Or.inl ⟨?_, fun t' r' e9 _ => ?_⟩, M0⟩
          · rw [hrt]
          · obtain ⟨rfl, _⟩ := List.cons.inj e9
            exact hf
    · rw [if_neg (show ¬ m.1 20 = 1 by rw [e20, tcode_1]; exact c1)]
      have hxl : xLab B ag P.2.1 (nn (sEnd P)) ln (t :: r) tb = .inl (t :: r, tb) := by
        cases r with
        | nil => rfl
        | cons t2 r2 => rw [xLab_two, if_neg (fun h => c1 h.1)]
      rw [hxl]
      refine ⟨m, rfl, FR_refl _ _ _, S, .inl (t :: r), Or.inl ⟨rfl, fun t' r' e9 h9 => ?_⟩, M0⟩
      obtain ⟨rfl, _⟩ := List.cons.inj e9
      exact absurd h9 c1
end MB
