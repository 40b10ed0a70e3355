/-! THE REFERENCE's statements: its cursor, alive or dead. -/
def IP : List Nat := [11, 12, 13, 18, 20, 21, 22, 23, 24, 38, 39, 40, 41]
def AP : List Nat := [25, 42, 43, 44, 45, 46]
/-- alive at tokens, or dead with an error -/
def MSx (m : mS) (B : Nat → Nat) (z : Nat) (d : Rx (List Tk)) : Prop := bz (m.1 38) ∧ match d with
  | .inl ts => MC m B z ts ∧ WQ ts ∧ m.1 11 = 0 ∧ ts.length < 100000
  | .inr p => m.1 11 = nn p.2 ∧ 0 < p.2 ∧ p.2 < 100 ∧ m.1 12 = nn p.1 - m.1 16 ∧ m.1 13 = m.1 15
def pr {α : Type} (v : α) (d : Rx (List Tk)) : Rx (α × List Tk) := match d with
  | .inl ts => .inl (v, ts)
  | .inr p => .inr p
def prx (v : Int32) (e : Bool) (d : Rx (List Tk)) : Rx Xv := match d with
  | .inl ts => .inl (v, e, ts)
  | .inr p => .inr p
def xD {α : Type} (f : List Tk → Option (Rx α)) (d : Rx (List Tk)) : Option (Rx α) := match d with
  | .inl ts => f ts
  | .inr p => some (.inr p)
theorem rg_lt {w : List Nat} {n : Nat} (h : rg w = some n) : n < 1000 := by
  unfold rg rgL at h
  repeat' split at h
  all_goals first | (injection h with h; omega) | cases h
section MP
variable {m : mS} {B : Nat → Nat} {z : Nat} {d : Rx (List Tk)} {ts : List Tk}
theorem MSx_ne {p : Nat × Nat} (h : MSx m B z (.inr p)) : ¬ m.1 11 = 0 := by
  obtain ⟨_, h1, h2, h3, _⟩ := h
  intro h
  rw [h1] at h
  have := (nn_eq (b := 0) (by omega) (by omega)).mp h
  omega
/-- an error that comes up -/
theorem MSx_err {m' : mS} {p k : Nat} (hb : bz (m.1 38)) (F : FR [11, 12, 13] [] m m') (h1 : m'.1 11 = nn k) (hk : 0 < k) (hk2 : k < 100) (h2 : m'.1 12 = nn p - m.1 16) (h3 : m'.1 13 = m.1 15) : MSx m' B z (.inr (p, k)) := by
  refine ⟨by rw [F.1 38 (by decide)]; exact hb, h1, hk, hk2, ?_, ?_⟩
  · rw [F.1 16 (by decide)]; exact h2
  · rw [F.1 15 (by decide)]; exact h3
/-- the rest changes -/
theorem MSx_fr {I A : List Nat} {m' : mS} (F : FR I A m m') (hI : ∀ k ∈ [11, 12, 13, 15, 16, 17, 18, 20, 21, 22, 23, 24, 38], ¬ k ∈ I) (hA : ¬ 4 ∈ A ∧ ¬ 25 ∈ A) (h : MSx m B z d) : MSx m' B z d := by
  refine ⟨by rw [F.1 38 (hI 38 (by decide))]; exact h.1, ?_⟩
  have h := h.2
  cases d with
  | inl ts =>
    exact ⟨MC_fr F h.1 ⟨hI 17 (by decide), hI 18 (by decide), hI 20 (by decide), hI 21 (by decide), hI 22 (by decide), hI 23 (by decide), hI 24 (by decide)⟩ hA, h.2.1, by rw [F.1 11 (hI 11 (by decide))]; exact h.2.2.1, h.2.2.2⟩
  | inr p =>
    obtain ⟨h1, h2, h3, h4, h5⟩ := h
    exact ⟨by rw [F.1 11 (hI 11 (by decide))]; exact h1, h2, h3, by rw [F.1 12 (hI 12 (by decide)), F.1 16 (hI 16 (by decide))]; exact h4, by rw [F.1 13 (hI 13 (by decide)), F.1 15 (hI 15 (by decide))]; exact h5⟩
theorem MC_20 (M : MC m B z ts) : ∃ t r, ts = t :: r ∧ m.1 20 = tcode t.1 := by
  obtain ⟨T, t', r', e0, e1, e2, _⟩ := M
  exact ⟨t', r', e0, e2⟩
theorem f130_dead (h : ¬ m.1 11 = 0) : f130 m = some m := by
  unfold f130
  rw [f131_dead h]
  by_cases c : m.1 23 < 0
  · rw [if_pos c]
  · rw [if_neg c]; rfl
theorem f140_dead (h : ¬ m.1 11 = 0) : f140 m = some (0, m) := by
  unfold f140
  have h12 : f140_12 m = some (0, m) := by
    unfold f140_12
    rw [if_neg h]
    unfold f140_47 f140_48
    rw [if_neg (show ¬ (0 : Int32) ≤ -1 by decide), f131_dead h, Option.bind_some]
    unfold f140_69
    rw [if_neg (show ¬ (0 : Int32) ≤ -1 by decide)]
  rw [f130_dead h, Option.bind_some, h12]
  split <;> rfl
theorem f141_dead (h : ¬ m.1 11 = 0) (k : Int32) : f141 m k = some m := by
  unfold f141 f142
  rw [if_neg h, if_pos rfl, f131_dead h]
  rfl
theorem MSx_next {t : Tk} {r : List Tk} (M : MSx m B z (.inl (t :: r))) (h0 : ¬ t.1 = 0) (hf : t.2.2.2.2 = none) : ∃ m', f117 m = some m' ∧ FR [18, 20, 21, 22, 23, 24] [25] m m' ∧ MSx m' B z (.inl r) := by
  obtain ⟨hb, M1, M2, M3, M4⟩ := M
  obtain ⟨m', a1, a2, a3⟩ := m_adv M1 h0 hf
  rw [List.length_cons] at M4
  exact ⟨m', a1, a3, by rw [a3.1 38 (by decide)]; exact hb, a2, WQ_next M2 h0 hf, by rw [a3.1 11 (by decide)]; exact M3, by omega⟩
theorem m_140 (hY : ∀ i, (m.2 4 i).toInt8.toInt32 = m.2 4 i) (M : MSx m B z d) : ∃ v m' d', f140 m = some (v, m') ∧ FR IP AP m m' ∧ MSx m' B z d' ∧ xD (xReg B) d = some (pr v d') := by
  cases d with
  | inr p => exact ⟨0, m, .inr p, f140_dead (MSx_ne M), FR_refl _ _ _, M, rfl⟩
  | inl ts =>
    have M0 := M
    obtain ⟨hb, M1, M2, M3, M4⟩ := M
    obtain ⟨t, r, rfl, e20⟩ := MC_20 M1
    have hs : xD (xReg B) (.inl (t :: r)) = xb (xExp 1 (t :: r)) fun r => match rg (tname B t) with
      | none => some (.inr (t.2.1, 1))
      | some n => some (.inl (nn n, r)) := rfl
    have wrong : ∃ v m' d', f131 m 1 (m.1 21) = some m' ∧ FR IP AP m m' ∧ MSx m' B z d' ∧ (some (.inr (t.2.1, 1)) : Option (Rx (Int32 × List Tk))) = some (pr v d') ∧ v = 0 := by
      obtain ⟨q, q1, q2, q3, q4, q5⟩ := fail_at M1 M3 1
      exact ⟨0, q, .inr (t.2.1, 1), q1, FR_mono q2 (by decide) (by decide), MSx_err hb q2 q3 (by decide) (by decide) q4 q5, rfl, rfl⟩
    have fin : ∀ m' : mS, (f131 m 1 (m.1 21)) = some m' → f140_48 m (-1) = some (0, m') := by
      intro m' h
      unfold f140_48
      rw [if_neg (show ¬ (0 : Int32) ≤ -1 by decide), h, Option.bind_some]
      unfold f140_69
      rw [if_neg (show ¬ (0 : Int32) ≤ -1 by decide)]
    by_cases c1 : t.1 = 1
    · have c20 : m.1 20 = 1 := by rw [e20]; exact tcode_1.mpr c1
      cases hf : t.2.2.2.2 with
      | some w =>
        obtain ⟨q, q1, q2, q3, q4, q5⟩ := takes_bad M1 M3 hf (by omega)
        have nq : ¬ q.1 11 = 0 := by rw [q3]; decide
        refine ⟨0, q, .inr (w, 1), ?_, FR_mono q2 (by decide) (by decide), MSx_err hb q2 q3 (by decide) (by decide) q4 q5, ?_⟩
        · unfold f140
          rw [if_pos c20, q1, Option.bind_some]
          unfold f140_12
          rw [if_neg nq]
          unfold f140_47 f140_48
          rw [if_neg (show ¬ (0 : Int32) ≤ -1 by decide), f131_dead nq, Option.bind_some]
          unfold f140_69
          rw [if_neg (show ¬ (0 : Int32) ≤ -1 by decide)]
        · rw [hs]
          unfold xExp
          simp only [if_pos c1, hf]
          rfl
      | none =>
        have hx : xExp 1 (t :: r) = some (.inl r) := by
          unfold xExp
          simp only [if_pos c1, hf]
        obtain ⟨T, t', r', e0, e1, e2, e3, e4, e5, e6, e7, e8, e9, e10, e11, e12⟩ := M1
        obtain ⟨rfl, rfl⟩ := List.cons.inj e0
        obtain ⟨n1, n2⟩ := e12 c1
        have hl : m.1 18 - m.1 21 = nn (t.2.2.2.1 - t.2.1) := by rw [e1, e3, nn_sub (by omega)]
        have h134 : f134 m (m.1 21) (m.1 18 - m.1 21) = some (rgI (tname B t)) := by
          rw [hl, e3]
          exact m_reg T.2.1 T.2.2.2 hY T.2.2.1 n2 (by omega)
        have h130 : f130 m = some m := takes_ok ⟨T, t, r, rfl, e1, e2, e3, e4, e5, e6, e7, e8, e9, e10, e11, e12⟩ hf (by omega)
        have h140 : f140 m = f140_48 m (rgI (tname B t)) := by
          unfold f140
          rw [if_pos c20, h130, Option.bind_some]
          unfold f140_12
          rw [if_pos M3, if_pos c20, h134, Option.bind_some]
        rw [hs, hx]
        show ∃ v m' d', _ ∧ _ ∧ _ ∧ (match rg (tname B t) with
          | none => some (.inr (t.2.1, 1))
          | some n => some (.inl (nn n, r))) = some (pr v d')
        cases hr : rg (tname B t) with
        | none =>
          have hI : rgI (tname B t) = -1 := rgI_m1.mpr hr
          obtain ⟨v, m', d', w1, w2, w3, w4, w5⟩ := wrong
          refine ⟨0, m', d', ?_, w2, w3, by rw [← w5]; exact w4⟩
          rw [h140, hI]
          exact fin m' w1
        | some n =>
          have hI : rgI (tname B t) = nn n := by unfold rgI; rw [hr]
          have hn : n < 2147483648 := by have := rg_lt hr; omega
          obtain ⟨m', a1, a2, a3⟩ := MSx_next M0 (by omega) hf
          refine ⟨nn n, m', .inl r, ?_, FR_mono a2 (by decide) (by decide), a3, rfl⟩
          rw [h140, hI]
          unfold f140_48
          rw [if_pos (nn_pos hn), a1, Option.bind_some]
          unfold f140_69
          rw [if_pos (nn_pos hn)]
    · have c20 : ¬ m.1 20 = 1 := by rw [e20, tcode_1]; exact c1
      obtain ⟨v, m', d', w1, w2, w3, w4, w5⟩ := wrong
      refine ⟨0, m', d', ?_, w2, w3, ?_⟩
      · unfold f140
        rw [if_neg c20]
        unfold f140_12
        rw [if_pos M3, if_neg c20]
        exact fin m' w1
      · rw [hs, ← w5, ← w4]
        unfold xExp
        simp only [if_neg c1]
        rfl
theorem m_141 {k : Nat} (hk : k < 256) (hk4 : 4 < k) (hk60 : ¬ k = 60) (hk62 : ¬ k = 62) (hs : sgn k = true) (M : MSx m B z d) : ∃ m' d', f141 m (nn k) = some m' ∧ FR IP AP m m' ∧ MSx m' B z d' ∧ xD (xExp k) d = some d' := by
  cases d with
  | inr p => exact ⟨m, .inr p, f141_dead (MSx_ne M) _, FR_refl _ _ _, M, rfl⟩
  | inl ts =>
    have M0 := M
    obtain ⟨hb, M1, M2, M3, M4⟩ := M
    obtain ⟨t, r, rfl, e20⟩ := MC_20 M1
    have h142 := m_is M1 M3 hk hk4 hs
    unfold f141
    rw [h142]
    show ∃ m' d', _ ∧ _ ∧ _ ∧ xExp k (t :: r) = some d'
    by_cases c : t.1 = k
    · have hf := MC_flaw M1 (by omega) (by omega) (by omega)
      obtain ⟨m', a1, a2, a3⟩ := MSx_next M0 (by omega) hf
      refine ⟨m', .inl r, ?_, FR_mono a2 (by decide) (by decide), a3, ?_⟩
      · rw [if_pos c, if_neg (show ¬ (1 : Int32) = 0 by decide), a1]; rfl
      · unfold xExp
        simp only [if_pos c, hf]
    · obtain ⟨q, q1, q2, q3, q4, q5⟩ := fail_at M1 M3 1
      refine ⟨q, .inr (t.2.1, 1), ?_, FR_mono q2 (by decide) (by decide), MSx_err hb q2 q3 (by decide) (by decide) q4 q5, ?_⟩
      · rw [if_neg c, if_pos rfl, show f131 m 1 (m.1 21) = some q from q1]; rfl
      · unfold xExp
        simp only [if_neg c]
theorem fr_Y {I A : List Nat} {m' : mS} (F : FR I A m m') (hA : ¬ 4 ∈ A) (hY : ∀ i, (m.2 4 i).toInt8.toInt32 = m.2 4 i) : ∀ i, (m'.2 4 i).toInt8.toInt32 = m'.2 4 i := by rw [F.2 4 hA]; exact hY
theorem m_139 (hY : ∀ i, (m.2 4 i).toInt8.toInt32 = m.2 4 i) (M : MSx m B z d) : ∃ v m' d1 d', f139 m = some (v, m') ∧ FR IP AP m m' ∧ MSx m' B z d' ∧ xD (xReg B) d = some (pr v d1) ∧ xD (xExp 44) d1 = some d' := by
  obtain ⟨v, m1, d1, a1, a2, a3, a4⟩ := m_140 hY M
  obtain ⟨m2, d2, b1, b2, b3, b4⟩ := m_141 (k := 44) (by decide) (by decide) (by decide) (by decide) (by decide) a3
  refine ⟨v, m2, d1, d2, ?_, FR_trans a2 b2, b3, a4, b4⟩
  unfold f139
  rw [a1, Option.bind_some, show f141 m1 44 = some m2 from b1]
  rfl
/-- what a pass of the reference keeps -/
def SCm (m : mS) (B : Nat → Nat) (tl z : Nat) (tb : List Sy) (ln : Nat) (base : Int32) (ag : Bool) : Prop := MXT m B tl ∧ SYMm m B tl tb ∧ SDN B tb ∧ z ≤ tl ∧ m.1 15 = nn ln ∧ ln < 100000 ∧ m.1 34 = base ∧ m.1 19 = eb ag
variable {tl ln : Nat} {tb : List Sy} {base here : Int32} {ag : Bool}
theorem SCm_fr {I A : List Nat} {m' : mS} (F : FR I A m m') (hI : ∀ k ∈ [15, 19, 26, 34], ¬ k ∈ I) (hA : ∀ k ∈ [4, 27, 28, 29, 30, 31], ¬ k ∈ A) (h : SCm m B tl z tb ln base ag) : SCm m' B tl z tb ln base ag := by
  obtain ⟨h1, h2, h3, h4, h5, h6, h7, h8⟩ := h
  exact ⟨MXT_fr F (hA 4 (by decide)) h1, SYMm_fr F (hI 26 (by decide)) ⟨hA 27 (by decide), hA 28 (by decide), hA 29 (by decide), hA 30 (by decide), hA 31 (by decide)⟩ h2, h3, h4, by rw [F.1 15 (hI 15 (by decide))]; exact h5, h6, by rw [F.1 34 (hI 34 (by decide))]; exact h7, by rw [F.1 19 (hI 19 (by decide))]; exact h8⟩
theorem f146_dead (h : ¬ m.1 11 = 0) (mode : Int32) : f146 m mode = some (0, mg (mg (mg m 39 0) 40 0) 41 0) := by
  unfold f146
  exact lp_dead (m := mg (mg (mg m 39 0) 40 0) 41 0) (u := 199999) h 0
theorem MSx_dead_fr {m' : mS} {p : Nat × Nat} (F : FR [39, 40, 41] [] m m') (M : MSx m B z (.inr p)) : MSx m' B z (.inr p) := MSx_fr F (by decide) (by decide) M
/-- an expression that is read with f146 in a mode, as xX has it -/
theorem m_146 {E : Ev} {trk : Bool} {mode : Int32} {e : Bool} (N : NVI m E z trk mode) (hM : MOD E mode) (hh : m.1 33 = E.2.2.2.2.1) (hE : E.1 = B) (he : trk = true → m.1 38 = eb (!e)) (M : MSx m B z d) : ∃ v e' m' d', f146 m mode = some (v, m') ∧ FR IP AP m m' ∧ MSx m' B z d' ∧ xD (xX E e) d = some (prx v e' d') ∧ (∀ r, d' = .inl r → trk = true → m'.1 38 = eb (!e')) := by
  subst hE
  cases d with
  | inr p =>
    have F : FR [39, 40, 41] [] m (mg (mg (mg m 39 0) 40 0) 41 0) := FR_g (FR_g (FR_g (FR_refl _ _ _) (by decide) _) (by decide) _) (by decide) _
    exact ⟨0, e, _, .inr p, f146_dead (MSx_ne M) _, FR_mono F (by decide) (by decide), MSx_dead_fr F M, rfl, fun r h => by cases h⟩
  | inl ts =>
    obtain ⟨hb, M1, M2, M3, M4⟩ := M
    have H := m_top N hM hh M1 M3 hb he M4 150
    have K := tt_X (E := E) (e := e) M2
    show ∃ v e' m' d', _ ∧ _ ∧ _ ∧ xX E e ts = some (prx v e' d') ∧ _
    unfold xX at K ⊢
    cases hx : xE E 150 1 0 e ts with
    | none => rw [hx] at K; exact K.elim
    | some y =>
      rw [hx] at H K
      cases y with
      | inl q =>
        obtain ⟨m', a1, a2, a3, a4, a5, a6⟩ := H
        have K : WQ q.2.2 ∧ q.2.2.length < ts.length := K
        exact ⟨q.1, q.2.1, m', .inl q.2.2, a1, FR_mono a2 (by decide) (by decide), ⟨a5, a3, K.1, a4, by omega⟩, rfl, fun r _ h => a6 h⟩
      | inr p =>
        obtain ⟨m', a1, b1, b2, b3, b4, b5, b6, b7⟩ := H
        exact ⟨0, e, m', .inr p, a1, FR_mono b1 (by decide) (by decide), ⟨b7, b2, b3, b4, by rw [b1.1 16 (by decide)]; exact b5, by rw [b1.1 15 (by decide)]; exact b6⟩, rfl, fun r h => by cases h⟩
/-- later(): the value only counts the second time -/
theorem m_145 (S : SCm m B tl z tb ln base ag) (hh : m.1 33 = here) (e : Bool) (M : MSx m B z d) : ∃ v m' d' v' e', f145 m = some (v, m') ∧ FR IP AP m m' ∧ MSx m' B z d' ∧ xD (xX (B, tb, ln, base, here, if ag = true then 2 else 1) e) d = some (prx v' e' d') ∧ (ag = true → v = v') := by
  obtain ⟨S1, S2, S3, S4, S5, S6, S7, S8⟩ := S
  unfold f145 f145_13
  rw [S8]
  cases ag with
  | true =>
    rw [if_neg (show ¬ eb true = 0 by decide)]
    have N := nvi_2 (here := here) (ln := ln) S1 S2 S3 S4
    rw [S7] at N
    obtain ⟨v, e', m', d', a1, a2, a3, a4, a5⟩ := m_146 (e := e) N (Or.inr (Or.inl ⟨rfl, rfl⟩)) hh rfl (fun h => by cases h) M
    exact ⟨v, m', d', v, e', by rw [a1]; rfl, a2, a3, a4, fun _ => rfl⟩
  | false =>
    rw [if_pos (show eb false = 0 from rfl)]
    have N := nvi_1 (base := base) (here := here) (ln := ln) S1 S2 S3 S4
    obtain ⟨v, e', m', d', a1, a2, a3, a4, a5⟩ := m_146 (e := e) N (Or.inr (Or.inr ⟨rfl, Or.inl rfl⟩)) hh rfl (fun h => by cases h) M
    have hR : ∃ v' e', xD (xX (B, tb, ln, base, here, 1) e) d = some (prx v' e' d') := by
      cases d with
      | inr p =>
        have a4 : some (.inr p) = some (prx v e' d') := a4
        cases d' with
        | inl _ => cases a4
        | inr p' => exact ⟨v, e', a4⟩
      | inl ts =>
        have a4 : xX (B, [], ln, base, here, 1) e ts = some (prx v e' d') := a4
        have R := rr_E (ag := False) (E1 := (B, [], ln, base, here, 1)) (E2 := (B, tb, ln, base, here, 1)) rfl rfl (Or.inl rfl) (fun h => h.elim) 150 1 0 e e ts (fun h => h.elim)
        unfold xX at a4
        rw [a4] at R
        show ∃ v' e', xE (B, tb, ln, base, here, 1) 150 1 0 e ts = _
        cases d' with
        | inl r =>
          rcases R with ⟨q2, h1, h2⟩ | ⟨h1, _⟩
          · refine ⟨q2.1, q2.2.1, ?_⟩
            rw [h1]
            have : r = q2.2.2 := h2.1
            rw [this]
            rfl
          · cases h1
        | inr p => exact ⟨v, e', R rfl⟩
    obtain ⟨v', e9, h9⟩ := hR
    exact ⟨v, m', d', v', e9, by rw [a1]; rfl, a2, a3, h9, fun h => by cases h⟩
end MP
section MO9
variable {E : Ev} {d d' d1 : Rx (List Tk)} {ps : List Int32} {o : Op} {v : Int32} {e : Bool}
theorem ops_d (h : xD (xReg E.1) d = some (pr v d')) : xD (xOps E (100 :: ps) o) d = xD (xOps E ps (v, o.2)) d' := by
  cases d with
  | inr p => cases d' with
    | inl _ => cases h
    | inr p' => cases h; rfl
  | inl ts =>
    have h : xReg E.1 ts = some (pr v d') := h
    show xOps E (100 :: ps) o ts = _
    rw [xOps, if_neg (by decide), if_neg (by decide), if_pos rfl, h]
    cases d' <;> rfl
theorem ops_a (h : xD (xReg E.1) d = some (pr v d')) : xD (xOps E (97 :: ps) o) d = xD (xOps E ps (o.1, v, o.2.2)) d' := by
  cases d with
  | inr p => cases d' with
    | inl _ => cases h
    | inr p' => cases h; rfl
  | inl ts =>
    have h : xReg E.1 ts = some (pr v d') := h
    show xOps E (97 :: ps) o ts = _
    rw [xOps, if_pos rfl, h]
    cases d' <;> rfl
theorem ops_b (h : xD (xReg E.1) d = some (pr v d')) : xD (xOps E (98 :: ps) o) d = xD (xOps E ps (o.1, o.2.1, v, o.2.2.2)) d' := by
  cases d with
  | inr p => cases d' with
    | inl _ => cases h
    | inr p' => cases h; rfl
  | inl ts =>
    have h : xReg E.1 ts = some (pr v d') := h
    show xOps E (98 :: ps) o ts = _
    rw [xOps, if_neg (by decide), if_pos rfl, h]
    cases d' <;> rfl
theorem ops_e {e' : Bool} (hal : ∀ ts, d = .inl ts → ¬ alone E.1 ps ts = true) (h : xD (xX E o.2.2.2.2) d = some (prx v e' d')) : xD (xOps E (101 :: ps) o) d = xD (xOps E ps (o.1, o.2.1, o.2.2.1, v, e')) d' := by
  cases d with
  | inr p => cases d' with
    | inl _ => cases h
    | inr p' => cases h; rfl
  | inl ts =>
    have h : xX E o.2.2.2.2 ts = some (prx v e' d') := h
    show xOps E (101 :: ps) o ts = _
    rw [xOps, if_neg (by decide), if_neg (by decide), if_neg (by decide), if_pos rfl, if_neg (hal ts rfl), h]
    cases d' <;> rfl
theorem ops_s {k : Nat} (hk : k = 44 ∨ k = 40 ∨ k = 41) (h : xD (xExp k) d = some d') : xD (xOps E (nn k :: ps) o) d = xD (xOps E ps o) d' := by
  cases d with
  | inr p => cases d' with
    | inl _ => cases h
    | inr p' => cases h; rfl
  | inl ts =>
    have h : xExp k ts = some d' := h
    show xOps E (nn k :: ps) o ts = _
    rcases hk with rfl | rfl | rfl
    · rw [xOps, if_neg (by decide), if_neg (by decide), if_neg (by decide), if_neg (by decide), if_neg (by decide), show (nn 44).toNatClampNeg = 44 from rfl, h]
      cases d' <;> rfl
    · rw [xOps, if_neg (by decide), if_neg (by decide), if_neg (by decide), if_neg (by decide), if_neg (by decide), show (nn 40).toNatClampNeg = 40 from rfl, h]
      cases d' <;> rfl
    · rw [xOps, if_neg (by decide), if_neg (by decide), if_neg (by decide), if_neg (by decide), if_neg (by decide), show (nn 41).toNatClampNeg = 41 from rfl, h]
      cases d' <;> rfl
theorem ops_0 : xD (xOps E [] o) d = some (pr o d) := by cases d <;> rfl
end MO9
