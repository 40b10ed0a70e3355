/-! THE REFERENCE's directives: lists, strings, gaps. -/
def prq (q : Op × List Int32 × Option Sy) (d : Rx (List Tk)) : Rx Rd := match d with
  | .inl r => .inl (q.1, q.2.1, q.2.2, r)
  | .inr p => .inr p
def prl (l : List Int32) (e : Bool) (d : Rx (List Tk)) : Rx (List Int32 × Bool × List Tk) := match d with
  | .inl r => .inl (l, e, r)
  | .inr p => .inr p
def IQ9 : List Nat := 26 :: IQ
def AQ9 : List Nat := 27 :: 28 :: 29 :: 30 :: 31 :: AQ
/-- what a statement does in the reference, as the spec has it -/
def SFIN (m m' : mS) (B : Nat → Nat) (tl z : Nat) (tb : List Sy) (ln : Nat) (base here : Int32) (ag : Bool) (P : Ps) (j : Nat) (ts : List Tk) : Prop := ∃ (q : Op × List Int32 × Option Sy) (d' : Rx (List Tk)) (bs : List Int32), xRead B z ag tb ln base here j ts = some (prq q d') ∧ MSx m' B z d' ∧ FR IQ9 AQ9 m m' ∧ PSm m' ag P bs ∧ ∀ r, d' = .inl r → SYMm m' B tl (tb ++ oSy q.2.2) ∧ SDN B (tb ++ oSy q.2.2) ∧ (ag = false → (GAP j (q.1, q.2.1, q.2.2, r) → bs.length = sSz (sFrm j) (sEnd P) (q.1, q.2.1, q.2.2, r) ∧ m'.1 37 = 0) ∧ (¬ GAP j (q.1, q.2.1, q.2.2, r) → m'.1 37 = 1)) ∧ (ag = true → m'.1 37 = eb (sBad (sFrm j) here q.1) ∧ (sBad (sFrm j) here q.1 = false → bs = sByt (sFrm j) (sCod j) here (sEnd P) (q.1, q.2.1, q.2.2, r)))
theorem uA : ∀ j, j < 83 → 74 ≤ mw j → mw j < 77 → sFrm j = 2 ∧ (sCod j).toNatClampNeg = (if mw j = 74 then 1 else if mw j = 75 then 2 else 4) := by decide +kernel
theorem uB : ∀ j, j < 83 → 77 ≤ mw j → mw j < 79 → sFrm j = 3 ∧ (sCod j).toNatClampNeg = (if mw j = 78 then 1 else 0) := by decide +kernel
theorem uC : ∀ j, j < 83 → 79 ≤ mw j → mw j < 81 → sFrm j = (if mw j = 79 then 4 else 5) ∧ pat (sPat j) = [101] := by decide +kernel
theorem uD : ∀ j, j < 83 → mw j = 81 → sFrm j = 6 := by decide +kernel
theorem uE : ∀ j, j < 83 → mw j = 82 → sFrm j = 0 ∧ pat (sPat j) = [110] := by decide +kernel
theorem uF : ∀ j, j < 83 → 72 ≤ mw j → mw j < 74 → sFrm j = 1 ∧ pat (sPat j) = [] ∧ sCod j = nn (mw j) - 72 := by decide +kernel
section MD
variable {m : mS} {B : Nat → Nat} {tl z ln : Nat} {tb : List Sy} {base here : Int32} {ag : Bool} {P : Ps} {ts : List Tk} {j : Nat} {d : Rx (List Tk)}
theorem xLst_le {E1 : Ev} {w n : Nat} {e1 : Bool} {q1 : List Int32 × Bool × List Tk} (h : xLst E1 w (n + 1) e1 ts = some (.inl q1)) : w ≤ q1.1.length ∧ ∃ qa, xX E1 e1 ts = some (.inl qa) ∧ ∀ t r, qa.2.2 = t :: r → t.1 = 44 → t.2.2.2.2 = none → ∃ q2, xLst E1 w n qa.2.1 r = some (.inl q2) ∧ q1.1.length = w + q2.1.length := by
  rw [xLst] at h
  obtain ⟨qa, x1, h⟩ := xb_some h
  cases hq : qa.2.2 with
  | nil => rw [hq] at h; cases h
  | cons t r =>
    rw [hq] at h
    have h : (if t.1 = 44 then _ else _ : Option (Rx (List Int32 × Bool × List Tk))) = some (.inl q1) := h
    by_cases c : t.1 = 44
    · rw [if_pos c] at h
      obtain ⟨r1, x2, h⟩ := xb_some h
      obtain ⟨l, x3, h⟩ := xb_some h
      have h := Sum.inl.inj (Option.some.inj h)
      subst h
      refine ⟨?_, qa, x1, fun t' r' e1 e2 e3 => ?_⟩
      · show w ≤ (le qa.1 w 0 ++ l.1).length
        rw [List.length_append, le_len]; omega
      · rw [hq] at e1
        obtain ⟨rfl, rfl⟩ := List.cons.inj e1
        have hr : r1 = r := by
          unfold xExp at x2
          simp only [if_pos c, e3] at x2
          exact (Sum.inl.inj (Option.some.inj x2)).symm
        subst hr
        refine ⟨l, x3, ?_⟩
        show (le qa.1 w 0 ++ l.1).length = _
        rw [List.length_append, le_len]
    · rw [if_neg c] at h
      have h := Sum.inl.inj (Option.some.inj h)
      subst h
      refine ⟨by show w ≤ (le qa.1 w 0).length; rw [le_len]; omega, qa, x1, fun t' r' e1 e2 e3 => ?_⟩
      rw [hq] at e1
      obtain ⟨rfl, rfl⟩ := List.cons.inj e1
      exact absurd e2 c
theorem m_lst {w : Nat} (hw : w ≤ 4) {E1 : Ev} (hB : E1.1 = B) (h1 : E1.2.2.2.2.2 = 1) : ∀ (n : Nat) (ts : List Tk) (e e1 : Bool) (m : mS) (bs : List Int32) (u : Nat), ts.length < n → MSx m B z (.inl ts) → SCm m B tl z tb ln base ag → m.1 33 = here → PSm m ag P bs → sEnd P + bs.length + 4 * ts.length ≤ 450000 → ts.length < u → (ag = true → ∃ q1, xLst E1 w n e1 ts = some (.inl q1) ∧ sEnd P + bs.length + q1.1.length ≤ 65420) → ∃ m' d' l e' bs', ((f145 m).bind fun r1 => ((f144 r1.2 r1.1 (nn w)).bind fun r2 => f167_54 u r2 (nn w))) = some m' ∧ FR IP AQ m m' ∧ MSx m' B z d' ∧ xLst (B, tb, ln, base, here, if ag = true then 2 else 1) w n e ts = some (prl l e' d') ∧ PSm m' ag P (bs ++ bs') ∧ (∀ r, d' = .inl r → bs'.length = l.length ∧ (ag = true → bs' = l)) := by
  intro n
  induction n with
  | zero => intro ts e e1 m bs u h; omega
  | succ n ih =>
    intro ts e e1 m bs u hn M S hh PS hb hu hR
    obtain ⟨v, m1, d1, v', e', a1, a2, a3, a4, a5⟩ := m_145 S hh e M
    have a4 : xX (B, tb, ln, base, here, if ag = true then 2 else 1) e ts = some (prx v' e' d1) := a4
    have S1 := SCm_fr a2 (by decide) (by decide) S
    have PS1 := PSm_fr a2 (by decide) (by decide) (by decide) PS
    have hT1 : 1 ≤ ts.length := by
      obtain ⟨t, r, rfl, _⟩ := MC_20 M.2.1
      rw [List.length_cons]; omega
    obtain ⟨m2, b1, b2, b3⟩ := m_pt (ag := ag) S1.2.2.2.2.2.2.2 PS1 v (w := w) hw (by omega) (fun h => by
      obtain ⟨q1, x1, x2⟩ := hR h
      have := (xLst_le x1).1
      omega)
    have M2 := MSx_fr b2 (by decide) (by decide) a3
    have F2 : FR IP AQ m m2 := FR_trans (FR_mono a2 (fun _ h => h) (by decide)) (FR_mono b2 (by decide) (by decide))
    have eu : u = (u - 1) + 1 := by omega
    rw [a1, Option.bind_some, b1, Option.bind_some, xLst, a4, eu]
    cases d1 with
    | inr p =>
      have n11 := MSx_ne M2
      refine ⟨m2, .inr p, [], e', le v w 0, ?_, F2, M2, rfl, b3, fun r h => by cases h⟩
      rw [f167_54]
      unfold f142
      rw [if_neg n11, if_pos rfl]
      rfl
    | inl r =>
      have M2' := M2
      obtain ⟨hb2, N1, N2, N3, N4⟩ := M2
      obtain ⟨t, r2, rfl, _⟩ := MC_20 N1
      have h142 := m_is N1 N3 (k := 44) (by decide) (by decide) (by decide)
      have K := tt_X (E := (B, tb, ln, base, here, if ag = true then 2 else 1)) (e := e) M.2.2.1
      rw [a4] at K
      have K : WQ (t :: r2) ∧ (t :: r2).length < ts.length := K
      rw [List.length_cons] at K
      show ∃ m' d' l e'' bs', _ ∧ _ ∧ _ ∧ (if t.1 = 44 then xb (xExp 44 (t :: r2)) fun r => xb (xLst (B, tb, ln, base, here, if ag = true then 2 else 1) w n e' r) fun l => some (.inl (le v' w 0 ++ l.1, l.2)) else some (.inl (le v' w 0, e', t :: r2))) = _ ∧ _ ∧ _
      rw [f167_54, show f142 m2 44 = _ from h142]
      by_cases c : t.1 = 44
      · rw [if_pos c, if_pos c, if_neg (show ¬ (1 : Int32) = 0 by decide)]
        have hf := MC_flaw N1 (by omega) (by omega) (by omega)
        obtain ⟨m3, g1, g2, g3⟩ := MSx_next M2' (by omega) hf
        have F3 : FR [18, 20, 21, 22, 23, 24] [25, 35, 36] m1 m3 := FR_trans (FR_mono b2 (by decide) (by decide)) (FR_mono g2 (by decide) (by decide))
        have hx : xExp 44 (t :: r2) = some (.inl r2) := by unfold xExp; simp only [if_pos c, hf]
        have hR3 : ∃ eX, ag = true → ∃ q1, xLst E1 w n eX r2 = some (.inl q1) ∧ sEnd P + (bs ++ le v w 0).length + q1.1.length ≤ 65420 := by
          cases hg : ag with
          | false => exact ⟨true, fun h => by cases h⟩
          | true =>
            obtain ⟨q1, x1, x2⟩ := hR hg
            obtain ⟨_, qa, y1, y2⟩ := xLst_le x1
            have R := rr_E (ag := False) (E1 := E1) (E2 := (B, tb, ln, base, here, 2)) hB h1 (Or.inr rfl) (fun h => h.elim) 150 1 0 e1 e ts (fun h => h.elim)
            have y1' := y1
            unfold xX at y1' a4
            rw [y1'] at R
            rw [hg] at a4
            have a4 : xE (B, tb, ln, base, here, 2) 150 1 0 e ts = some (.inl (v', e', t :: r2)) := a4
            rw [a4] at R
            rcases R with ⟨q2, z1, z2⟩ | ⟨_, p, z1, _⟩
            · have z1 := Sum.inl.inj (Option.some.inj z1)
              subst z1
              obtain ⟨q3, z3, z4⟩ := y2 t r2 z2.1 c hf
              refine ⟨qa.2.1, fun _ => ⟨q3, z3, ?_⟩⟩
              rw [List.length_append, le_len]
              omega
            · cases z1
        obtain ⟨eX, hR3⟩ := hR3
        obtain ⟨m', d', l, e'', bs', k1, k2, k3, k4, k5, k6⟩ := ih r2 e' eX m3 (bs ++ le v w 0) (u - 1) (by omega) g3 (SCm_fr F3 (by decide) (by decide) S1) (by rw [F3.1 33 (by decide), a2.1 33 (by decide)]; exact hh) (PSm_fr g2 (by decide) (by decide) (by decide) b3) (by rw [List.length_append, le_len]; omega) (by omega) hR3
        refine ⟨m', d', le v' w 0 ++ l, e'', le v w 0 ++ bs', ?_, FR_trans F2 (FR_trans (FR_mono g2 (by decide) (by decide)) k2), k3, ?_, by rw [← List.append_assoc]; exact k5, fun r hr => ?_⟩
        · rw [g1, Option.bind_some]
          exact k1
        · rw [hx]
          show xb (xLst (B, tb, ln, base, here, if ag = true then 2 else 1) w n e' r2) _ = _
          rw [k4]
          cases d' <;> rfl
        · obtain ⟨x1, x2⟩ := k6 r hr
          refine ⟨by rw [List.length_append, List.length_append, le_len, le_len, x1], fun h => by rw [x2 h, a5 h]⟩
      · rw [if_neg c, if_neg c, if_pos rfl]
        exact ⟨m2, .inl (t :: r2), le v' w 0, e', le v w 0, rfl, F2, M2', rfl, b3, fun r _ => ⟨by rw [le_len, le_len], fun h => by rw [a5 h]⟩⟩
theorem d_list (hj : j < 83) (h1 : 74 ≤ mw j) (h2 : mw j < 77) (C : MCX m B tl z tb ln base here ag P) (h37 : m.1 37 = 0) (hts : ts.length ≤ 70000) (W : ag = true → WIT B z ln tb j ts (sEnd P) 65420) (M : MSx m B z (.inl ts)) : ∃ m', f167 m (nn (mw j)) = some m' ∧ SFIN m m' B tl z tb ln base here ag P j ts := by
  obtain ⟨u1, u2⟩ := uA j hj h1 h2
  have hR : ∃ E1 : Ev, ∃ e1, E1.1 = B ∧ E1.2.2.2.2.2 = 1 ∧ (ag = true → ∃ q1, xLst E1 (sCod j).toNatClampNeg (ts.length + 1) e1 ts = some (.inl q1) ∧ sEnd P + ([] : List Int32).length + q1.1.length ≤ 65420) := by
    cases hg : ag with
    | false => exact ⟨(B, [], 0, 0, 0, 1), true, rfl, rfl, fun h => by cases h⟩
    | true =>
      obtain ⟨tb', here1, q1, w1, w2, w3, w4, _⟩ := W hg
      have hs : sSz (sFrm j) (sEnd P) q1 = q1.2.1.length := by
        unfold sSz
        rw [u1, if_neg (by decide), if_pos (by decide)]
      unfold xRead at w2
      rw [if_pos u1, show eMode false (sFrm j) = 1 by rw [u1]; rfl] at w2
      obtain ⟨x, x1, x2⟩ := xb_some w2
      have x2 := Sum.inl.inj (Option.some.inj x2)
      rw [hs, ← x2] at w4
      exact ⟨(B, tb', ln, 0, here1, 1), true, rfl, rfl, fun _ => ⟨x, x1, w4⟩⟩
  obtain ⟨E1, e1, hB, hm1, hR⟩ := hR
  obtain ⟨m', d', l, e', bs', k1, k2, k3, k4, k5, k6⟩ := m_lst (w := (sCod j).toNatClampNeg) (by rw [u2]; split <;> (try split) <;> omega) hB hm1 (ts.length + 1) ts true e1 m [] mm_U (by omega) M C.1 C.2.1 C.2.2.1 (by have := C.2.2.2; show _ + 0 + _ ≤ _; omega) (by show _ < 200000; omega) hR
  have k7 : m'.1 37 = 0 := by rw [k2.1 37 (by decide)]; exact h37
  refine ⟨m', ?_, ((0, 0, 0, 0, e'), l, none), d', bs', ?_, k3, FR_mono k2 (by decide) (by decide), by rw [List.nil_append] at k5; exact k5, fun r hr => ⟨?_, ?_, fun _ => ⟨fun _ => ⟨?_, k7⟩, fun h => absurd ?_ h⟩, fun h => ⟨by rw [u1, k7]; rfl, fun _ => ?_⟩⟩⟩
  · unfold f167
    rw [show (74 : Int32) = nn 74 from rfl, nn_le2 (by omega) (by omega), if_pos h1, show (77 : Int32) = nn 77 from rfl, nn_le2 (by omega) (by omega), if_neg (by omega), q_eq (x := nn 74) (k := 74) rfl (by omega) (by decide), q_eq (x := 75) (k := 75) rfl (by omega) (by decide)]
    by_cases c1 : mw j = 74
    · rw [if_pos c1] at u2
      rw [u2] at k1
      rw [if_pos c1]; exact k1
    · rw [if_neg c1] at u2 ⊢
      by_cases c2 : mw j = 75
      · rw [if_pos c2] at u2
        rw [u2] at k1
        rw [if_pos c2]; exact k1
      · rw [if_neg c2] at u2
        rw [u2] at k1
        rw [if_neg c2]; exact k1
  · unfold xRead
    rw [if_pos u1, show eMode ag (sFrm j) = (if ag = true then 2 else 1) by rw [u1]; rfl, k4]
    cases d' <;> rfl
  · show SYMm m' B tl (tb ++ [])
    rw [List.append_nil]
    exact SYMm_fr k2 (by decide) (by decide) C.1.2.1
  · show SDN B (tb ++ [])
    rw [List.append_nil]
    exact C.1.2.2.1
  · rw [(k6 r hr).1]
    unfold sSz
    rw [u1, if_neg (by decide), if_pos (by decide)]
  · exact ⟨fun h => absurd h (by rw [u1]; decide), fun h => absurd h (by rw [u1]; decide)⟩
  · rw [(k6 r hr).2 h]
    unfold sByt
    rw [u1, if_pos (by decide)]
end MD
