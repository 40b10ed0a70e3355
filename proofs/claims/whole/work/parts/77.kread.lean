/-! THE CLASS reads a statement. -/
section KD
variable {s0 : cS} {k L a z tl Ls ln : Nat} {T0 : List Tk} {B : Nat → Nat} {tb : List Sy} {base : Int32} {e ag : Bool}
theorem cE_j {j : Nat} (hj : j < 83) : cE (400 + j) := ⟨by omega, by omega⟩
theorem isR_nil : isR B [] = false := rfl
theorem k_pat {s : cS} {ts : List Tk} {j : Nat} {E : Ev} (hE : E.1 = B) (hj : j < 83) (hL : LI s0 k L a z tl Ls T0 B tb ln base s) (X : CTX s L a z tl Ls T0 E) (O : OPS s op0) (U : CU s T0 ts e) : ∃ s', f87 s (400 + j) = some ((xPat B j ts).1, s') ∧ CF [(16, 11)] s s' ∧ OPS s' ((xPat B j ts).2, op0.2) := by
  have hT := hL.2.2.2.2.2.2.2.2.2.2.1
  have U0 := U
  obtain ⟨i, t, r, rfl, g1, g2, g3, g4, g5, g6⟩ := U0
  have hlen := drop_len g1
  have e8 : f88 s 0 = _ := k_ahead (k := 0) X g5 (by omega) (by decide) g1
  rw [hE] at e8
  have e44 := k_behind hL U
  have h54 : f87_54 s (400 + j) = some (sPat j, s) := by unfold f87_54; rw [if_pos (cE_j hj), en_p]
  have same : ∃ s', some (sPat j, s) = some (sPat j, s') ∧ CF [(16, 11)] s s' ∧ OPS s' (0, op0.2) := ⟨s, rfl, CF_refl _ _, O⟩
  have short : ∀ n, ∃ s', (some (n, cg s 16 11 1) : Option (Nat × cS)) = some (n, s') ∧ CF [(16, 11)] s s' ∧ OPS s' (1, op0.2) := fun n => ⟨_, rfl, CF_g (CF_refl _ _) (by decide) _, rfl, O.2.1, O.2.2.1, O.2.2.2⟩
  unfold f87
  rw [if_pos (cE_j hj)]
  by_cases c1 : j = 39
  · rw [if_pos (show 400 + j = 439 by omega), e8, Option.bind_some]
    cases hr : isR B (t :: r) with
    | false =>
      have hx : xPat B j (t :: r) = (6, 1) := by unfold xPat; rw [if_pos ⟨c1, hr⟩]
      rw [if_neg (show ¬ (false = true) by decide), if_pos rfl, hx]
      exact short 6
    | true =>
      have hx : xPat B j (t :: r) = (sPat j, 0) := by
        unfold xPat
        rw [hr, if_neg (fun h => by cases h.2), if_neg (fun h => absurd h.1 (by omega))]
      have h9 : ¬ rgI (tname B t) = -1 := by
        rw [rgI_m1]
        unfold isR at hr
        simp at hr
        exact hr.2
      rw [if_pos rfl, if_neg h9, hx]
      unfold f87_27
      rw [if_pos (cE_j hj), if_neg (show ¬ 400 + j = 440 by omega), h54]
      dsimp only
      exact same
  · rw [if_neg (show ¬ 400 + j = 439 by omega)]
    unfold f87_27
    rw [if_pos (cE_j hj)]
    by_cases c2 : j = 40
    · rw [if_pos (show 400 + j = 440 by omega), e44, Option.bind_some]
      cases r with
      | nil =>
        have hx : xPat B j [t] = (7, 1) := by
          unfold xPat
          rw [if_neg (fun h => c1 h.1), if_pos ⟨c2, rfl⟩]
        rw [if_neg (show ¬ nn (kb []) = 44 by decide), hx]
        exact short 7
      | cons t2 r2 =>
        have T2 : t2.1 < 256 := by
          have : t2 ∈ T0.drop i := by rw [g1]; simp
          exact (hL.2.2.2.2.2.2.2.2.2.1 t2 (List.mem_of_mem_drop this)).1
        rw [show nn (kb (t2 :: r2)) = nn t2.1 from rfl, q_eq (x := 44) (k := 44) rfl T2 (by decide)]
        by_cases c3 : t2.1 = 44
        · have hx : xPat B j (t :: t2 :: r2) = (sPat j, 0) := by
            unfold xPat
            rw [if_neg (fun h => c1 h.1), if_neg (fun h => by have := h.2; simp [c3] at this)]
          rw [if_pos c3, hx, h54]
          dsimp only
          exact same
        · have hx : xPat B j (t :: t2 :: r2) = (7, 1) := by
            unfold xPat
            rw [if_neg (fun h => c1 h.1), if_pos ⟨c2, by simp [c3]⟩]
          rw [if_neg c3, hx]
          exact short 7
    · have hx : xPat B j (t :: r) = (sPat j, 0) := by
        unfold xPat
        rw [if_neg (fun h => c1 h.1), if_neg (fun h => c2 h.1)]
      rw [if_neg (show ¬ 400 + j = 440 by omega), hx, h54]
      dsimp only
      exact same
/-- fields that are set before a statement is read -/
def ICL : List (Nat × Nat) := [(16, 11), (16, 12), (16, 13), (16, 14), (16, 15), (17, 3), (17, 1), (17, 0)]
theorem k_clr {s : cS} {P : Ps} {f : Int32} (hK : KPS s ag P) (hb : s.1 17 2 = base) : CF ICL s (f66 s f) ∧ OPS (f66 s f) op0 ∧ (f66 s f).1 16 15 = 0 ∧ (f66 s f).1 17 3 = 1 ∧ (f66 s f).1 17 1 = sHere P base ∧ (f66 s f).1 17 0 = nn (eMode ag f) := by
  have hs : ∀ s1 : cS, CF ICL s s1 → f61 s1 = nn (sEnd P) := fun s1 F => f61_at (KPS_of (fun j h5 h8 => F.1 16 j (by unfold ICL; simp; omega)) hK)
  have F0 : CF ICL s (cg (cg (cg (cg (cg (cg s 16 11 0) 16 12 0) 16 13 0) 16 14 0) 16 15 0) 17 3 1) := CF_g (CF_g (CF_g (CF_g (CF_g (CF_g (CF_refl _ _) (by decide) _) (by decide) _) (by decide) _) (by decide) _) (by decide) _) (by decide) _
  have k5 : (cg (cg (cg (cg (cg (cg s 16 11 0) 16 12 0) 16 13 0) 16 14 0) 16 15 0) 17 3 1).1 16 5 = eb ag := hK.1
  have h60 : ∀ y0 y1 : Int32, CF ICL s (f66_60 (cg (cg (cg (cg (cg (cg s 16 11 0) 16 12 0) 16 13 0) 16 14 0) 16 15 0) 17 3 1) f y0 y1) ∧ OPS (f66_60 (cg (cg (cg (cg (cg (cg s 16 11 0) 16 12 0) 16 13 0) 16 14 0) 16 15 0) 17 3 1) f y0 y1) op0 ∧ (f66_60 (cg (cg (cg (cg (cg (cg s 16 11 0) 16 12 0) 16 13 0) 16 14 0) 16 15 0) 17 3 1) f y0 y1).1 16 15 = 0 ∧ (f66_60 (cg (cg (cg (cg (cg (cg s 16 11 0) 16 12 0) 16 13 0) 16 14 0) 16 15 0) 17 3 1) f y0 y1).1 17 3 = 1 ∧ (f66_60 (cg (cg (cg (cg (cg (cg s 16 11 0) 16 12 0) 16 13 0) 16 14 0) 16 15 0) 17 3 1) f y0 y1).1 17 1 = y1 + y0 ∧ (f66_60 (cg (cg (cg (cg (cg (cg s 16 11 0) 16 12 0) 16 13 0) 16 14 0) 16 15 0) 17 3 1) f y0 y1).1 17 0 = nn (eMode ag f) := by
    intro y0 y1
    unfold f66_60 f66_80 f66_107 eMode
    rw [k5]
    by_cases c4 : f = 4
    · rw [if_pos c4, if_pos (Or.inl c4)]
      exact ⟨CF_g (CF_g F0 (by decide) _) (by decide) _, ⟨rfl, rfl, rfl, rfl⟩, rfl, rfl, rfl, rfl⟩
    rw [if_neg c4]
    by_cases c5 : f = 5
    · rw [if_pos c5, if_pos (Or.inr (Or.inl c5))]
      exact ⟨CF_g (CF_g F0 (by decide) _) (by decide) _, ⟨rfl, rfl, rfl, rfl⟩, rfl, rfl, rfl, rfl⟩
    rw [if_neg c5]
    by_cases c6 : f = 6
    · rw [if_pos c6, if_pos (Or.inr (Or.inr c6))]
      exact ⟨CF_g (CF_g F0 (by decide) _) (by decide) _, ⟨rfl, rfl, rfl, rfl⟩, rfl, rfl, rfl, rfl⟩
    have hne : ¬ (f = 4 ∨ f = 5 ∨ f = 6) := by
      intro h
      rcases h with h | h | h
      · exact c4 h
      · exact c5 h
      · exact c6 h
    rw [if_neg c6, if_neg hne]
    cases ag with
    | false =>
      rw [if_pos (show eb false = 0 by decide), if_neg (show ¬ (false = true) by decide)]
      exact ⟨CF_g (CF_g F0 (by decide) _) (by decide) _, ⟨rfl, rfl, rfl, rfl⟩, rfl, rfl, rfl, rfl⟩
    | true =>
      rw [if_neg (show ¬ eb true = 0 by decide), if_pos rfl]
      exact ⟨CF_g (CF_g F0 (by decide) _) (by decide) _, ⟨rfl, rfl, rfl, rfl⟩, rfl, rfl, rfl, rfl⟩
  have h6 := hK.2.2.1
  have hp := hK.2.1
  unfold f66 sHere
  rw [h6, q_eq (x := 1) (k := 1) rfl (by omega) (by decide), hs _ F0]
  by_cases c : P.2.1 = 1
  · rw [if_pos c, if_pos c, ← hb]; exact h60 _ _
  · rw [if_neg c, if_neg c]; exact h60 _ _
theorem pat_ok : ∀ j, j < 83 → (∀ p ∈ pat (sPat j), p = 97 ∨ p = 98 ∨ p = 100 ∨ p = 101 ∨ p = 110 ∨ p = 40 ∨ p = 41 ∨ p = 44) ∧ sPat j < 106 ∧ (pat (sPat j)).length < 90 ∧ (sCod j).toNatClampNeg < 2147483648 ∧ (sFrm j = 2 → (sCod j).toNatClampNeg ≤ 4 ∧ nn (sCod j).toNatClampNeg = sCod j) ∧ (sFrm j = 3 → (sCod j).toNatClampNeg ≤ 4 ∧ nn (sCod j).toNatClampNeg = sCod j) := by decide +kernel
theorem pat_67 : (∀ p ∈ pat 6, p = 97 ∨ p = 98 ∨ p = 100 ∨ p = 101 ∨ p = 110 ∨ p = 40 ∨ p = 41 ∨ p = 44) ∧ (∀ p ∈ pat 7, p = 97 ∨ p = 98 ∨ p = 100 ∨ p = 101 ∨ p = 110 ∨ p = 40 ∨ p = 41 ∨ p = 44) ∧ (pat 6).length < 90 ∧ (pat 7).length < 90 := by decide +kernel
theorem xPat_or (B : Nat → Nat) (j : Nat) (ts : List Tk) : xPat B j ts = (6, 1) ∨ xPat B j ts = (7, 1) ∨ xPat B j ts = (sPat j, 0) := by
  unfold xPat
  split
  · exact Or.inl rfl
  · split <;> (split <;> simp)
theorem xPat_ok {j : Nat} (hj : j < 83) (ts : List Tk) : (∀ p ∈ pat (xPat B j ts).1, p = 97 ∨ p = 98 ∨ p = 100 ∨ p = 101 ∨ p = 110 ∨ p = 40 ∨ p = 41 ∨ p = 44) ∧ (xPat B j ts).1 < 106 ∧ (pat (xPat B j ts).1).length < 90 := by
  rcases xPat_or B j ts with h | h | h
  · rw [h]; exact ⟨pat_67.1, by decide, pat_67.2.2.1⟩
  · rw [h]; exact ⟨pat_67.2.1, by decide, pat_67.2.2.2⟩
  · rw [h]; dsimp only; exact ⟨(pat_ok j hj).1, (pat_ok j hj).2.1, (pat_ok j hj).2.2.1⟩
/-- the room that the bytes of a list or a string need, from the form -/
def RRM (B : Nat → Nat) (z : Nat) (ag : Bool) (E1 : Ev) (j : Nat) (ts : List Tk) (have_ tot : Nat) : Prop := ag = true → (sFrm j = 2 → ∃ e1 q, xLst E1 (sCod j).toNatClampNeg (ts.length + 1) e1 ts = some (.inl q) ∧ have_ + q.1.length ≤ tot) ∧ (sFrm j = 3 → ∀ t r, ts = t :: r → t.1 = 3 → have_ + (strL B z (z - t.2.1) (t.2.1 + 1)).length + (sCod j).toNatClampNeg ≤ tot)
/-- the class's reading, by the form -/
def kRead (s : cS) (j : Nat) : Option (cS ⊕ cS) := if sFrm j = 2 then f67 s (sCod j) else if sFrm j = 3 then f85 s (sCod j) else if sFrm j = 6 then f86 s else (f87 s (400 + j)).bind fun r4 => f89 r4.2 r4.1
theorem k_read {tt dd : Nat} {P : Ps} {s : cS} {ts : List Tk} {j : Nat} {here : Int32} {E1 : Ev} (hj : j < 83) (hS : STK B z T0) (hB : E1.1 = B) (h1 : E1.2.2.2.2.2 = 1) (hL : LI s0 k L a z tl Ls T0 B tb ln base s) (m0 : s.1 17 0 = nn (eMode ag (sFrm j))) (m1 : s.1 17 1 = here) (hK : KPS s ag P) (J : JB s ag tt dd P []) (O : OPS s op0) (U : CU s T0 ts true) (hmax : tb.length < 17000) (hR : RRM B z ag E1 j ts (sEnd P) (if P.2.1 = 0 then tt else dd)) : KR (DL s0 k ln a) (RDK s0 k L a z tl T0 B tb ln base ag tt dd P s) (xRead B z ag tb ln base here j ts) (kRead s j) := by
  have hT := hL.2.2.2.2.2.2.2.2.2.2.1
  have hlen := CU_len U
  have hm2 : eMode ag (sFrm j) ≤ 2 := by
    unfold eMode
    split
    · decide
    · split <;> decide
  have hX := LI_ctx hL m0 hm2 m1
  have o5 := (pat_ok j hj).2.2.2.2.1
  have o6 := (pat_ok j hj).2.2.2.2.2
  generalize hx9 : xRead B z ag tb ln base here j ts = x9
  generalize hy9 : kRead s j = y9
  unfold xRead at hx9
  unfold kRead at hy9
  generalize hmd : eMode ag (sFrm j) = md at m0 hm2 hX hx9
  by_cases c2 : sFrm j = 2
  · rw [if_pos c2] at hx9 hy9
    subst hx9 hy9
    have e5 : md = if ag = true then 2 else 1 := by
      rw [← hmd, c2]
      unfold eMode
      rw [if_neg (by decide)]
    have hR2 : ∃ e1, LRM ag E1 (sCod j).toNatClampNeg (ts.length + 1) e1 ts (sEnd P + ([] : List Int32).length) (if P.2.1 = 0 then tt else dd) := by
      by_cases h9 : ag = true
      · obtain ⟨e1, q, r1, r2⟩ := (hR h9).1 c2
        exact ⟨e1, fun _ => ⟨q, r1, r2⟩⟩
      · exact ⟨true, fun h => absurd h h9⟩
    obtain ⟨e1, hR2⟩ := hR2
    generalize hw9 : (sCod j).toNatClampNeg = w9 at o5 hR2 ⊢
    have H := k_lst (w := w9) (s0 := s0) (k := k) (a := a) (z := z) (tl := tl) (Ls := Ls) (L := L) (ln := ln) (T0 := T0) (B := B) (tb := tb) (base := base) (ag := ag) (E := (B, tb, ln, base, here, md)) (E1 := E1) (tt := tt) (dd := dd) (P := P) (o5 c2).1 hB h1 rfl rfl rfl rfl e5 (ts.length + 1) ts true e1 s [] 0 mm_U hL m0 m1 hK J U (by omega) (by simp; omega) (by show ts.length < 200000; omega) hR2
    rw [(o5 c2).2] at H
    unfold f67
    cases hx : xLst (B, tb, ln, base, here, md) w9 (ts.length + 1) true ts with
    | none => exact trivial
    | some y =>
      rw [hx] at H
      cases y with
      | inr p => exact H
      | inl q =>
        obtain ⟨s', v1, v2, v3, v4, v5, v6⟩ := H
        refine ⟨s', v1, ⟨Ls, ?_⟩, v3, v6.1 16 9 (by decide), v6.1 16 10 (by decide), v6.1 17 1 (by decide), ⟨(v6.1 16 11 (by decide)).trans O.1, (v6.1 16 12 (by decide)).trans O.2.1, (v6.1 16 13 (by decide)).trans O.2.2.1, (v6.1 16 14 (by decide)).trans O.2.2.2⟩, ?_, v5⟩
        · show LI s0 k L a z tl Ls T0 B (tb ++ []) ln base s'
          rw [List.append_nil]; exact v2
        · rw [List.nil_append] at v4; exact v4
  rw [if_neg c2] at hx9 hy9
  by_cases c3 : sFrm j = 3
  · rw [if_pos c3] at hx9 hy9
    subst hx9 hy9
    have H := k_str (s := s) (n := (sCod j).toNatClampNeg) (o6 c3).1 hS hL hX hK J O U (fun t r e0 e3 h9 => (hR h9).2 c3 t r e0 e3)
    rw [(o6 c3).2] at H
    exact H
  rw [if_neg c3] at hx9 hy9
  by_cases c6 : sFrm j = 6
  · rw [if_pos c6] at hx9 hy9
    subst hx9 hy9
    have e5 : md = 0 := by
      rw [← hmd, c6]
      unfold eMode
      rw [if_pos (by decide)]
    rw [e5] at m0 ⊢
    exact k_equ hL m0 m1 hK J O U hmax
  rw [if_neg c6] at hx9 hy9
  subst hx9 hy9
  obtain ⟨s1, p1, p2, p3⟩ := k_pat (E := (B, tb, ln, base, here, md)) rfl hj hL hX O U
  rw [p1, Option.bind_some]
  obtain ⟨q1, q2, q3⟩ := xPat_ok (B := B) hj ts
  have hL1 := LI_cf (by decide) p2 hL
  unfold f89
  have H := k_ops (L := L) (a := a) (z := z) (tl := tl) (Ls := Ls) (T0 := T0) (E := (B, tb, ln, base, here, md)) (DL s0 k ln a) q2 q1 (pat (xPat B j ts).1) 0 mm_U s1 ((xPat B j ts).2, op0.2) ts rfl (by show _ < 200000; omega) (by omega) (fun s' F => LI_DL (LI_cf (by decide) F hL1)) (CTX_cf p2 (by decide) hX) hT (CU_cf p2 (by decide) U) p3
  cases hx : xOps (B, tb, ln, base, here, md) (pat (xPat B j ts).1) ((xPat B j ts).2, op0.2) ts with
  | none => exact trivial
  | some y =>
    rw [hx] at H
    cases y with
    | inr p => exact H
    | inl q =>
      obtain ⟨s', v1, v2, v3, v4⟩ := H
      have F9 : CF IOP s s' := CF_trans (CF_mono p2 (by decide)) v4
      refine ⟨s', v1, ⟨Ls, ?_⟩, KPS_of (fun j h5 h8 => F9.1 16 j (by unfold IOP ICU; simp; omega)) hK, F9.1 16 9 (by decide), F9.1 16 10 (by decide), F9.1 17 1 (by decide), v2, JB_cf (by decide) (by decide) F9 J, v3⟩
      show LI s0 k L a z tl Ls T0 B (tb ++ []) ln base s'
      rw [List.append_nil]; exact LI_cf (by decide) F9 hL
end KD
