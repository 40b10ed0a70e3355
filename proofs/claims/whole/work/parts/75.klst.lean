/-! THE CLASS's lists and strings. -/
section KS
variable {s0 : cS} {k L a z tl Ls ln : Nat} {T0 : List Tk} {B : Nat → Nat} {tb : List Sy} {base : Int32} {e ag : Bool}
/-- fields that reading a statement writes -/
def IST : List (Nat × Nat) := (16, 15) :: ICU
theorem JB_cf {I : List (Nat × Nat)} {s s' : cS} {tt dd : Nat} {P : Ps} {bs : List Int32} (hI : OKI I) (h15 : ¬ (16, 15) ∈ I) (F : CF I s s') (J : JB s ag tt dd P bs) : JB s' ag tt dd P bs := by
  obtain ⟨j1, j2, j3⟩ := J
  refine ⟨(F.1 16 15 h15).trans j1, j2, fun h => ?_⟩
  have j3 := j3 h
  have hc : ∀ j, s'.1 (s.2.1 16 1) j = s.1 (s.2.1 16 1) j := by
    intro j
    refine F.1 _ _ (fun hh => ?_)
    have := hI _ hh
    rcases j3.1 with q | q
    · exact this.2.1 q
    · exact this.2.2.1 q
  unfold IMG at j3 ⊢
  unfold cA cl at j3 ⊢
  rw [F.2, hc 1, hc 2, hc 0]
  exact j3
theorem JB_img {s s' : cS} {tt dd : Nat} {P : Ps} {bs : List Int32} {Q : List Nat} (F : WF [(16, 15)] Q s s') (hs : s'.2.1 = s.2.1) : s'.2.1 (s'.2.1 16 1) 4 = s.2.1 (s.2.1 16 1) 4 := by rw [hs]
/-- the room for a list, from its form -/
def LRM (ag : Bool) (E1 : Ev) (w n : Nat) (e1 : Bool) (ts : List Tk) (have_ tot : Nat) : Prop := ag = true → ∃ q, xLst E1 w n e1 ts = some (.inl q) ∧ have_ + q.1.length ≤ tot
theorem k_lst {E E1 : Ev} {tt dd : Nat} {P : Ps} {w : Nat} (hw : w ≤ 4) (hB : E1.1 = E.1) (h1 : E1.2.2.2.2.2 = 1) (hE1 : E.1 = B) (hE2 : E.2.1 = tb) (hE3 : E.2.2.2.1 = base) (hE4 : E.2.2.1 = ln) (hE5 : E.2.2.2.2.2 = if ag = true then 2 else 1) : ∀ (n : Nat) (ts : List Tk) (e e1 : Bool) (s : cS) (bs : List Int32) (turn u : Nat), LI s0 k L a z tl Ls T0 B tb ln base s → s.1 17 0 = nn E.2.2.2.2.2 → s.1 17 1 = E.2.2.2.2.1 → KPS s ag P → JB s ag tt dd P bs → CU s T0 ts e → turn + ts.length ≤ 65500 → bs.length + 4 * ts.length ≤ 300000 → ts.length < u → LRM ag E1 w n e1 ts (sEnd P + bs.length) (if P.2.1 = 0 then tt else dd) → KR (DL s0 k ln a) (fun (q : List Int32 × Bool × List Tk) s' => LI s0 k L a z tl Ls T0 B tb ln base s' ∧ KPS s' ag P ∧ JB s' ag tt dd P (bs ++ q.1) ∧ CU s' T0 q.2.2 q.2.1 ∧ WF IST [s.2.1 (s.2.1 16 1) 4] s s') (xLst E w n e ts) (f67_2 u s (nn w) (nn turn)) := by
  intro n
  induction n with
  | zero => intro ts e e1 s bs turn u _ _ _ _ _ _ _ _ _ _; exact trivial
  | succ n ih =>
    intro ts e e1 s bs turn u hL m0 m1 hK J U ht hb hu hR
    have hT := hL.2.2.2.2.2.2.2.2.2.2.1
    have X : CTX s L a z tl Ls T0 E := by
      have := LI_ctx hL m0 (by rw [hE5]; split <;> decide) m1
      obtain ⟨E1', E2', E3', E4', E5', E6'⟩ := E
      simp only at hE1 hE2 hE3 hE4
      subst hE1 hE2 hE3 hE4
      exact this
    have hlen := CU_len U
    have eu : u = (u - 1) + 1 := by omega
    have hD : ∀ s', CF ICU s s' → DL s0 k ln a s' := fun s' F => LI_DL (LI_cf (by decide) F hL)
    rw [eu, f67_2, show (65536 : Int32) = nn 65536 from rfl, nn_le2 (by omega) (by omega), if_neg (by omega), xLst]
    have hwq : WQ ts := by
      obtain ⟨i, t, r, rfl, g1, _⟩ := U
      refine ⟨(WFT_drop hL.1.2.2.1 g1).1, fun x hx h4 h60 h62 => ?_⟩
      rw [← g1] at hx
      exact (hL.2.2.2.2.2.2.2.2.2.1 x (List.mem_of_mem_drop hx)).2.2.2.2.1 h4 h60 h62
    refine kr_b (P := fun (q : Xv) (b : Int32 × cS) => (b.1 = q.1 ∧ CU b.2 T0 q.2.2 q.2.1 ∧ CF ICU s b.2) ∧ xX E e ts = some (.inl q)) ?_ ?_
    · have K := k_x (DL s0 k ln a) hD X hT U
      cases hx : xX E e ts with
      | none => exact trivial
      | some y =>
        rw [hx] at K
        cases y with
        | inl q =>
          obtain ⟨b, b1, b2⟩ := K
          exact ⟨b, b1, b2, rfl⟩
        | inr p => exact K
    · rintro q b ⟨⟨b1, b2, b3⟩, hx⟩
      have hq := tt_X (E := E) (e := e) hwq
      rw [hx] at hq
      obtain ⟨hq1, hq2⟩ := hq
      obtain ⟨t', r', hts⟩ := WQ_ne hq1
      -- the form, the first time
      have hform : ag = true → ∃ q1, xX E1 e1 ts = some (.inl q1) ∧ q1.2.2 = q.2.2 := by
        intro h9
        obtain ⟨q9, h10, _⟩ := hR h9
        rw [xLst] at h10
        cases hx1 : xX E1 e1 ts with
        | none => rw [hx1] at h10; cases h10
        | some y =>
          rw [hx1] at h10
          cases y with
          | inr p => cases h10
          | inl q1 =>
            refine ⟨q1, rfl, ?_⟩
            have H := rr_E (E1 := E1) (E2 := E) (ag := False) hB h1 (by rw [hE5]; cases ag; exact Or.inl rfl; exact Or.inr rfl) (fun h => h.elim) 150 1 0 e1 e ts (fun h => h.elim)
            unfold xX at hx1 hx
            rw [hx1, hx] at H
            rcases H with ⟨q2, h2, h3⟩ | ⟨_, p, h2, _⟩
            · cases h2; exact h3.1
            · cases h2
      have hL2 := LI_cf (by decide) b3 hL
      have hK2 : KPS b.2 ag P := KPS_of (fun j h5 h8 => b3.1 16 j (by unfold ICU; simp)) hK
      have J2 := JB_cf (s' := b.2) (by decide) (by decide) b3 J
      have hroom : ag = true → sEnd P + bs.length + w ≤ if P.2.1 = 0 then tt else dd := by
        intro h9
        obtain ⟨q9, h10, h11⟩ := hR h9
        obtain ⟨q1, h12, h13⟩ := hform h9
        rw [xLst, h12] at h10
        have h10 : (match q1.2.2 with | [] => none | t :: _ => if t.1 = 44 then xb (xExp 44 q1.2.2) fun r => xb (xLst E1 w n q1.2.1 r) fun l => some (.inl (le q1.1 w 0 ++ l.1, l.2)) else some (.inl (le q1.1 w 0, q1.2.1, q1.2.2)) : Option (Rx (List Int32 × Bool × List Tk))) = some (.inl q9) := h10
        rw [h13, hts] at h10
        simp only at h10
        have : w ≤ q9.1.length := by
          by_cases h44 : t'.1 = 44
          · rw [if_pos h44] at h10
            cases he : xExp 44 (t' :: r') with
            | none => rw [he] at h10; cases h10
            | some y =>
              rw [he] at h10
              cases y with
              | inr p => cases h10
              | inl r9 =>
                have h10 : xb (xLst E1 w n q1.2.1 r9) (fun l => some (.inl (le q1.1 w 0 ++ l.1, l.2))) = some (.inl q9) := h10
                cases hl9 : xLst E1 w n q1.2.1 r9 with
                | none => rw [hl9] at h10; cases h10
                | some y2 =>
                  rw [hl9] at h10
                  cases y2 with
                  | inr p => cases h10
                  | inl l9 =>
                    cases h10
                    show w ≤ (le q1.1 w 0 ++ l9.1).length
                    rw [List.length_append, le_len]; omega
          · rw [if_neg h44] at h10
            cases h10
            show w ≤ (le q1.1 w 0).length
            rw [le_len]; exact Nat.le_refl _
        omega
      have hne : ts.length ≠ 0 := by omega
      obtain ⟨s2, p1, p2, p3⟩ := k_put hK2 J2 b.1 w hw (by omega) hroom
      rw [p1, Option.bind_some, hts]
      have hL3 := LI_wf (by decide) p3 hL2
      have F3 : CF ICU s b.2 := b3
      have hs23 : s2.2.1 = s.2.1 := by rw [p3.2.1, b3.2]
      have hK3 : KPS s2 ag P := KPS_of (fun j h5 h8 => p3.1 16 j (by simp; omega)) hK2
      have U3 : CU s2 T0 q.2.2 q.2.1 := by
        obtain ⟨i, t9, r9, h0, h1, h2, h3, h4, h5, h6⟩ := b2
        exact ⟨i, t9, r9, h0, h1, (p3.1 11 3 (by decide)).trans h2, (p3.1 11 4 (by decide)).trans h3, (p3.1 11 5 (by decide)).trans h4, (p3.1 11 15 (by decide)).trans h5, (p3.1 17 3 (by decide)).trans h6⟩
      have hcell : b.2.2.1 (b.2.2.1 16 1) 4 = s.2.1 (s.2.1 16 1) 4 := by rw [b3.2]
      rw [hcell] at p3
      have W3 : WF IST [s.2.1 (s.2.1 16 1) 4] s s2 := WF_trans (WF_mono (WF_cf b3) (by decide) (fun _ h => h)) (WF_mono p3 (by decide) (fun _ h => h))
      rw [hts] at U3 b2
      have e3 := (CU_hd U3).1
      have T3 := (CU_tok hL3 U3).1
      simp only
      rw [e3, q_eq (x := 44) (k := 44) rfl T3.1 (by decide)]
      rw [b1] at p2
      by_cases h44 : t'.1 = 44
      · rw [if_pos h44, if_pos h44]
        have hf : t'.2.2.2.2 = none := T3.2.2.2.2.1 (by omega) (by omega) (by omega)
        have ex : xExp 44 (t' :: r') = some (.inl r') := by unfold xExp; simp only [h44, if_true, hf]
        have m0' : s2.1 17 0 = nn E.2.2.2.2.2 := by rw [p3.1 17 0 (by decide), b3.1 17 0 (by decide)]; exact m0
        have m1' : s2.1 17 1 = E.2.2.2.2.1 := by rw [p3.1 17 1 (by decide), b3.1 17 1 (by decide)]; exact m1
        have X3 : CTX s2 L a z tl Ls T0 E := by
          have := LI_ctx hL3 m0' (by rw [hE5]; split <;> decide) m1'
          obtain ⟨E1', E2', E3', E4', E5', E6'⟩ := E
          simp only at hE1 hE2 hE3 hE4
          subst hE1 hE2 hE3 hE4
          exact this
        have KE := k_exp (DL s0 k ln a) (fun s' F => LI_DL (LI_cf (by decide) F hL3)) X3 U3 (k := 44) (by decide) (by decide)
        rw [ex] at KE ⊢
        obtain ⟨s3, v1, v2, v3⟩ := KE
        rw [show f45 s2 44 = some (.inl s3) from v1]
        show KR _ _ (xb (xLst E w n q.2.1 r') fun l => some (.inl (le q.1 w 0 ++ l.1, l.2))) (f67_2 (u - 1) s3 (nn w) (nn turn + 1))
        rw [nn_add1]
        have hlr : r'.length + 1 < ts.length := by rw [hts] at hq2; rw [List.length_cons] at hq2; exact hq2
        have hl2 : (bs ++ le q.1 w 0).length = bs.length + w := by rw [List.length_append, le_len]
        have hR2 : ∃ e9, LRM ag E1 w n e9 r' (sEnd P + (bs ++ le q.1 w 0).length) (if P.2.1 = 0 then tt else dd) := by
          by_cases h9 : ag = true
          · obtain ⟨q9, h10, h11⟩ := hR h9
            obtain ⟨q1, h12, h13⟩ := hform h9
            rw [xLst, h12] at h10
            have h10 : (match q1.2.2 with | [] => none | t :: _ => if t.1 = 44 then xb (xExp 44 q1.2.2) fun r => xb (xLst E1 w n q1.2.1 r) fun l => some (.inl (le q1.1 w 0 ++ l.1, l.2)) else some (.inl (le q1.1 w 0, q1.2.1, q1.2.2)) : Option (Rx (List Int32 × Bool × List Tk))) = some (.inl q9) := h10
            rw [h13, hts] at h10
            simp only [if_pos h44, ex] at h10
            have h10 : xb (xLst E1 w n q1.2.1 r') (fun l => some (.inl (le q1.1 w 0 ++ l.1, l.2))) = some (.inl q9) := h10
            refine ⟨q1.2.1, fun _ => ?_⟩
            cases hl9 : xLst E1 w n q1.2.1 r' with
            | none => rw [hl9] at h10; cases h10
            | some y2 =>
              rw [hl9] at h10
              cases y2 with
              | inr p => cases h10
              | inl l9 =>
                cases h10
                refine ⟨l9, rfl, ?_⟩
                have h11 : sEnd P + bs.length + (le q1.1 w 0 ++ l9.1).length ≤ _ := h11
                rw [List.length_append, le_len] at h11
                rw [hl2]; omega
          · exact ⟨true, fun h => absurd h h9⟩
        obtain ⟨e9, hR2⟩ := hR2
        have hcell3 : s3.2.1 (s3.2.1 16 1) 4 = s.2.1 (s.2.1 16 1) 4 := by rw [v3.2, hs23]
        have IH := ih r' q.2.1 e9 s3 (bs ++ le q.1 w 0) (turn + 1) (u - 1) (LI_cf (by decide) v3 hL3) (by rw [v3.1 17 0 (by decide)]; exact m0') (by rw [v3.1 17 1 (by decide)]; exact m1') (KPS_of (fun j h5 h8 => v3.1 16 j (by unfold ICU; simp)) hK3) (JB_cf (by decide) (by decide) v3 p2) v2 (by omega) (by rw [hl2]; omega) (by omega) hR2
        rw [hcell3] at IH
        cases hx2 : xLst E w n q.2.1 r' with
        | none => exact trivial
        | some y =>
          rw [hx2] at IH
          cases y with
          | inr p => exact IH
          | inl l =>
            obtain ⟨s4, d1, d2, d3, d4, d5, d6⟩ := IH
            refine ⟨s4, d1, d2, d3, ?_, d5, WF_trans W3 (WF_trans (WF_mono (WF_cf v3) (by decide) (fun _ h => h)) d6)⟩
            show JB s4 ag tt dd P (bs ++ (le q.1 w 0 ++ l.1))
            rw [← List.append_assoc]
            exact d4
      · rw [if_neg h44, if_neg h44]
        unfold f67_34
        exact ⟨s2, rfl, hL3, hK3, p2, U3, W3⟩
end KS
