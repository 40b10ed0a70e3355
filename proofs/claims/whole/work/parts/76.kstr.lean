/-! THE CLASS's strings, constants, patterns; before a statement is read. -/
section KT
variable {s0 : cS} {k L a z tl Ls ln : Nat} {T0 : List Tk} {B : Nat → Nat} {tb : List Sy} {base : Int32} {e ag : Bool}
theorem tb_l {α β : Type} (q : α) (g : α → Option (β ⊕ cS)) : tq (some (.inl q)) g = g q := rfl
theorem tb_r {α β : Type} (q : cS) (g : α → Option (β ⊕ cS)) : tq (some (.inr q)) g = some (.inr q) := rfl
theorem le1 : ∀ b, b < 128 → le (nn b) 1 0 = [nn b] := by
  decide +kernel
theorem le0 : le 0 1 0 = [0] := by decide
/-- what a string token holds -/
def STK (B : Nat → Nat) (z : Nat) (T0 : List Tk) : Prop := ∀ t ∈ T0, t.1 = 3 → t.2.2.1 = nn (strL B z (z - t.2.1) (t.2.1 + 1)).length
theorem strL_len (B : Nat → Nat) (z : Nat) : ∀ u p, (strL B z u p).length ≤ u := by
  intro u
  induction u with
  | zero => intro p; exact Nat.le_refl _
  | succ u ih =>
    intro p
    rw [strL]
    split
    · exact Nat.zero_le _
    · rw [List.length_cons]; have := ih (p + wid B z p); omega
/-- what putting keeps -/
def PT (s0 : cS) (k L a z tl Ls : Nat) (T0 : List Tk) (B : Nat → Nat) (tb : List Sy) (ln : Nat) (base : Int32) (ag : Bool) (tt dd : Nat) (P : Ps) (s : cS) (bs : List Int32) (s' : cS) : Prop := LI s0 k L a z tl Ls T0 B tb ln base s' ∧ KPS s' ag P ∧ JB s' ag tt dd P bs ∧ WF [(16, 15)] [s.2.1 (s.2.1 16 1) 4] s s'
theorem pt_put {tt dd : Nat} {P : Ps} {s s1 : cS} {bs : List Int32} (h : PT s0 k L a z tl Ls T0 B tb ln base ag tt dd P s bs s1) (v : Int32) {w : Nat} (hw : w ≤ 4) (hb : bs.length + w ≤ 300000) (hroom : ag = true → sEnd P + bs.length + w ≤ if P.2.1 = 0 then tt else dd) : ∃ s2, f82 s1 v (nn w) = some s2 ∧ PT s0 k L a z tl Ls T0 B tb ln base ag tt dd P s (bs ++ le v w 0) s2 := by
  obtain ⟨h1, h2, h3, h4⟩ := h
  obtain ⟨s2, p1, p2, p3⟩ := k_put h2 h3 v w hw hb hroom
  have hL3 := LI_wf (by decide) p3 h1
  have hcell : s1.2.1 (s1.2.1 16 1) 4 = s.2.1 (s.2.1 16 1) 4 := by rw [h4.2.1]
  rw [hcell] at p3
  exact ⟨s2, p1, hL3, KPS_of (fun j h5 h8 => p3.1 16 j (by simp; omega)) h2, p2, WF_trans h4 p3⟩
theorem k_zero {tt dd : Nat} {P : Ps} {s : cS} {n : Nat} (hn : n ≤ 4) : ∀ (d i u : Nat) (s1 : cS) (bs : List Int32), n - i = d → i ≤ n → d < u → PT s0 k L a z tl Ls T0 B tb ln base ag tt dd P s bs s1 → bs.length + d ≤ 300000 → (ag = true → sEnd P + bs.length + d ≤ if P.2.1 = 0 then tt else dd) → ∃ s2, f85_70 u s1 (nn n) (nn i) = some (.inl s2) ∧ PT s0 k L a z tl Ls T0 B tb ln base ag tt dd P s (bs ++ List.replicate d 0) s2 := by
  intro d
  induction d with
  | zero =>
    intro i u s1 bs hd hi hu h hb hr
    have eu : u = (u - 1) + 1 := by omega
    rw [eu, f85_70, nn_le2 (by omega) (by omega), if_pos (by omega)]
    refine ⟨s1, rfl, ?_⟩
    rw [List.replicate_zero, List.append_nil]; exact h
  | succ d ih =>
    intro i u s1 bs hd hi hu h hb hr
    have eu : u = (u - 1) + 1 := by omega
    obtain ⟨s2, p1, p2⟩ := pt_put h 0 (w := 1) (by decide) (by omega) (fun h9 => by have := hr h9; omega)
    rw [eu, f85_70, nn_le2 (by omega) (by omega), if_neg (by omega), show f82 s1 0 1 = some s2 from p1, Option.bind_some, nn_add1]
    rw [le0] at p2
    obtain ⟨s3, q1, q2⟩ := ih (i + 1) (u - 1) s2 (bs ++ [0]) (by omega) (by omega) (by omega) p2 (by rw [List.length_append, List.length_singleton]; omega) (fun h9 => by have := hr h9; rw [List.length_append, List.length_singleton]; omega)
    refine ⟨s3, q1, ?_⟩
    rw [List.append_assoc] at q2
    exact q2
theorem k_strF {tt dd : Nat} {P : Ps} {s : cS} {n cnt : Nat} (hn : n ≤ 4) (hc : cnt ≤ 70000) : ∀ (l : List Nat) (v p i u : Nat) (s1 : cS) (bs : List Int32), strL B z v p = l → i + l.length = cnt → a ≤ p → p ≤ z + 2 → l.length < u → PT s0 k L a z tl Ls T0 B tb ln base ag tt dd P s bs s1 → bs.length + l.length + n ≤ 300000 → (ag = true → sEnd P + bs.length + l.length + n ≤ if P.2.1 = 0 then tt else dd) → ∃ s2, f85_29 u s1 (nn n) (nn p) (nn cnt) (nn i) = some (.inl s2) ∧ PT s0 k L a z tl Ls T0 B tb ln base ag tt dd P s (bs ++ (l.map nn ++ List.replicate n 0)) s2 := by
  intro l
  induction l with
  | nil =>
    intro v p i u s1 bs hl hi ha hp hu h hb hr
    rw [List.length_nil] at hi hb hr hu
    have eu : u = (u - 1) + 1 := by omega
    rw [eu, f85_29, nn_le2 (by omega) (by omega), if_pos (by omega)]
    unfold f85_67
    exact k_zero hn n 0 mm_U s1 bs (by omega) (by omega) (by show n < 200000; omega) h (by omega) (fun h9 => by have := hr h9; omega)
  | cons b l ih =>
    intro v p i u s1 bs hl hi ha hp hu h hb hr
    rw [List.length_cons] at hi hb hr hu
    have eu : u = (u - 1) + 1 := by omega
    have T := h.1.2.1
    have hz := T.2.2.2.1
    have hz2 := T.2.2.2.2.1
    cases v with
    | zero => cases hl
    | succ v =>
      rw [strL] at hl
      by_cases hm : mean B z 34 p = 999
      · rw [if_pos hm] at hl; cases hl
      · rw [if_neg hm] at hl
        obtain ⟨hb1, hl1⟩ := List.cons.inj hl
        have hb8 : b < 128 := by
          have := mean_or B z 34 p
          rw [hb1] at this hm
          omega
        have hpz : p < z := by
          by_cases hh : p < z
          · exact hh
          · exact absurd (mean_out (by omega)) hm
        have hw9 := wid_le B z p
        obtain ⟨s2, p1, p2⟩ := pt_put h (nn b) (w := 1) (by decide) (by omega) (fun h9 => by have := hr h9; omega)
        have e36 : f36 s1 (nn p) 34 = some (nn b) := by
          have := c_mean T ha (by omega) (g := 34) (by decide) (by decide)
          rw [if_neg hm, hb1] at this
          exact this
        have e38 := c_wid p2.1.2.1 ha (show p < 900000 by omega)
        rw [eu, f85_29, nn_le2 (by omega) (by omega), if_neg (by omega), e36, Option.bind_some, show f82 s1 (nn b) 1 = some s2 from p1, Option.bind_some, e38, Option.bind_some, nn_add, nn_add1]
        rw [le1 b hb8] at p2
        obtain ⟨s3, q1, q2⟩ := ih v (p + wid B z p) (i + 1) (u - 1) s2 (bs ++ [nn b]) hl1 (by omega) (by omega) (by omega) (by omega) p2 (by rw [List.length_append, List.length_singleton]; omega) (fun h9 => by have := hr h9; rw [List.length_append, List.length_singleton]; omega)
        refine ⟨s3, q1, ?_⟩
        rw [List.append_assoc] at q2
        exact q2
/-- behind reading a statement -/
def RDK (s0 : cS) (k L a z tl : Nat) (T0 : List Tk) (B : Nat → Nat) (tb : List Sy) (ln : Nat) (base : Int32) (ag : Bool) (tt dd : Nat) (P : Ps) (s : cS) (q : Rd) (s' : cS) : Prop := (∃ Ls', LI s0 k L a z tl Ls' T0 B (tb ++ oSy q.2.2.1) ln base s') ∧ KPS s' ag P ∧ s'.1 16 9 = s.1 16 9 ∧ s'.1 16 10 = s.1 16 10 ∧ s'.1 17 1 = s.1 17 1 ∧ OPS s' q.1 ∧ JB s' ag tt dd P q.2.1 ∧ CU s' T0 q.2.2.2 q.1.2.2.2.2
theorem k_str {tt dd : Nat} {P : Ps} {s : cS} {ts : List Tk} {n : Nat} {mode : Nat} {here : Int32} (hn : n ≤ 4) (hS : STK B z T0) (hL : LI s0 k L a z tl Ls T0 B tb ln base s) (hX : CTX s L a z tl Ls T0 (B, tb, ln, base, here, mode)) (hK : KPS s ag P) (J : JB s ag tt dd P []) (O : OPS s op0) (U : CU s T0 ts true) (hroom : ∀ t r, ts = t :: r → t.1 = 3 → ag = true → sEnd P + (strL B z (z - t.2.1) (t.2.1 + 1)).length + n ≤ if P.2.1 = 0 then tt else dd) : KR (DL s0 k ln a) (RDK s0 k L a z tl T0 B tb ln base ag tt dd P s) (xStr B z n ts) (f85 s (nn n)) := by
  have K := k_exp (DL s0 k ln a) (fun s' F => LI_DL (LI_cf (by decide) F hL)) hX U (k := 3) (by decide) (by decide)
  have U0 := U
  obtain ⟨i, t, r, rfl, g1, _⟩ := U0
  obtain ⟨u1, u2, u3, u4⟩ := CU_hd U
  have T := (CU_tok hL U).1
  have htT : t ∈ T0 := by
    have : t ∈ T0.drop i := by rw [g1]; exact List.mem_cons_self ..
    exact List.mem_of_mem_drop this
  unfold f85 xStr
  cases hx : xExp 3 (t :: r) with
  | none => exact trivial
  | some y =>
    rw [hx] at K
    cases y with
    | inr p =>
      obtain ⟨s', v1, v2⟩ := K
      refine ⟨s', ?_, v2⟩
      show tq (f45 s (nn 3)) _ = _
      rw [v1, tb_r]
    | inl q =>
      obtain ⟨s1, v1, v2, v3⟩ := K
      have ht : t.1 = 3 := by
        unfold xExp at hx
        by_cases h : t.1 = 3
        · exact h
        · simp only [if_neg h] at hx; cases hx
      have hlen := strL_len B z (z - t.2.1) (t.2.1 + 1)
      have hz := hL.2.1.2.2.2.1
      have hz2 := hL.2.1.2.2.2.2.1
      have hs1 : PT s0 k L a z tl Ls T0 B tb ln base ag tt dd P s1 [] s1 := ⟨LI_cf (by decide) v3 hL, KPS_of (fun j h5 h8 => v3.1 16 j (by unfold ICU; simp)) hK, JB_cf (by decide) (by decide) v3 J, WF_refl _ _ _⟩
      obtain ⟨s2, q1, q2⟩ := k_strF (s := s1) hn (show (strL B z (z - t.2.1) (t.2.1 + 1)).length ≤ 70000 by omega) (strL B z (z - t.2.1) (t.2.1 + 1)) (z - t.2.1) (t.2.1 + 1) 0 mm_U s1 [] rfl (by omega) (by have := T.2.1; omega) (by have := T.2.2.1; omega) (by show _ < 200000; omega) hs1 (by simp; omega) (fun h9 => by have := hroom t r rfl ht h9; simpa using this)
      refine ⟨s2, ?_, ?_⟩
      · show tq (f45 s (nn 3)) _ = _
        rw [v1, tb_l, u2, u3, hS t htT ht, nn_add1]
        exact q1
      · obtain ⟨w1, w2, w3, w4⟩ := q2
        have fx : ∀ i j, ¬ (i, j) ∈ [(16, 15)] → ¬ (i, j) ∈ ICU → s2.1 i j = s.1 i j := fun i j h9 h10 => (w4.1 i j h9).trans (v3.1 i j h10)
        refine ⟨⟨Ls, by rw [show oSy none = [] from rfl, List.append_nil]; exact w1⟩, w2, fx 16 9 (by decide) (by decide), fx 16 10 (by decide) (by decide), fx 17 1 (by decide) (by decide), ⟨(fx 16 11 (by decide) (by decide)).trans O.1, (fx 16 12 (by decide) (by decide)).trans O.2.1, (fx 16 13 (by decide) (by decide)).trans O.2.2.1, (fx 16 14 (by decide) (by decide)).trans O.2.2.2⟩, ?_, ?_⟩
        · rw [List.nil_append] at w3; exact w3
        · obtain ⟨i, t9, r9, h0, h1, h2, h3, h4, h5, h6⟩ := v2
          exact ⟨i, t9, r9, h0, h1, (w4.1 11 3 (by decide)).trans h2, (w4.1 11 4 (by decide)).trans h3, (w4.1 11 5 (by decide)).trans h4, (w4.1 11 15 (by decide)).trans h5, (w4.1 17 3 (by decide)).trans h6⟩
theorem k_equ {tt dd : Nat} {P : Ps} {s : cS} {ts : List Tk} {here : Int32} (hL : LI s0 k L a z tl Ls T0 B tb ln base s) (m0 : s.1 17 0 = nn 0) (m1 : s.1 17 1 = here) (hK : KPS s ag P) (J : JB s ag tt dd P []) (O : OPS s op0) (U : CU s T0 ts true) (hmax : tb.length < 17000) : KR (DL s0 k ln a) (RDK s0 k L a z tl T0 B tb ln base ag tt dd P s) (xEqu B ag tb ln (B, tb, ln, base, here, 0) ts) (f86 s) := by
  have hX := LI_ctx hL m0 (by decide) m1
  have hT := hL.2.2.2.2.2.2.2.2.2.2.1
  have K := k_exp (DL s0 k ln a) (fun s' F => LI_DL (LI_cf (by decide) F hL)) hX U (k := 1) (by decide) (by decide)
  have U0 := U
  obtain ⟨i, t, r, rfl, g1, _⟩ := U0
  obtain ⟨u1, u2, u3, u4⟩ := CU_hd U
  have T := (CU_tok hL U).1
  unfold f86 xEqu
  cases hx : xExp 1 (t :: r) with
  | none => exact trivial
  | some y =>
    rw [hx] at K
    cases y with
    | inr p =>
      obtain ⟨s', v1, v2⟩ := K
      refine ⟨s', ?_, v2⟩
      show tq (f45 s (nn 1)) _ = _
      rw [v1, tb_r]
    | inl q =>
      obtain ⟨s1, v1, v2, v3⟩ := K
      have ht : t.1 = 1 := by
        unfold xExp at hx
        by_cases h : t.1 = 1
        · exact h
        · simp only [if_neg h] at hx; cases hx
      have hL1 := LI_cf (by decide) v3 hL
      have hK1 : KPS s1 ag P := KPS_of (fun j h5 h8 => v3.1 16 j (by unfold ICU; simp)) hK
      have J1 := JB_cf (by decide) (by decide) v3 J
      obtain ⟨n1, n2, n3⟩ := T.2.2.2.1 ht
      have n4 : NM B tl t.2.1 (t.2.2.2.1 - t.2.1) := ⟨by have := n3.1; have := hL.2.2.2.2.1; omega, n3.2⟩
      have X1 : CTX s1 L a z tl Ls T0 (B, tb, ln, base, here, 0) := CTX_cf v3 (by decide) hX
      -- behind the name
      have fin : KR (DL s0 k ln a) (RDK s0 k L a z tl T0 B tb ln base ag tt dd P s) (xb (xExp 44 q) fun r2 => xb (xX (B, tb, ln, base, here, 0) true r2) fun q => some (.inl ((0, 0, 0, 0, q.2.1), [], if ag = true then none else some (tsy t 2 q.1 ln), q.2.2))) (f86_37 s1 (nn t.2.1) t.2.2.1) := by
        unfold f86_37
        refine kr_b (k_exp (DL s0 k ln a) (fun s' F => LI_DL (LI_cf (by decide) F hL1)) X1 v2 (k := 44) (by decide) (by decide)) ?_
        rintro r2 s2 ⟨c1, c2⟩
        have hL2 := LI_cf (by decide) c2 hL1
        refine kr_b (k_x (DL s0 k ln a) (fun s' F => LI_DL (LI_cf (by decide) F hL2)) (CTX_cf c2 (by decide) X1) hT c1) ?_
        rintro q2 b ⟨b1, b2, b3⟩
        have F3 := CF_trans v3 (CF_trans c2 b3)
        have hL3 := LI_cf (by decide) b3 hL2
        have hK3 : KPS b.2 ag P := KPS_of (fun j h5 h8 => F3.1 16 j (by unfold ICU; simp)) hK
        have J3 := JB_cf (by decide) (by decide) F3 J
        have O3 := OPS_cf F3 O
        show KR _ _ _ (if b.2.1 16 5 = 0 then (f62 b.2 (nn t.2.1) t.2.2.1 (nn 2) b.1 (b.2.1 11 6)).bind (fun r3 => some (.inl r3)) else some (.inl b.2))
        rw [hK3.1]
        cases ag with
        | true =>
          rw [if_neg (show ¬ eb true = 0 by decide)]
          refine ⟨b.2, rfl, ⟨Ls, ?_⟩, hK3, F3.1 16 9 (by decide), F3.1 16 10 (by decide), F3.1 17 1 (by decide), O3, J3, b2⟩
          show LI s0 k L a z tl Ls T0 B (tb ++ []) ln base b.2
          rw [List.append_nil]; exact hL3
        | false =>
          obtain ⟨s5, Ls5, d1, d2, d3⟩ := LI_add hL3 (v := b.1) (by omega) n4 (by omega) (show 2 ≤ 2 by omega)
          rw [if_pos (show eb false = 0 by decide), n1, hL3.2.2.2.2.2.2.2.1, d1, Option.bind_some]
          have h9 : ∀ i j, ¬ (i, j) = (2, 0) → ¬ (i, j) ∈ ICU → s5.1 i j = s.1 i j := fun i j h1 h2 => (d3 i j h1).trans (F3.1 i j h2)
          refine ⟨s5, rfl, ⟨Ls5, ?_⟩, KPS_of (fun j h5 h8 => d3 16 j (by simp)) hK3, h9 16 9 (by decide) (by decide), h9 16 10 (by decide) (by decide), h9 17 1 (by decide) (by decide), ⟨(d3 16 11 (by decide)).trans O3.1, (d3 16 12 (by decide)).trans O3.2.1, (d3 16 13 (by decide)).trans O3.2.2.1, (d3 16 14 (by decide)).trans O3.2.2.2⟩, ⟨(d3 16 15 (by decide)).trans J3.1, J3.2.1, fun h => by cases h⟩, ?_⟩
          · show LI s0 k L a z tl Ls5 T0 B (tb ++ [tsy t 2 q2.1 ln]) ln base s5
            rw [← b1]; exact d2
          · obtain ⟨i, t9, r9, h0, h1, h2, h3, h4, h5, h6⟩ := b2
            exact ⟨i, t9, r9, h0, h1, (d3 11 3 (by decide)).trans h2, (d3 11 4 (by decide)).trans h3, (d3 11 5 (by decide)).trans h4, (d3 11 15 (by decide)).trans h5, (d3 17 3 (by decide)).trans h6⟩
      show KR _ _ (if ag = false ∧ isNew B tb t = false then some (.inr (t.2.1, 2)) else _) (tq (f45 s (nn 1)) _)
      rw [v1]
      show KR _ _ _ (if s1.1 16 5 = 0 then tq (f47 s1 (s.1 11 4) (s.1 11 5)) _ else f86_37 s1 (s.1 11 4) (s.1 11 5))
      rw [hK1.1, u2, u3]
      cases hag : ag with
      | true =>
        rw [hag] at fin
        rw [if_neg (show ¬ eb true = 0 by decide), if_neg (fun h => by cases h.1)]
        exact fin
      | false =>
        rw [hag] at fin
        rw [if_pos (show eb false = 0 by decide)]
        have hn9 := k_new (D := DL s0 k ln a) (LI_DL hL1) hL1 T ht
        cases hnew : isNew B tb t with
        | true =>
          rw [hnew, if_pos rfl] at hn9
          obtain ⟨s3, w1, w2⟩ := hn9
          subst w2
          rw [w1, if_neg (fun h => by cases h.2)]
          exact fin
        | false =>
          rw [hnew, if_neg (by decide)] at hn9
          obtain ⟨s3, w1, w2⟩ := hn9
          rw [w1, if_pos ⟨rfl, rfl⟩]
          exact ⟨s3, rfl, w2⟩
end KT
