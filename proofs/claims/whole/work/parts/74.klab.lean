/-! THE CLASS's labels. -/
def stW : List Nat := [115, 116, 97, 114, 116]
/-- the label start -/
def entF (B : Nat → Nat) (tb : List Sy) : Nat → Option Nat
  | 0 => none
  | n + 1 => if syn B tb n = stW ∧ (tb.getD n sy0).2.2.1 < 2 then some n else entF B tb n
def entI (B : Nat → Nat) (tb : List Sy) : Option Nat := entF B tb tb.length
theorem entF_snoc (B : Nat → Nat) (tb : List Sy) (x : Sy) : ∀ n, n ≤ tb.length → entF B (tb ++ [x]) n = entF B tb n := by
  intro n
  induction n with
  | zero => intro _; rfl
  | succ n ih =>
    intro h
    have e : (tb ++ [x]).getD n sy0 = tb.getD n sy0 := by rw [getD_snoc, if_pos (show n < tb.length by omega)]
    rw [entF, entF, ih (by omega)]
    unfold syn
    rw [e]
theorem entI_snoc (B : Nat → Nat) (tb : List Sy) (x : Sy) : entI B (tb ++ [x]) = if nb B x.1 x.2.1 = stW ∧ x.2.2.1 < 2 then some tb.length else entI B tb := by
  unfold entI
  rw [List.length_append, List.length_singleton, entF, entF_snoc B tb x tb.length (Nat.le_refl _)]
  unfold syn
  have e : (tb ++ [x]).getD tb.length sy0 = x := by rw [getD_snoc, if_neg (show ¬ tb.length < tb.length by omega), if_pos rfl]
  rw [e]
abbrev tq {α β : Type} (x : Option (α ⊕ cS)) (g : α → Option (β ⊕ cS)) : Option (β ⊕ cS) := tb x g
def kb (r : List Tk) : Nat := match r with
  | [] => 0
  | t :: _ => t.1
section KB
variable {s0 s : cS} {k L a z tl Ls ln : Nat} {T0 ts r : List Tk} {t : Tk} {B : Nat → Nat} {tb : List Sy} {base er : Int32} {e : Bool}
theorem k_behind (h : LI s0 k L a z tl Ls T0 B tb ln base s) (U : CUi s T0 (t :: r) er) : f44 s = some (nn (kb r)) := by
  obtain ⟨i, t', r', h0, h1, h2, h3, h4, h5, h6⟩ := U
  obtain ⟨rfl, rfl⟩ := List.cons.inj h0
  have C := h.1
  have hT := h.2.2.2.2.2.2.2.2.2.2.1
  obtain ⟨a1, a2, a3, l1, l2, l3, l4, _⟩ := C.1
  have hlen := drop_len h1
  have hl := C.2.2.2.1
  obtain ⟨hW, hF⟩ := WFT_drop C.2.2.1 h1
  unfold f44
  rw [h5, nn_add1]
  cases r with
  | nil =>
    simp only [List.length_nil] at hlen
    cases hf : lastF T0 with
    | none =>
      rw [(C.2.2.2.2.1 hf).2, nn_le2 (by omega) (by omega), if_pos (by omega)]
      rfl
    | some w =>
      obtain ⟨f1, f2, f3, f4, f5⟩ := C.2.2.2.2.2 w hf
      rw [f3, nn_le2 (by omega) (by omega), if_neg (by omega), if_pos ⟨a1, (nn_ib (by omega)).mpr (by rw [l1]; omega)⟩]
      show some ((s.2.2.1 (s.2.1 11 11)).2.2 (nn (i + 1)).toNatClampNeg) = _
      rw [nn_tn (by omega), show i + 1 = T0.length by omega, f4]
      rfl
  | cons t2 r2 =>
    have h9 : T0.drop (i + 1) = t2 :: r2 := drop_next h1
    have hlen2 := drop_len h9
    obtain ⟨k1, k2, k3⟩ := TKL_drop C.2.1 h9
    rw [Nat.zero_add] at k1
    have hcount : ∃ n, s.1 11 14 = nn n ∧ T0.length ≤ n ∧ n ≤ T0.length + 1 := by
      cases hf : lastF T0 with
      | none => exact ⟨_, (C.2.2.2.2.1 hf).2, Nat.le_refl _, by omega⟩
      | some w => exact ⟨_, (C.2.2.2.2.2 w hf).2.2.1, by omega, Nat.le_refl _⟩
    obtain ⟨n, hn, hn1, hn2⟩ := hcount
    rw [hn, nn_le2 (by omega) (by omega), if_neg (by omega), if_pos ⟨a1, (nn_ib (by omega)).mpr (by rw [l1]; omega)⟩]
    show some ((s.2.2.1 (s.2.1 11 11)).2.2 (nn (i + 1)).toNatClampNeg) = _
    rw [nn_tn (by omega), k1]
    rfl
theorem CU_tok (h : LI s0 k L a z tl Ls T0 B tb ln base s) (U : CUi s T0 (t :: r) er) : TOK B a z t ∧ WFT (t :: r) := by
  obtain ⟨i, t', r', h0, h1, _⟩ := U
  obtain ⟨rfl, rfl⟩ := List.cons.inj h0
  refine ⟨h.2.2.2.2.2.2.2.2.2.1 t ?_, (WFT_drop h.1.2.2.1 h1).1⟩
  have : t ∈ T0.drop i := by rw [h1]; exact List.mem_cons_self ..
  exact List.mem_of_mem_drop this
theorem CU_hd (U : CUi s T0 (t :: r) er) : s.1 11 3 = nn t.1 ∧ s.1 11 4 = nn t.2.1 ∧ s.1 11 5 = t.2.2.1 ∧ s.1 17 3 = er := by
  obtain ⟨i, t', r', h0, h1, h2, h3, h4, h5, h6⟩ := U
  obtain ⟨rfl, rfl⟩ := List.cons.inj h0
  exact ⟨h2, h3, h4, h6⟩
theorem CU_len (U : CUi s T0 ts er) : ts.length ≤ T0.length := by
  obtain ⟨i, t', r', rfl, h1, _⟩ := U
  have := drop_len h1
  rw [List.length_cons]; omega
/-- a name must be new -/
theorem k_new {D : cS → Prop} (hD : D s) (h : LI s0 k L a z tl Ls T0 B tb ln base s) (ht : TOK B a z t) (h1 : t.1 = 1) : KR D (fun (_ : Unit) s' => s' = s) (if isNew B tb t = true then some (.inl ()) else some (.inr (t.2.1, 2))) (f47 s (nn t.2.1) t.2.2.1) := by
  obtain ⟨e1, e2, e3⟩ := ht.2.2.2.1 h1
  have X := h.2.2.2.1
  have e4 : NM B tl t.2.1 (t.2.2.2.1 - t.2.1) := ⟨by have := e3.1; have := h.2.2.2.2.1; omega, e3.2⟩
  unfold f47
  rw [e1, c_reg h.2.1 h.2.2.1 e3 ht.2.1 (by omega), Option.bind_some, c_find X h.2.2.2.2.2.1 e4]
  have hn : isNew B tb t = decide (rg (tname B t) = none ∧ sfind B tb (tname B t) = none) := rfl
  rw [hn]
  by_cases c1 : rg (tname B t) = none
  · rw [if_pos (show rgI (nb B t.2.1 (t.2.2.2.1 - t.2.1)) = -1 from rgI_m1.mpr c1), Option.bind_some]
    cases hs : sfind B tb (tname B t) with
    | none =>
      rw [if_pos (show jI (sfind B tb (nb B t.2.1 (t.2.2.2.1 - t.2.1))) = -1 by rw [show nb B t.2.1 (t.2.2.2.1 - t.2.1) = tname B t from rfl, hs]; rfl), if_pos (by simp [c1])]
      exact ⟨s, rfl, rfl⟩
    | some j =>
      have hj := sfind_lt j hs
      have := h.2.2.2.2.2.1.2.1
      have := h.2.2.2.2.2.1.2.2.1
      rw [if_neg (show ¬ jI (sfind B tb (nb B t.2.1 (t.2.2.2.1 - t.2.1))) = -1 by rw [show nb B t.2.1 (t.2.2.2.1 - t.2.1) = tname B t from rfl, hs]; exact nn_m1 (by omega)), if_neg (by simp)]
      exact ⟨s, rfl, hD⟩
  · rw [if_neg (show ¬ rgI (nb B t.2.1 (t.2.2.2.1 - t.2.1)) = -1 from fun h9 => c1 (rgI_m1.mp h9)), if_neg (by simp [c1])]
    exact ⟨s, rfl, hD⟩
/-- whether a name is start -/
theorem k_start (h : LI s0 k L a z tl Ls T0 B tb ln base s) (ht : TOK B a z t) (h1 : t.1 = 1) : ∃ y, f51 s (nn t.2.1) t.2.2.1 3 = some y ∧ (y = 0 ↔ tname B t = stW) := by
  obtain ⟨n1, n2, n3⟩ := ht.2.2.2.1 h1
  have hz := h.2.1.2.2.2.1
  have hz2 := h.2.1.2.2.2.2.1
  have cm4 := c_cmp h.2.1 h.2.2.1 n3 (show t.2.2.2.1 - t.2.1 < 100000 by have := n3.1; omega) (k := 3) (by decide)
  rw [← n1] at cm4
  refine ⟨_, cm4, ?_⟩
  have b4 := lcmp_sm _ _ (nb_sm n3) (sn_sm (k := 3) (by decide))
  have hv := ofInt_sm b4.1 b4.2
  have z0 : (0 : Int32).toInt = 0 := rfl
  have s4 : sn 3 = stW := rfl
  constructor
  · intro hh
    rw [hh] at hv
    show nb B t.2.1 (t.2.2.2.1 - t.2.1) = _
    rw [← s4]
    exact lcmp_eq _ _ (by omega)
  · intro hh
    have hh : nb B t.2.1 (t.2.2.2.1 - t.2.1) = sn 3 := hh
    rw [hh, lcmp_self]; rfl
end KB
theorem KPS_of {s s' : cS} {ag : Bool} {P : Ps} (h : ∀ j, 5 ≤ j → j ≤ 8 → s'.1 16 j = s.1 16 j) (K : KPS s ag P) : KPS s' ag P := by
  obtain ⟨k1, k2, k3, k4, k5, k6⟩ := K
  exact ⟨(h 5 (by decide) (by decide)).trans k1, k2, (h 6 (by decide) (by decide)).trans k3, (h 7 (by decide) (by decide)).trans k4, (h 8 (by decide) (by decide)).trans k5, k6⟩
section KL9
variable {s0 : cS} {k L a z tl ln : Nat} {T0 : List Tk} {B : Nat → Nat} {base er : Int32} {e ag : Bool}
theorem xLab_nil (P1 : Nat) (off : Int32) (tb : List Sy) : xLab B ag P1 off ln [] tb = .inl ([], tb) := rfl
theorem xLab_one (P1 : Nat) (off : Int32) (t : Tk) (tb : List Sy) : xLab B ag P1 off ln [t] tb = .inl ([t], tb) := rfl
theorem xLab_two (P1 : Nat) (off : Int32) (t t2 : Tk) (r : List Tk) (tb : List Sy) : xLab B ag P1 off ln (t :: t2 :: r) tb = if t.1 = 1 ∧ t.2.2.2.2 = none ∧ t2.1 = 58 then (if ag = true then xLab B ag P1 off ln r tb else if isNew B tb t = true then xLab B ag P1 off ln r (tb ++ [tsy t P1 off ln]) else .inr (t.2.1, 2)) else .inl (t :: t2 :: r, tb) := rfl
theorem k_lab (P2 : Nat × List Int32 × List Int32) : ∀ (n : Nat) (ts : List Tk) (tb : List Sy) (s : cS) (Ls turn u : Nat), ts.length ≤ n → LI s0 k L a z tl Ls T0 B tb ln base s → KPS s ag ([], P2) → s.1 16 9 = jI (entI B tb) → CUi s T0 ts er → turn + ts.length ≤ 65500 → n < u → tb.length + (if ag = true then 0 else ts.length) ≤ 17000 → KR (DL s0 k ln a) (fun (l : List Tk × List Sy) s' => ∃ Ls', LI s0 k L a z tl Ls' T0 B l.2 ln base s' ∧ KPS s' ag ([], P2) ∧ s'.1 16 9 = jI (entI B l.2) ∧ CUi s' T0 l.1 er ∧ (ag = true → CF ICU s s')) (some (xLab B ag P2.1 (nn (sEnd ([], P2))) ln ts tb)) (f43_2 u s (nn turn)) := by
  intro n
  induction n with
  | zero =>
    intro ts tb s Ls turn u hn hL hK hE U
    obtain ⟨i, t, r, rfl, _⟩ := U
    simp at hn
  | succ n ih =>
    intro ts tb s Ls turn u hn hL hK hE U ht hu hm
    have U0 := U
    obtain ⟨i9, t, r, rfl, _⟩ := U0
    rw [List.length_cons] at hn ht hm
    have T := CU_tok hL U
    obtain ⟨u1, u2, u3, u4⟩ := CU_hd U
    have eu : u = (u - 1) + 1 := by omega
    have stop : KR (DL s0 k ln a) (fun (l : List Tk × List Sy) s' => ∃ Ls', LI s0 k L a z tl Ls' T0 B l.2 ln base s' ∧ KPS s' ag ([], P2) ∧ s'.1 16 9 = jI (entI B l.2) ∧ CUi s' T0 l.1 er ∧ (ag = true → CF ICU s s')) (some (.inl (t :: r, tb))) (some (.inl s)) := ⟨s, rfl, Ls, hL, hK, hE, U, fun _ => CF_refl _ _⟩
    rw [eu, f43_2, show (65536 : Int32) = nn 65536 from rfl, nn_le2 (by omega) (by omega), if_neg (by omega), u1, q_eq (x := 1) (k := 1) rfl T.1.1 (by decide)]
    by_cases c1 : t.1 = 1
    · rw [if_pos c1, k_behind hL U, Option.bind_some]
      cases r with
      | nil =>
        rw [if_neg (show ¬ nn (kb []) = 58 by decide), xLab_one]
        exact stop
      | cons t2 r2 =>
        have hf : t.2.2.2.2 = none := T.2.2.1
        have T2 : t2.1 < 256 := by
          obtain ⟨i, t', r', h0, h1, _⟩ := U
          obtain ⟨rfl, h0⟩ := List.cons.inj h0
          rw [← h0] at h1
          have : t2 ∈ T0.drop i := by rw [h1]; simp
          exact (hL.2.2.2.2.2.2.2.2.2.1 t2 (List.mem_of_mem_drop this)).1
        rw [show nn (kb (t2 :: r2)) = nn t2.1 from rfl, q_eq (x := 58) (k := 58) rfl T2 (by decide), xLab_two]
        by_cases c2 : t2.1 = 58
        · rw [if_pos c2, if_pos ⟨c1, hf, c2⟩]
          -- a context to take tokens in
          have hX : CTX (cg (cg s 17 0 0) 17 1 0) L a z tl Ls T0 (B, tb, ln, base, 0, 0) := LI_ctx (LI_cf (by decide) (CF_g (CF_g (CF_refl [(17, 0), (17, 1)] s) (by decide) _) (by decide) _) hL) rfl (by decide) rfl
          have ce : ∀ (s9 : cS) (ts9 : List Tk) (kk : Nat), LI s0 k L a z tl Ls T0 B tb ln base s9 → CUi s9 T0 ts9 er → kk < 256 → 0 < kk → KR (DL s0 k ln a) (fun r s' => CUi s' T0 r er ∧ CF ICU s9 s') (xExp kk ts9) (f45 s9 (nn kk)) := by
            intro s9 ts9 kk hL9 U9 hk1 hk2
            obtain ⟨i, t9, r9, rfl, h1, h2, h3, h4, h5, h6⟩ := U9
            have hs := cz_self h2 h3 h4 h5 h6
            have t9k : t9.1 < 256 := by
              have : t9 ∈ T0.drop i := by rw [h1]; simp
              exact (hL9.2.2.2.2.2.2.2.2.2.1 t9 (List.mem_of_mem_drop this)).1
            have H := c_exp (er := er) hL9.1 h1 t9k hk1 hk2
            rw [hs] at H
            cases hx : xExp kk (t9 :: r9) with
            | none => exact trivial
            | some y =>
              rw [hx] at H
              cases y with
              | inl q =>
                obtain ⟨i', t', r', rfl, g2, g3⟩ := H
                exact ⟨_, g3, CU_cz g2, cz_cf s9 i' t' (er)⟩
              | inr p =>
                obtain ⟨i', t', er', g3⟩ := H
                exact ⟨_, g3, LI_DL (LI_cf (by decide) (cz_cf s9 i' t' er') hL9)⟩
          have x1 : xExp 1 (t :: t2 :: r2) = some (.inl (t2 :: r2)) := by unfold xExp; simp only [c1, if_true, hf]
          have g1 := ce s (t :: t2 :: r2) 1 hL U (by decide) (by decide)
          rw [x1] at g1
          obtain ⟨s1, y1, y2, y3⟩ := g1
          have hL1 := LI_cf (by decide) y3 hL
          have T2' := CU_tok hL1 y2
          have f2 : t2.2.2.2.2 = none := T2'.1.2.2.2.2.1 (by omega) (by omega) (by omega)
          have x2 : xExp 58 (t2 :: r2) = some (.inl r2) := by unfold xExp; simp only [c2, if_true, f2]
          have g2 := ce s1 (t2 :: r2) 58 hL1 y2 (by decide) (by decide)
          rw [x2] at g2
          obtain ⟨s2, w1, w2, w3⟩ := g2
          have F2 := CF_trans y3 w3
          have hL2 := LI_cf (by decide) w3 hL1
          have hK2 : KPS s2 ag ([], P2) := KPS_of (fun j h5 h8 => F2.1 16 j (by unfold ICU; simp)) hK
          have e9 : s2.1 16 9 = jI (entI B tb) := (F2.1 16 9 (by decide)).trans hE
          show KR _ _ _ (tq (f45 s (nn 1)) _)
          rw [y1]
          show KR _ _ _ (tq (f45 s1 (nn 58)) _)
          rw [w1]
          rw [List.length_cons] at hn ht hm
          have h5 : s2.1 16 5 = eb ag := hK2.1
          cases ag with
          | true =>
            rw [if_pos rfl] at hm
            show KR _ _ _ (if s2.1 16 5 = 0 then _ else f43_126 (f43_2 (u - 1)) s2 (nn turn))
            rw [h5, if_neg (show ¬ eb true = 0 by decide), if_pos rfl]
            unfold f43_126
            rw [nn_add1]
            refine kr_mono (ih r2 tb s2 Ls (turn + 1) (u - 1) (by omega) hL2 hK2 e9 w2 (by omega) (by omega) (by rw [if_pos rfl]; omega)) (fun _ h => h) ?_
            rintro l s' ⟨Ls', q1, q2, q3, q4, q5⟩
            exact ⟨Ls', q1, q2, q3, q4, fun h => CF_trans F2 (q5 h)⟩
          | false =>
            rw [if_neg (show ¬ (false = true) by decide)] at hm
            show KR _ _ _ (if s2.1 16 5 = 0 then tq (f47 s2 (s.1 11 4) (s.1 11 5)) _ else _)
            rw [h5, if_pos (show eb false = 0 from rfl), u2, u3, if_neg (show ¬ (false = true) by decide)]
            have hn9 := k_new (D := DL s0 k ln a) (LI_DL hL2) hL2 T.1 c1
            by_cases c3 : isNew B tb t = true
            · rw [if_pos c3] at hn9 ⊢
              obtain ⟨s3, v1, v2⟩ := hn9
              subst v2
              rw [v1]
              obtain ⟨y, o1, o2⟩ := k_start hL2 T.1 c1
              show KR _ _ _ ((f51 s3 (nn t.2.1) t.2.2.1 3).bind _)
              rw [o1, Option.bind_some]
              obtain ⟨n1, n2, n3⟩ := T.1.2.2.2.1 c1
              have n4 : NM B tl t.2.1 (t.2.2.2.1 - t.2.1) := ⟨by have := n3.1; have := hL.2.2.2.2.1; omega, n3.2⟩
              have e6 := hK2.2.2.1
              have fin : ∀ s4, LI s0 k L a z tl Ls T0 B tb ln base s4 → KPS s4 false ([], P2) → CUi s4 T0 r2 er → s4.1 16 9 = jI (entI B (tb ++ [tsy t P2.1 (nn (sEnd ([], P2))) ln])) → KR (DL s0 k ln a) (fun (l : List Tk × List Sy) s' => ∃ Ls', LI s0 k L a z tl Ls' T0 B l.2 ln base s' ∧ KPS s' false ([], P2) ∧ s'.1 16 9 = jI (entI B l.2) ∧ CUi s' T0 l.1 er ∧ (false = true → CF ICU s s')) (some (xLab B false P2.1 (nn (sEnd ([], P2))) ln r2 (tb ++ [tsy t P2.1 (nn (sEnd ([], P2))) ln]))) (f43_102 (f43_2 (u - 1)) s4 (nn turn) (nn t.2.1) t.2.2.1) := by
                intro s4 hL4 hK4 U4 hE4
                have hsec : P2.1 ≤ 1 := hK4.2.1
                obtain ⟨s5, Ls5, b1, b2, b3⟩ := LI_add hL4 (v := nn (sEnd ([], P2))) (by omega) n4 (by omega) (show P2.1 ≤ 2 by omega)
                unfold f43_102
                rw [n1, hK4.2.2.1, f61_at hK4, hL4.2.2.2.2.2.2.2.1, b1, Option.bind_some]
                unfold f43_126
                rw [nn_add1]
                have FC : ∀ x ∈ ICU, ¬ x = (2, 0) := by decide
                have U5 : CUi s5 T0 r2 er := by
                  obtain ⟨i, t', r', h0, h1, h2, h3, h4, h5, h6⟩ := U4
                  exact ⟨i, t', r', h0, h1, (b3 11 3 (by decide)).trans h2, (b3 11 4 (by decide)).trans h3, (b3 11 5 (by decide)).trans h4, (b3 11 15 (by decide)).trans h5, (b3 17 3 (by decide)).trans h6⟩
                refine kr_mono (ih r2 _ s5 Ls5 (turn + 1) (u - 1) (by omega) b2 (KPS_of (fun j _ _ => b3 16 j (by simp)) hK4) ?_ U5 (by omega) (by omega) (by rw [if_neg (show ¬ (false = true) by decide), List.length_append, List.length_singleton]; omega)) (fun _ h => h) ?_
                · rw [b3 16 9 (by decide)]; exact hE4
                · rintro l s' ⟨Ls', q1, q2, q3, q4, q5⟩
                  exact ⟨Ls', q1, q2, q3, q4, fun h => by cases h⟩
              have hse : (tsy t P2.1 (nn (sEnd ([], P2))) ln).2.2.1 < 2 := by show P2.1 < 2; have := hK2.2.1; have : P2.1 ≤ 1 := this; omega
              by_cases hy : y = 0
              · rw [if_pos hy]
                refine fin _ (LI_cf (by decide) (CF_g (CF_refl [(16, 9)] s3) (by decide) _) hL2) (KPS_of (fun j h5 h8 => (CF_g (CF_refl [(16, 9)] s3) (by decide) _).1 16 j (by simp; omega)) hK2) (CU_cf (CF_g (CF_refl [(16, 9)] s3) (by decide) _) (by decide) w2) ?_
                rw [entI_snoc, if_pos ⟨o2.mp hy, hse⟩]
                show s3.1 2 0 = _
                exact hL2.2.2.2.2.2.1.1
              · rw [if_neg hy]
                refine fin s3 hL2 hK2 w2 ?_
                rw [entI_snoc, if_neg (fun h => hy (o2.mpr h.1))]
                exact e9
            · rw [if_neg c3] at hn9 ⊢
              obtain ⟨s3, v1, v2⟩ := hn9
              rw [v1]
              exact ⟨s3, rfl, v2⟩
        · rw [if_neg c2, if_neg (fun h => c2 h.2.2)]
          exact stop
    · rw [if_neg c1]
      cases r with
      | nil => rw [xLab_one]; exact stop
      | cons t2 r2 => rw [xLab_two, if_neg (fun h => c1 h.1)]; exact stop
end KL9
