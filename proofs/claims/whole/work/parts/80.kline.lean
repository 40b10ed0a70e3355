/-! THE CLASS goes on; a line of the class. -/
theorem kr_e {α β γ δ : Type} {D : cS → Prop} {P : α → β → Prop} {Q : γ → δ → Prop} {x : Option (Rx α)} {y : Option (β ⊕ cS)} {g : α → Option (Rx γ)} {h : β → Option (δ ⊕ cS)} (H : KR D P x y) (K : ∀ q b, x = some (.inl q) → P q b → KR D Q (g q) (h b)) : KR D Q (xb x g) (tq y h) := by
  cases x with
  | none => exact trivial
  | some x9 =>
    cases x9 with
    | inl q =>
      obtain ⟨b, rfl, h2⟩ := H
      exact K q b rfl h2
    | inr p =>
      obtain ⟨s', rfl, h2⟩ := H
      exact ⟨s', rfl, h2⟩
section KG
variable {s0 : cS} {k L a z tl Ls ln : Nat} {T0 : List Tk} {B : Nat → Nat} {tb : List Sy} {base er : Int32} {e ag : Bool}
theorem k_expL {s : cS} {ts : List Tk} (hL : LI s0 k L a z tl Ls T0 B tb ln base s) (U : CUi s T0 ts er) {kk : Nat} (hk : kk < 256) (hk0 : 0 < kk) : KR (DL s0 k ln a) (fun r s' => CUi s' T0 r er ∧ CF ICU s s') (xExp kk ts) (f45 s (nn kk)) := by
  obtain ⟨i, t, r, rfl, h1, h2, h3, h4, h5, h6⟩ := U
  have hs := cz_self h2 h3 h4 h5 h6
  have t9 : t.1 < 256 := by
    have : t ∈ T0.drop i := by rw [h1]; exact List.mem_cons_self ..
    exact (hL.2.2.2.2.2.2.2.2.2.1 t (List.mem_of_mem_drop this)).1
  have H := c_exp (er := er) hL.1 h1 t9 hk hk0
  rw [hs] at H
  cases hx : xExp kk (t :: r) with
  | none => exact trivial
  | some y =>
    rw [hx] at H
    cases y with
    | inl q =>
      obtain ⟨i', t', r', rfl, g2, g3⟩ := H
      exact ⟨_, g3, CU_cz g2, cz_cf s i' t' (er)⟩
    | inr p =>
      obtain ⟨i', t', er', g3⟩ := H
      exact ⟨_, g3, LI_DL (LI_cf (by decide) (cz_cf s i' t' er') hL)⟩
theorem k_101 {P : Ps} {s : cS} {bs : List Int32} {j : Nat} (tb' : List Sy) (hj : j < 83) (hK : KPS s ag P) (hz : f100 s (400 + j) = some (nn bs.length)) (hl : sEnd P + bs.length ≤ 65536) : ∃ s', f101 s (400 + j) = some s' ∧ CF [(16, 6), (16, 7), (16, 8)] s s' ∧ KPS s' ag (sSec j (sAdd (tb', P.2) bs)) := by
  obtain ⟨k1, k2, k3, k4, k5, k6, k7⟩ := hK
  have f3 := (frm_ok j hj).2.2
  have ef := en_f j
  have ec := en_c j
  unfold f101 f101_36 sSec sAdd
  unfold sEnd at hl
  rw [hz, Option.bind_some]
  simp only [if_pos (cE_j hj), ef, ec]
  rw [k3, k4, k5, nn_add, nn_add, q_eq (x := 0) (k := 0) rfl (by omega) (by decide)]
  by_cases c : P.2.1 = 0
  · rw [if_pos c] at hl
    rw [if_pos c, if_pos (show ((tb', P.2) : Ps).2.1 = 0 from c)]
    have hl2 : (P.2.2.1 ++ bs).length ≤ 65536 := by rw [List.length_append]; exact hl
    by_cases c1 : sFrm j = 1
    · rw [if_pos c1, if_pos c1]
      refine ⟨_, rfl, CF_g (CF_g (CF_refl _ _) (by decide) _) (by decide) _, k1, (f3 c1).1, (f3 c1).2.symm, ?_, k5, hl2, k7⟩
      show nn _ = nn (P.2.2.1 ++ bs).length
      rw [List.length_append]
    · rw [if_neg c1, if_neg c1]
      refine ⟨_, rfl, CF_g (CF_refl _ _) (by decide) _, k1, k2, k3, ?_, k5, hl2, k7⟩
      show nn _ = nn (P.2.2.1 ++ bs).length
      rw [List.length_append]
  · rw [if_neg c] at hl
    rw [if_neg c, if_neg (show ¬ ((tb', P.2) : Ps).2.1 = 0 from c)]
    have hl2 : (P.2.2.2 ++ bs).length ≤ 65536 := by rw [List.length_append]; exact hl
    by_cases c1 : sFrm j = 1
    · rw [if_pos c1, if_pos c1]
      refine ⟨cg (cg s 16 8 (nn (P.2.2.2.length + bs.length))) 16 6 (sCod j), rfl, CF_g (CF_g (CF_refl _ _) (by decide) _) (by decide) _, k1, (f3 c1).1, (f3 c1).2.symm, k4, ?_, k6, hl2⟩
      show nn _ = nn (P.2.2.2 ++ bs).length
      rw [List.length_append]
    · rw [if_neg c1, if_neg c1]
      refine ⟨_, rfl, CF_g (CF_refl _ _) (by decide) _, k1, k2, k3, k4, ?_, k6, hl2⟩
      show nn _ = nn (P.2.2.2 ++ bs).length
      rw [List.length_append]
theorem xStm_do (ag : Bool) (j pl : Nat) (ts : List Tk) (P : Ps) : xStm B z ag base ln j pl ts P = xb (xRead B z ag P.1 ln base (sHere P base) j ts) (xDo ag base j pl P) := rfl
/-- at a line's end -/
def LE (s0 : cS) (k L a z tl : Nat) (T0 : List Tk) (B : Nat → Nat) (ln : Nat) (base : Int32) (ag : Bool) (tt dd : Nat) (P : Ps) (s' : cS) : Prop := (∃ Ls', LI s0 k L a z tl Ls' T0 B P.1 ln base s') ∧ KPS s' ag P ∧ s'.1 16 9 = jI (entI B P.1) ∧ (ag = true → IMG s' tt dd P.2.2.1 P.2.2.2)
/-- what is known of a thing that was read -/
def RDX (ag : Bool) (j : Nat) (q : Rd) : Prop := (¬ (sFrm j = 2 ∨ sFrm j = 3) → q.2.1 = []) ∧ (ag = true → q.2.2.1 = none) ∧ ∀ y, q.2.2.1 = some y → y.2.2.1 = 2
theorem xb_some {α β : Type} {x : Option (Rx α)} {g : α → Option (Rx β)} {r : β} (h : xb x g = some (.inl r)) : ∃ q, x = some (.inl q) ∧ g q = some (.inl r) := by
  cases x with
  | none => cases h
  | some y =>
    cases y with
    | inl q => exact ⟨q, rfl, h⟩
    | inr p => cases h
theorem xRead_x {j : Nat} {here : Int32} {ts : List Tk} {q : Rd} (h : xRead B z ag tb ln base here j ts = some (.inl q)) : RDX ag j q := by
  unfold xRead at h
  by_cases c2 : sFrm j = 2
  · rw [if_pos c2] at h
    obtain ⟨x, _, h2⟩ := xb_some h
    cases h2
    exact ⟨fun h => absurd (Or.inl c2) h, fun _ => rfl, fun y hy => by cases hy⟩
  rw [if_neg c2] at h
  by_cases c3 : sFrm j = 3
  · rw [if_pos c3] at h
    refine ⟨fun h => absurd (Or.inr c3) h, ?_⟩
    cases ts with
    | nil => cases h
    | cons t r =>
      obtain ⟨x, _, h2⟩ := xb_some h
      cases h2
      exact ⟨fun _ => rfl, fun y hy => by cases hy⟩
  rw [if_neg c3] at h
  by_cases c6 : sFrm j = 6
  · rw [if_pos c6] at h
    cases ts with
    | nil => cases h
    | cons t r =>
      unfold xEqu at h
      obtain ⟨x, _, h2⟩ := xb_some h
      by_cases c : ag = false ∧ isNew B tb t = false
      · rw [if_pos c] at h2; cases h2
      · rw [if_neg c] at h2
        obtain ⟨x3, _, h3⟩ := xb_some h2
        obtain ⟨x4, _, h4⟩ := xb_some h3
        cases h4
        refine ⟨fun _ => rfl, fun hag => if_pos hag, fun y hy => ?_⟩
        have hy : (if ag = true then none else some (tsy t 2 x4.1 ln)) = some y := hy
        split at hy
        · cases hy
        · cases hy; rfl
  rw [if_neg c6] at h
  obtain ⟨x, _, h2⟩ := xb_some h
  cases h2
  exact ⟨fun _ => rfl, fun _ => rfl, fun y hy => by cases hy⟩
theorem ent_o {q : Rd} {j : Nat} (hx : RDX ag j q) : entI B (tb ++ oSy q.2.2.1) = entI B tb := by
  cases h : q.2.2.1 with
  | none => show entI B (tb ++ []) = _; rw [List.append_nil]
  | some y =>
    show entI B (tb ++ [y]) = _
    rw [entI_snoc, if_neg (fun h9 => by have := hx.2.2 y h; omega)]
/-- the room of a statement, the second time -/
def SRM (B : Nat → Nat) (z : Nat) (base : Int32) (ln j : Nat) (ts : List Tk) (P : Ps) (tt dd : Nat) : Prop := (∃ E1 : Ev, E1.1 = B ∧ E1.2.2.2.2.2 = 1 ∧ RRM B z true E1 j ts (sEnd P) (if P.2.1 = 0 then tt else dd)) ∧ ∀ q, xRead B z true P.1 ln base (sHere P base) j ts = some (.inl q) → GAP j q ∧ sEnd P + sSz (sFrm j) (sEnd P) q ≤ if P.2.1 = 0 then tt else dd
theorem k_154 {tt dd : Nat} {P : Ps} {s s1 : cS} {q : Rd} {j pl : Nat} (hj : j < 83) (hx : RDX ag j q) (h : RDK s0 k L a z tl T0 B P.1 ln base ag tt dd P s q s1) (h9 : s.1 16 9 = jI (entI B P.1)) (hpl : s.1 16 10 = nn pl) (h17 : s.1 17 1 = sHere P base) (hr : ag = true → GAP j q ∧ sEnd P + sSz (sFrm j) (sEnd P) q ≤ if P.2.1 = 0 then tt else dd) : KR (DL s0 k ln a) (LE s0 k L a z tl T0 B ln base ag tt dd) (xDo ag base j pl P q) (f42_154 s1 (400 + j)) := by
  obtain ⟨⟨Ls', hL⟩, hK, g9, g10, g17, O, J, U⟩ := h
  have U0 := U
  obtain ⟨i, t, r, hts, g1, _⟩ := U0
  rw [hts] at U
  obtain ⟨u1, u2, u3, u4⟩ := CU_hd U
  have T := (CU_tok hL U).1
  have hpl1 : s1.1 16 10 = nn pl := g10.trans hpl
  have R : RDO s1 j q := ⟨O, fun _ => J.1, u4⟩
  unfold xDo f42_154
  rw [hts, u1, q_eq (x := 0) (k := 0) rfl T.1 (by decide)]
  show KR _ _ (if t.1 = 0 then _ else _) _
  by_cases c0 : t.1 = 0
  · rw [if_pos c0, if_pos c0, hK.1]
    cases ag with
    | false =>
      rw [if_pos (show eb false = 0 from rfl), if_neg (show ¬ false = true by decide)]
      have C := k_chk hj hK R J.2.1 hpl1
      cases hc : sChk (sFrm j) (sEnd P) (P.2.2.1.length + P.2.2.2.length) pl q with
      | some p => exact ⟨s1, by rw [C.1 p hc]; rfl, LI_DL hL⟩
      | none =>
        have C1 := C.2 hc
        obtain ⟨C2, C3, _⟩ := sChk_none hc
        have hz := k_sz hj hK R C2
        have hlen : (List.replicate (sSz (sFrm j) (sEnd P) q) (0 : Int32)).length = sSz (sFrm j) (sEnd P) q := List.length_replicate ..
        rw [← hlen] at hz
        obtain ⟨s2, p1, p2, p3⟩ := k_101 (P.1 ++ oSy q.2.2.1) hj hK hz (by rw [hlen]; unfold sEnd at *; split at C3 <;> split <;> omega)
        refine ⟨s2, ?_, ⟨Ls', ?_⟩, p3, ?_, fun h => (by cases h)⟩
        · rw [C1]
          show (f101 s1 (400 + j)).bind _ = _
          rw [p1]; rfl
        · have e1 : ∀ bs, (sSec j (sAdd (P.1 ++ oSy q.2.2.1, P.2) bs)).1 = P.1 ++ oSy q.2.2.1 := by
            intro bs
            unfold sSec sAdd
            split <;> split <;> rfl
          rw [e1]
          exact LI_cf (by decide) p2 hL
        · have e1 : ∀ bs, (sSec j (sAdd (P.1 ++ oSy q.2.2.1, P.2) bs)).1 = P.1 ++ oSy q.2.2.1 := by
            intro bs
            unfold sSec sAdd
            split <;> split <;> rfl
          rw [e1, p2.1 16 9 (by decide), g9, h9, ent_o hx]
    | true =>
      obtain ⟨hG, hroom⟩ := hr rfl
      have hn : q.2.2.1 = none := hx.2.1 rfl
      have hL' : LI s0 k L a z tl Ls' T0 B P.1 ln base s1 := by
        rw [hn] at hL
        rw [show oSy none = [] from rfl, List.append_nil] at hL
        exact hL
      rw [if_neg (show ¬ eb true = 0 by decide), if_pos rfl]
      have C := k_92 (pl := pl) (here := sHere P base) hj ⟨hL', hK, J, WF_refl _ _ _⟩ R (g17.trans h17) hpl1 hx.1 hroom
      by_cases cb : sBad (sFrm j) (sHere P base) q.1 = true
      · rw [if_pos cb]
        exact ⟨s1, by rw [C.1 cb]; rfl, LI_DL hL⟩
      · rw [if_neg cb]
        obtain ⟨s2, p1, p2, p3, p4, p5, p6⟩ := C.2 cb
        have hlen := sByt_len (q := q) hj (sHere P base) (sEnd P)
        have fk : ∀ i j, ¬ (i, j) ∈ [(16, 15)] → s2.1 i j = s1.1 i j := p5.1
        have R2 : RDO s2 j q := ⟨⟨(fk 16 11 (by decide)).trans O.1, (fk 16 12 (by decide)).trans O.2.1, (fk 16 13 (by decide)).trans O.2.2.1, (fk 16 14 (by decide)).trans O.2.2.2⟩, fun h => by rw [p6 h]; exact J.1, (fk 17 3 (by decide)).trans u4⟩
        have hz := k_sz hj p3 R2 hG
        rw [← hlen] at hz
        have htt := (p4.2.2.2.2.2.1)
        have htt2 := (p4.2.2.2.2.2.2.1)
        obtain ⟨s3, r1, r2, r3⟩ := k_101 P.1 hj p3 hz (by rw [hlen]; split at hroom <;> omega)
        have e1 : ∀ bs, (sSec j (sAdd P bs)).1 = P.1 ∧ (sSec j (sAdd P bs)).2.2 = (sAdd P bs).2.2 := by
            intro bs
            unfold sSec sAdd
            split <;> split <;> exact ⟨rfl, rfl⟩
        refine ⟨s3, ?_, ⟨Ls', ?_⟩, r3, ?_, fun _ => ?_⟩
        · rw [p1]
          show (f101 s2 (400 + j)).bind _ = _
          rw [r1]; rfl
        · rw [(e1 _).1]; exact LI_cf (by decide) r2 p2
        · rw [(e1 _).1, r2.1 16 9 (by decide), fk 16 9 (by decide), g9, h9]
        · rw [(e1 _).2]; exact IMG_cf (by decide) r2 p4
  · rw [if_neg c0, if_neg c0, u2]
    exact ⟨s1, rfl, LI_DL hL⟩
/-- the room of a line, the second time -/
def LRM2 (B : Nat → Nat) (z : Nat) (ag : Bool) (base : Int32) (ln : Nat) (ts : List Tk) (P : Ps) (tt dd : Nat) : Prop := ag = true → ∀ t r tb' j, xLab B ag P.2.1 (nn (sEnd P)) ln ts P.1 = .inl (t :: r, tb') → stOf (tname B t) = some j → ¬ t.1 = 0 → SRM B z base ln j r (tb', P.2) tt dd
theorem xLab_len {sec : Nat} {off : Int32} : ∀ (n : Nat) (ts : List Tk) (tb : List Sy) (l : List Tk × List Sy), ts.length ≤ n → xLab B ag sec off ln ts tb = .inl l → l.2.length + l.1.length ≤ tb.length + ts.length := by
  intro n
  induction n with
  | zero =>
    intro ts tb l hn h
    cases ts with
    | nil => cases h; exact Nat.le_refl _
    | cons t r => simp at hn
  | succ n ih =>
    intro ts tb l hn h
    cases ts with
    | nil => cases h; exact Nat.le_refl _
    | cons t r =>
      cases r with
      | nil => cases h; exact Nat.le_refl _
      | cons t2 r =>
        simp only [List.length_cons] at hn ⊢
        rw [xLab_two] at h
        by_cases c : t.1 = 1 ∧ t.2.2.2.2 = none ∧ t2.1 = 58
        · rw [if_pos c] at h
          by_cases c1 : ag = true
          · rw [if_pos c1] at h
            have := ih r tb l (by omega) h
            omega
          · rw [if_neg c1] at h
            by_cases c2 : isNew B tb t = true
            · rw [if_pos c2] at h
              have := ih r _ l (by omega) h
              rw [List.length_append, List.length_singleton] at this
              omega
            · rw [if_neg c2] at h; cases h
        · rw [if_neg c] at h
          cases h
          exact Nat.le_refl _
theorem xLab_ag {sec : Nat} {off : Int32} : ∀ (n : Nat) (ts : List Tk) (tb : List Sy) (l : List Tk × List Sy), ts.length ≤ n → xLab B true sec off ln ts tb = .inl l → l.2 = tb := by
  intro n
  induction n with
  | zero =>
    intro ts tb l hn h
    cases ts with
    | nil => cases h; rfl
    | cons t r => simp at hn
  | succ n ih =>
    intro ts tb l hn h
    cases ts with
    | nil => cases h; rfl
    | cons t r =>
      cases r with
      | nil => cases h; rfl
      | cons t2 r =>
        simp only [List.length_cons] at hn
        rw [xLab_two] at h
        by_cases c : t.1 = 1 ∧ t.2.2.2.2 = none ∧ t2.1 = 58
        · rw [if_pos c, if_pos rfl] at h
          exact ih r tb l (by omega) h
        · rw [if_neg c] at h
          cases h
          rfl
theorem k_line {tt dd : Nat} {P : Ps} {s : cS} (hS : STK B z T0) (hL : LI s0 k L a z tl Ls T0 B P.1 ln base s) (hK : KPS s ag P) (h9 : s.1 16 9 = jI (entI B P.1)) (hI : ag = true → IMG s tt dd P.2.2.1 P.2.2.2) (U : CUi s T0 T0 er) (hlt9 : ag = true → P.1.length < 17000) (hmax : P.1.length + (if ag = true then 0 else T0.length) ≤ 17000) (hR : LRM2 B z ag base ln T0 P tt dd) : KR (DL s0 k ln a) (LE s0 k L a z tl T0 B ln base ag tt dd) (xLine B z ag base ln T0 P) (f42 s) := by
  have hT := hL.2.2.2.2.2.2.2.2.2.2.1
  have K0 : KPS s ag ([], P.2) := hK
  have H := k_lab P.2 T0.length T0 P.1 s Ls 0 mm_U (Nat.le_refl _) hL K0 h9 U (by omega) (by show _ < 200000; omega) hmax
  unfold xLine f42
  refine kr_e H ?_
  rintro ⟨l1, l2⟩ s1 hl ⟨Ls1, hL1, hK1, g9, U1, hag⟩
  have hl : xLab B ag P.2.1 (nn (sEnd P)) ln T0 P.1 = .inl (l1, l2) := by
    have := Option.some.inj hl
    exact this
  have hlen := xLab_len T0.length T0 P.1 (l1, l2) (Nat.le_refl _) hl
  simp only at hL1 g9 U1 hlen
  have hI1 : ag = true → IMG s1 tt dd P.2.2.1 P.2.2.2 := fun h => IMG_cf (by decide) (hag h) (hI h)
  have hK2 : KPS s1 ag (l2, P.2) := hK1
  have U2 := U1
  obtain ⟨i, t, r, rfl, g1, _⟩ := U2
  obtain ⟨u1, u2, u3, u4⟩ := CU_hd U1
  have T := (CU_tok hL1 U1).1
  rw [List.length_cons] at hlen
  show KR _ _ (if t.1 = 0 then _ else _) _
  rw [u1, q_eq (x := 0) (k := 0) rfl T.1 (by decide)]
  by_cases c0 : t.1 = 0
  · rw [if_pos c0, if_pos c0]
    exact ⟨s1, rfl, ⟨Ls1, hL1⟩, hK2, g9, hI1⟩
  rw [if_neg c0, if_neg c0]
  have F1 : CF [(16, 10)] s1 (cg s1 16 10 (s1.1 11 4)) := CF_g (CF_refl _ _) (by decide) _
  have hL2 := LI_cf (by decide) F1 hL1
  have U3 := CU_cf F1 (by decide) U1
  refine kr_e (k_expL hL2 U3 (kk := 1) (by decide) (by decide)) ?_
  rintro r1 s2 hx1 ⟨U4, F2⟩
  have hL3 := LI_cf (by decide) F2 hL2
  have ht : t.1 = 1 := by
    unfold xExp at hx1
    by_cases h : t.1 = 1
    · exact h
    · simp only [if_neg h] at hx1; cases hx1
  have hr1 : r1 = r := by
    unfold xExp at hx1
    simp only [if_pos ht] at hx1
    split at hx1
    · cases hx1
    · cases hx1; rfl
  subst hr1
  obtain ⟨n1, n2, n3⟩ := T.2.2.2.1 ht
  have e10 : s2.1 16 10 = nn t.2.1 := (F2.1 16 10 (by decide)).trans u2
  have h65 : f65 s2 (s2.1 16 10) (s1.1 11 5) = some ((stOf (nb B t.2.1 (t.2.2.2.1 - t.2.1))).map (fun j => 400 + j)) := by
    rw [e10, u3, n1]
    exact c_stm hL3.2.1 hL3.2.2.1 n3 (by have := T.2.2.1; have := n3.1; have := hL3.2.1.2.2.2.1; have := hL3.2.1.2.2.2.2.1; omega)
  rw [h65, Option.bind_some]
  show KR _ _ (match stOf (tname B t) with | none => _ | some j => _) _
  have hnm : nb B t.2.1 (t.2.2.2.1 - t.2.1) = tname B t := rfl
  rw [hnm]
  cases hst : stOf (tname B t) with
  | none =>
    show KR _ _ (some (.inr (t.2.1, 3))) (some (.inr (f46 s2 (s2.1 16 10) 3)))
    rw [e10]
    exact ⟨s2, rfl, LI_DL hL3⟩
  | some j =>
    have hj := (stOf_some hst).2
    have hK3 : KPS s2 ag (l2, P.2) := KPS_of (fun j h5 h8 => (F2.1 16 j (by unfold ICU; simp)).trans (F1.1 16 j (by simp; omega))) hK2
    obtain ⟨q1, q2, q3, q4, q5, q6⟩ := k_clr (f := sFrm j) hK3 hL3.2.2.2.2.2.2.1
    have hL4 := LI_cf (by decide) q1 hL3
    have hK4 : KPS (f66 s2 (sFrm j)) ag (l2, P.2) := KPS_of (fun j h5 h8 => q1.1 16 j (by unfold ICL; simp; omega)) hK3
    have hI4 : ag = true → IMG (f66 s2 (sFrm j)) tt dd P.2.2.1 P.2.2.2 := fun h => IMG_cf (by decide) q1 (IMG_cf (by decide) F2 (IMG_cf (by decide) F1 (hI1 h)))
    have J4 : JB (f66 s2 (sFrm j)) ag tt dd (l2, P.2) [] := ⟨q3, by decide, fun h => by rw [sAdd_nil]; exact hI4 h⟩
    have U5 : CU (f66 s2 (sFrm j)) T0 r1 true := by
      obtain ⟨i, t9, r9, h0, h1, h2, h3, h4, h5, h6⟩ := U4
      exact ⟨i, t9, r9, h0, h1, (q1.1 11 3 (by decide)).trans h2, (q1.1 11 4 (by decide)).trans h3, (q1.1 11 5 (by decide)).trans h4, (q1.1 11 15 (by decide)).trans h5, q4⟩
    have hE1 : ∃ E1 : Ev, E1.1 = B ∧ E1.2.2.2.2.2 = 1 ∧ RRM B z ag E1 j r1 (sEnd (l2, P.2)) (if P.2.1 = 0 then tt else dd) := by
      by_cases hag9 : ag = true
      · obtain ⟨E1, x1, x2, x3⟩ := (hR hag9 t r1 l2 j hl hst c0).1
        exact ⟨E1, x1, x2, fun _ => x3 rfl⟩
      · exact ⟨(B, [], 0, 0, 0, 1), rfl, rfl, fun h => absurd h hag9⟩
    obtain ⟨E1, x1, x2, x3⟩ := hE1
    have hl2b : l2.length < 17000 := by
      by_cases hg : ag = true
      · rw [if_pos hg] at hmax
        rw [hg] at hl
        have := xLab_ag T0.length T0 P.1 _ (Nat.le_refl _) hl
        have this : l2 = P.1 := this
        rw [this]
        have hlt : P.1.length < 17000 := hlt9 hg
        exact hlt
      · rw [if_neg hg] at hmax
        omega
    have H2 := k_read (P := (l2, P.2)) (here := sHere (l2, P.2) base) hj hS x1 x2 hL4 q6 q5 hK4 J4 q2 U5 hl2b x3
    have hprog : (if sFrm j = 2 then (tq (f67 (f66 s2 (sFrm j)) (sCod j)) fun r4 => f42_154 r4 (400 + j)) else if sFrm j = 3 then (tq (f85 (f66 s2 (sFrm j)) (sCod j)) fun r4 => f42_154 r4 (400 + j)) else if sFrm j = 6 then (tq (f86 (f66 s2 (sFrm j))) fun r4 => f42_154 r4 (400 + j)) else ((f87 (f66 s2 (sFrm j)) (400 + j)).bind fun r4 => (tq (f89 r4.2 r4.1) fun r5 => f42_154 r5 (400 + j))) : Option (cS ⊕ cS)) = tq (kRead (f66 s2 (sFrm j)) j) fun r4 => f42_154 r4 (400 + j) := by
      unfold kRead
      by_cases c2 : sFrm j = 2
      · rw [if_pos c2, if_pos c2]
      rw [if_neg c2, if_neg c2]
      by_cases c3 : sFrm j = 3
      · rw [if_pos c3, if_pos c3]
      rw [if_neg c3, if_neg c3]
      by_cases c6 : sFrm j = 6
      · rw [if_pos c6, if_pos c6]
      rw [if_neg c6, if_neg c6]
      cases f87 (f66 s2 (sFrm j)) (400 + j) with
      | none => rfl
      | some y => rfl
    show KR _ _ (xStm B z ag base ln j t.2.1 r1 (l2, P.2)) _
    rw [xStm_do, Option.map_some]
    dsimp only
    simp only [if_pos (cE_j hj), en_f, en_c]
    refine Eq.mpr (congrArg (KR _ _ _) hprog) ?_
    refine kr_e H2 ?_
    intro q s5 hq hd
    exact k_154 (P := (l2, P.2)) hj (xRead_x hq) hd ((q1.1 16 9 (by decide)).trans ((F2.1 16 9 (by decide)).trans ((F1.1 16 9 (by decide)).trans g9))) ((q1.1 16 10 (by decide)).trans e10) q5 (fun h => by
      have := (hR h t r1 l2 j hl hst c0).2 q
      rw [h] at hq
      exact this hq)
end KG
