/-! LINES: the second time as the first. -/
section TW
variable {B : Nat → Nat} {z ln : Nat} {tb tbF : List Sy}
/-- a later table: symbols of this line or later lines behind -/
def EXT (tb tbF : List Sy) (ln : Nat) : Prop := ∃ rest, tbF = tb ++ rest ∧ ∀ s ∈ rest, ln ≤ s.2.2.2.2
theorem EXT_trans {t1 t2 : List Sy} {l : Nat} (hl : ln ≤ l) (h1 : EXT tb t1 ln) (h2 : EXT t1 t2 l) : EXT tb t2 ln := by
  obtain ⟨r1, rfl, a⟩ := h1
  obtain ⟨r2, rfl, b⟩ := h2
  refine ⟨r1 ++ r2, by rw [List.append_assoc], fun s hs => ?_⟩
  rcases List.mem_append.mp hs with h | h
  · exact a s h
  · exact Nat.le_trans hl (b s h)
theorem getD_l {l r : List Sy} {i : Nat} (h : i < l.length) : (l ++ r).getD i sy0 = l.getD i sy0 := by
  rw [List.getD_eq_getElem?_getD, List.getD_eq_getElem?_getD, List.getElem?_append, if_pos h]
theorem EXT_agr (h : EXT tb tbF ln) (hd : SDN B tbF) (b1 b2 h1 h2 : Int32) (m1 m2 : Nat) : AGR (B, tb, ln, b1, h1, m1) (B, tbF, ln, b2, h2, m2) := by
  obtain ⟨rest, rfl, hr⟩ := h
  intro w
  show cBf tb ln (sfind B tb w) = cBf (tb ++ rest) ln (sfind B (tb ++ rest) w) ∧ (cBf tb ln (sfind B tb w) = true → sVal tb b1 (sfind B tb w) = sVal (tb ++ rest) b2 (sfind B (tb ++ rest) w))
  have hsyn : ∀ i, i < tb.length → syn B (tb ++ rest) i = syn B tb i := fun i hi => by unfold syn; rw [getD_l hi]
  cases h3 : sfind B tb w with
  | some k =>
    obtain ⟨k1, k2⟩ := lastE_some h3
    have h4 : sfind B (tb ++ rest) w = some k := by
      cases h5 : sfind B (tb ++ rest) w with
      | none => exact absurd ((hsyn k k1).trans k2) (lastE_none h5 k (by rw [List.length_append]; omega))
      | some j =>
        obtain ⟨j1, j2⟩ := lastE_some h5
        rw [hd j k j1 (by rw [List.length_append]; omega) (by rw [j2, hsyn k k1, k2])]
    rw [h4]
    unfold cBf sVal
    simp only [getD_l k1]
    refine ⟨trivial, fun h => ?_⟩
    have h := of_decide_eq_true h
    rw [if_neg (by omega), if_neg (by omega)]
  | none =>
    refine ⟨?_, fun h => by cases h⟩
    cases h5 : sfind B (tb ++ rest) w with
    | none => rfl
    | some j =>
      obtain ⟨j1, j2⟩ := lastE_some h5
      have hj : ¬ j < tb.length := fun hj => lastE_none h3 j hj ((hsyn j hj).symm.trans j2)
      have hm : (tb ++ rest).getD j sy0 ∈ rest := by
        rw [List.getD_eq_getElem?_getD, List.getElem?_append, if_neg hj]
        rw [List.length_append] at j1
        rw [List.getElem?_eq_getElem (by omega)]
        exact List.getElem_mem _
      have := hr _ hm
      show false = decide _
      symm
      apply decide_eq_false
      omega
theorem lab_two {sec : Nat} {off off2 : Int32} : ∀ (n : Nat) (ts : List Tk) (tb : List Sy) (l : List Tk × List Sy), ts.length ≤ n → xLab B false sec off ln ts tb = .inl l → xLab B true sec off2 ln ts tbF = .inl (l.1, tbF) ∧ ∃ labs, l.2 = tb ++ labs ∧ ∀ s ∈ labs, s.2.2.2.2 = ln := by
  intro n
  induction n with
  | zero =>
    intro ts tb l hn h
    cases ts with
    | nil => cases h; exact ⟨rfl, [], by rw [List.append_nil], fun s hs => by cases hs⟩
    | cons t r => simp at hn
  | succ n ih =>
    intro ts tb l hn h
    cases ts with
    | nil => cases h; exact ⟨rfl, [], by rw [List.append_nil], fun s hs => by cases hs⟩
    | cons t r =>
      cases r with
      | nil => cases h; exact ⟨rfl, [], by rw [List.append_nil], fun s hs => by cases hs⟩
      | cons t2 r =>
        simp only [List.length_cons] at hn
        rw [xLab_two] at h ⊢
        by_cases c : t.1 = 1 ∧ t.2.2.2.2 = none ∧ t2.1 = 58
        · rw [if_pos c, if_neg (by decide)] at h
          rw [if_pos c, if_pos rfl]
          by_cases c2 : isNew B tb t = true
          · rw [if_pos c2] at h
            obtain ⟨x1, labs, x2, x3⟩ := ih r _ l (by omega) h
            refine ⟨x1, tsy t sec off ln :: labs, by rw [x2, List.append_assoc]; rfl, fun s hs => ?_⟩
            rcases List.mem_cons.mp hs with h9 | h9
            · rw [h9]; rfl
            · exact x3 s h9
          · rw [if_neg c2] at h; cases h
        · rw [if_neg c] at h ⊢
          cases h
          exact ⟨rfl, [], by rw [List.append_nil], fun s hs => by cases hs⟩
/-- passes that stand at the same place -/
def PEQ (P P2 : Ps) : Prop := P.2.1 = P2.2.1 ∧ P.2.2.1.length = P2.2.2.1.length ∧ P.2.2.2.length = P2.2.2.2.length
theorem PEQ_end {P P2 : Ps} (h : PEQ P P2) : sEnd P = sEnd P2 := by
  obtain ⟨h1, h2, h3⟩ := h
  unfold sEnd
  rw [h1, h2, h3]
theorem PEQ_add {P P2 : Ps} {bs bs2 : List Int32} (h : PEQ P P2) (hb : bs.length = bs2.length) (j : Nat) (t1 t2 : List Sy) : PEQ (sSec j (sAdd (t1, P.2) bs)) (sSec j (sAdd (t2, P2.2) bs2)) := by
  obtain ⟨h1, h2, h3⟩ := h
  unfold sAdd
  by_cases c : P.2.1 = 0
  · rw [if_pos (show ((t1, P.2) : Ps).2.1 = 0 from c), if_pos (show ((t2, P2.2) : Ps).2.1 = 0 from h1.symm.trans c)]
    unfold sSec
    by_cases c1 : sFrm j = 1
    · rw [if_pos c1, if_pos c1]
      exact ⟨rfl, by show (P.2.2.1 ++ bs).length = (P2.2.2.1 ++ bs2).length; rw [List.length_append, List.length_append, h2, hb], h3⟩
    · rw [if_neg c1, if_neg c1]
      exact ⟨h1, by show (P.2.2.1 ++ bs).length = (P2.2.2.1 ++ bs2).length; rw [List.length_append, List.length_append, h2, hb], h3⟩
  · rw [if_neg (show ¬ ((t1, P.2) : Ps).2.1 = 0 from c), if_neg (show ¬ ((t2, P2.2) : Ps).2.1 = 0 from fun h => c (h1.trans h))]
    unfold sSec
    by_cases c1 : sFrm j = 1
    · rw [if_pos c1, if_pos c1]
      exact ⟨rfl, h2, by show (P.2.2.2 ++ bs).length = (P2.2.2.2 ++ bs2).length; rw [List.length_append, List.length_append, h3, hb]⟩
    · rw [if_neg c1, if_neg c1]
      exact ⟨h1, h2, by show (P.2.2.2 ++ bs).length = (P2.2.2.2 ++ bs2).length; rw [List.length_append, List.length_append, h3, hb]⟩
/-- what the first time tells of a statement -/
def WIT (B : Nat → Nat) (z ln : Nat) (tbF : List Sy) (j : Nat) (r : List Tk) (off tot : Nat) : Prop := ∃ tb' here1 q1, EXT tb' tbF ln ∧ xRead B z false tb' ln 0 here1 j r = some (.inl q1) ∧ GAP j q1 ∧ off + sSz (sFrm j) off q1 ≤ tot ∧ (∃ t0 r0, q1.2.2.2 = t0 :: r0 ∧ t0.1 = 0) ∧ (7 ≤ sFrm j → off % 4 = 0)
theorem sSA_len (j : Nat) (P : Ps) (bs : List Int32) : sEnd P + bs.length ≤ (if P.2.1 = 0 then (sSec j (sAdd P bs)).2.2.1.length else (sSec j (sAdd P bs)).2.2.2.length) ∧ P.2.2.1.length ≤ (sSec j (sAdd P bs)).2.2.1.length ∧ P.2.2.2.length ≤ (sSec j (sAdd P bs)).2.2.2.length ∧ (sSec j (sAdd P bs)).2.2.1.length + (sSec j (sAdd P bs)).2.2.2.length = P.2.2.1.length + P.2.2.2.length + bs.length ∧ (sSec j (sAdd P bs)).1 = P.1 := by
  have e : (sSec j (sAdd P bs)).2.2 = (sAdd P bs).2.2 ∧ (sSec j (sAdd P bs)).1 = P.1 := by
    unfold sSec sAdd
    split <;> split <;> exact ⟨rfl, rfl⟩
  rw [e.1, e.2]
  unfold sEnd sAdd
  by_cases c : P.2.1 = 0
  · rw [if_pos c, if_pos c, if_pos c]
    show P.2.2.1.length + bs.length ≤ (P.2.2.1 ++ bs).length ∧ _ ≤ (P.2.2.1 ++ bs).length ∧ P.2.2.2.length ≤ P.2.2.2.length ∧ (P.2.2.1 ++ bs).length + P.2.2.2.length = _ ∧ _
    rw [List.length_append]
    exact ⟨by omega, by omega, by omega, by omega, rfl⟩
  · rw [if_neg c, if_neg c, if_neg c]
    show P.2.2.2.length + bs.length ≤ (P.2.2.2 ++ bs).length ∧ P.2.2.1.length ≤ P.2.2.1.length ∧ _ ≤ (P.2.2.2 ++ bs).length ∧ P.2.2.1.length + (P.2.2.2 ++ bs).length = _ ∧ _
    rw [List.length_append]
    exact ⟨by omega, by omega, by omega, by omega, rfl⟩
/-- the first time, taken apart -/
theorem line_1 {ts : List Tk} {P P' : Ps} (h : xLine B z false 0 ln ts P = some (.inl P')) : ∃ t r tb', xLab B false P.2.1 (nn (sEnd P)) ln ts P.1 = .inl (t :: r, tb') ∧ ((t.1 = 0 ∧ P' = (tb', P.2)) ∨ (¬ t.1 = 0 ∧ xExp 1 (t :: r) = some (.inl r) ∧ ∃ j q, stOf (tname B t) = some j ∧ xRead B z false tb' ln 0 (sHere (tb', P.2) 0) j r = some (.inl q) ∧ (∃ t0 r0, q.2.2.2 = t0 :: r0 ∧ t0.1 = 0) ∧ sChk (sFrm j) (sEnd P) (P.2.2.1.length + P.2.2.2.length) t.2.1 q = none ∧ P' = sSec j (sAdd (tb' ++ oSy q.2.2.1, P.2) (List.replicate (sSz (sFrm j) (sEnd P) q) 0)))) := by
  unfold xLine at h
  obtain ⟨⟨l1, l2⟩, x1, h⟩ := xb_some h
  have x1 : xLab B false P.2.1 (nn (sEnd P)) ln ts P.1 = .inl (l1, l2) := Option.some.inj x1
  cases l1 with
  | nil => cases h
  | cons t r =>
    refine ⟨t, r, l2, x1, ?_⟩
    have h : (if t.1 = 0 then some (.inl (l2, P.2)) else _ : Option (Rx Ps)) = some (.inl P') := h
    by_cases c0 : t.1 = 0
    · rw [if_pos c0] at h
      exact Or.inl ⟨c0, (Sum.inl.inj (Option.some.inj h)).symm⟩
    · rw [if_neg c0] at h
      obtain ⟨r1, x2, h⟩ := xb_some h
      have hr : r1 = r := by
        unfold xExp at x2
        simp only at x2
        split at x2
        · split at x2
          · cases x2
          · cases x2; rfl
        · cases x2
      subst hr
      refine Or.inr ⟨c0, x2, ?_⟩
      cases hst : stOf (tname B t) with
      | none => simp only [hst] at h; cases h
      | some j =>
        simp only [hst] at h
        rw [xStm_do] at h
        obtain ⟨q, x3, h⟩ := xb_some h
        refine ⟨j, q, rfl, x3, ?_⟩
        unfold xDo at h
        cases hq : q.2.2.2 with
        | nil => rw [hq] at h; cases h
        | cons t0 r0 =>
          rw [hq] at h
          have h : (if t0.1 = 0 then _ else _ : Option (Rx Ps)) = some (.inl P') := h
          by_cases c : t0.1 = 0
          · rw [if_pos c, if_neg (show ¬ false = true by decide)] at h
            refine ⟨⟨t0, r0, rfl, c⟩, ?_⟩
            cases hc : sChk (sFrm j) (sEnd (l2, P.2)) (P.2.2.1.length + P.2.2.2.length) t.2.1 q with
            | some p => simp only [hc] at h; cases h
            | none =>
              simp only [hc] at h
              exact ⟨hc, (Sum.inl.inj (Option.some.inj h)).symm⟩
          · rw [if_neg c] at h; cases h
/-- a constant's line -/
theorem equ_ln {j : Nat} {here : Int32} {r : List Tk} {q : Rd} {y : Sy} {base : Int32} {ag : Bool} (hrd : xRead B z ag tb ln base here j r = some (.inl q)) (hq : q.2.2.1 = some y) : y.2.2.2.2 = ln := by
  unfold xRead at hrd
  by_cases c2 : sFrm j = 2
  · rw [if_pos c2] at hrd
    obtain ⟨x, _, h2⟩ := xb_some hrd
    have h2 := Sum.inl.inj (Option.some.inj h2)
    rw [← h2] at hq; cases hq
  rw [if_neg c2] at hrd
  by_cases c3 : sFrm j = 3
  · rw [if_pos c3] at hrd
    cases r with
    | nil => cases hrd
    | cons t r =>
      obtain ⟨x, _, h2⟩ := xb_some hrd
      have h2 := Sum.inl.inj (Option.some.inj h2)
      rw [← h2] at hq; cases hq
  rw [if_neg c3] at hrd
  by_cases c6 : sFrm j = 6
  · rw [if_pos c6] at hrd
    cases r with
    | nil => cases hrd
    | cons t r =>
      unfold xEqu at hrd
      obtain ⟨x, _, h2⟩ := xb_some hrd
      by_cases c : ag = false ∧ isNew B tb t = false
      · rw [if_pos c] at h2; cases h2
      · rw [if_neg c] at h2
        obtain ⟨x3, _, h3⟩ := xb_some h2
        obtain ⟨x4, _, h4⟩ := xb_some h3
        have h4 := Sum.inl.inj (Option.some.inj h4)
        rw [← h4] at hq
        have hq : (if ag = true then none else some (tsy t 2 x4.1 ln)) = some y := hq
        split at hq
        · cases hq
        · rw [← Option.some.inj hq]; rfl
  rw [if_neg c6] at hrd
  obtain ⟨x, _, h2⟩ := xb_some hrd
  have h2 := Sum.inl.inj (Option.some.inj h2)
  rw [← h2] at hq; cases hq
/-- what a line does to a pass, the first time -/
theorem line_grow {ts : List Tk} {P P' : Ps} (h : xLine B z false 0 ln ts P = some (.inl P')) (ht : P.2.2.1.length + P.2.2.2.length ≤ 65420) : EXT P.1 P'.1 ln ∧ (∀ s ∈ P'.1, s ∈ P.1 ∨ s.2.2.2.2 = ln) ∧ P.2.2.1.length ≤ P'.2.2.1.length ∧ P.2.2.2.length ≤ P'.2.2.2.length ∧ P'.2.2.1.length + P'.2.2.2.length ≤ 65420 ∧ P'.1.length + 1 ≤ P.1.length + ts.length := by
  obtain ⟨t, r, tb', x1, x2⟩ := line_1 h
  obtain ⟨_, labs, y1, y2⟩ := lab_two (tbF := []) (off2 := 0) ts.length ts P.1 _ (Nat.le_refl _) x1
  have hlen := xLab_len ts.length ts P.1 _ (Nat.le_refl _) x1
  simp only at y1 hlen
  rw [List.length_cons] at hlen
  rcases x2 with ⟨c0, rfl⟩ | ⟨c0, xe, j, q, hst, hrd, hend, hc, rfl⟩
  · refine ⟨⟨labs, y1, fun s hs => Nat.le_of_eq (y2 s hs).symm⟩, fun s hs => ?_, Nat.le_refl _, Nat.le_refl _, ht, by show tb'.length + 1 ≤ _; omega⟩
    have hs : s ∈ tb' := hs
    rw [y1] at hs
    rcases List.mem_append.mp hs with h | h
    · exact Or.inl h
    · exact Or.inr (y2 s h)
  · have hx := xRead_x hrd
    obtain ⟨_, s2, s3, s4, s5⟩ := sSA_len j (tb' ++ oSy q.2.2.1, P.2) (List.replicate (sSz (sFrm j) (sEnd P) q) 0)
    have hck := sChk_none hc
    rw [List.length_replicate] at s4
    have ho : ∀ s ∈ oSy q.2.2.1, s.2.2.2.2 = ln := by
      intro s hs
      cases hq : q.2.2.1 with
      | none => rw [hq] at hs; cases hs
      | some y =>
        rw [hq] at hs
        have hs : s = y := by simpa [oSy] using hs
        subst hs
        exact equ_ln hrd hq
    refine ⟨⟨labs ++ oSy q.2.2.1, ?_, fun s hs => ?_⟩, fun s hs => ?_, s2, s3, ?_, ?_⟩
    · rw [s5]
      show tb' ++ _ = _
      rw [y1, List.append_assoc]
    · rcases List.mem_append.mp hs with h | h
      · exact Nat.le_of_eq (y2 s h).symm
      · exact Nat.le_of_eq (ho s h).symm
    · rw [s5] at hs
      have hs : s ∈ tb' ++ oSy q.2.2.1 := hs
      rcases List.mem_append.mp hs with h | h
      · rw [y1] at h
        rcases List.mem_append.mp h with h | h
        · exact Or.inl h
        · exact Or.inr (y2 s h)
      · exact Or.inr (ho s h)
    · rw [s4]; exact hck.2.1
    · rw [s5]
      show (tb' ++ oSy q.2.2.1).length + 1 ≤ _
      rw [List.length_append]
      have h1 : (oSy q.2.2.1).length ≤ 1 := by
        cases q.2.2.1 with
        | none => exact Nat.zero_le _
        | some y => exact Nat.le_refl _
      have h2 : 1 ≤ r.length := by
        cases r with
        | nil =>
          -- the reading wants a token
          exfalso
          have hx1 := xe
          unfold xRead at hrd
          by_cases c2 : sFrm j = 2
          · rw [if_pos c2] at hrd
            obtain ⟨x, h3, _⟩ := xb_some hrd
            rw [List.length_nil, xLst] at h3
            obtain ⟨x, h3, _⟩ := xb_some h3
            unfold xX at h3
            rw [xE] at h3
            obtain ⟨x, h3, _⟩ := xb_some h3
            unfold xOpd at h3
            obtain ⟨x, h3, _⟩ := xb_some h3
            cases h3
          rw [if_neg c2] at hrd
          by_cases c3 : sFrm j = 3
          · rw [if_pos c3] at hrd; cases hrd
          rw [if_neg c3] at hrd
          by_cases c6 : sFrm j = 6
          · rw [if_pos c6] at hrd; cases hrd
          rw [if_neg c6] at hrd
          obtain ⟨⟨o9, r9⟩, h3, h4⟩ := xb_some hrd
          have h4 := Sum.inl.inj (Option.some.inj h4)
          obtain ⟨t0, r0, e0, _⟩ := hend
          rw [← h4] at e0
          have e0 : r9 = t0 :: r0 := e0
          subst e0
          have key : ∀ (E : Ev) (ps : List Int32) (o o9 : Op) (t0 : Tk) (r0 : List Tk), ¬ xOps E ps o [] = some (.inl (o9, t0 :: r0)) := by
            intro E ps
            induction ps with
            | nil => intro o o9 t0 r0 h; cases h
            | cons p ps ih =>
              intro o o9 t0 r0 h
              rw [xOps] at h
              by_cases d1 : p = 97
              · rw [if_pos d1] at h; cases h
              rw [if_neg d1] at h
              by_cases d2 : p = 98
              · rw [if_pos d2] at h; cases h
              rw [if_neg d2] at h
              by_cases d3 : p = 100
              · rw [if_pos d3] at h; cases h
              rw [if_neg d3] at h
              by_cases d4 : p = 101
              · rw [if_pos d4] at h
                by_cases d5 : alone E.1 ps [] = true
                · exfalso
                  unfold alone at d5
                  cases ps <;> cases d5
                · rw [if_neg d5] at h
                  obtain ⟨x, h3, _⟩ := xb_some h
                  unfold xX at h3
                  rw [xE] at h3
                  obtain ⟨x, h3, _⟩ := xb_some h3
                  unfold xOpd at h3
                  obtain ⟨x, h3, _⟩ := xb_some h3
                  cases h3
              rw [if_neg d4] at h
              by_cases d6 : p = 110
              · rw [if_pos d6] at h; cases h
              rw [if_neg d6] at h
              cases h
          exact key _ _ _ _ _ _ h3
        | cons _ _ => rw [List.length_cons]; omega
      omega
theorem WIT_srm {j : Nat} {r : List Tk} {P2 : Ps} {tt dd : Nat} {base : Int32} (hd : SDN B P2.1) (W : WIT B z ln P2.1 j r (sEnd P2) (if P2.2.1 = 0 then tt else dd)) : SRM B z base ln j r P2 tt dd := by
  obtain ⟨tb', here1, q1, w1, w2, w3, w4, w5, w6⟩ := W
  have ha := EXT_agr w1 hd 0 base here1 (sHere P2 base) 1 1
  have hR := rr_read (z := z) (j := j) (ts := r) ha
  rw [w2] at hR
  refine ⟨⟨(B, tb', ln, 0, here1, 1), rfl, rfl, fun _ => ⟨fun c2 => ?_, fun c3 t r9 e9 h3 => ?_⟩⟩, fun q hq => ?_⟩
  · have hs : sSz (sFrm j) (sEnd P2) q1 = q1.2.1.length := by
      unfold sSz
      rw [c2, if_neg (by decide), if_pos (by decide)]
    unfold xRead at w2
    rw [if_pos c2, show eMode false (sFrm j) = 1 by rw [c2]; rfl] at w2
    obtain ⟨x, x1, x2⟩ := xb_some w2
    refine ⟨true, x, x1, ?_⟩
    have x2 := Sum.inl.inj (Option.some.inj x2)
    rw [hs, ← x2] at w4
    exact w4
  · have hs : sSz (sFrm j) (sEnd P2) q1 = q1.2.1.length := by
      unfold sSz
      rw [c3, if_neg (by decide), if_pos (by decide)]
    unfold xRead at w2
    rw [if_neg (show ¬ sFrm j = 2 by rw [c3]; decide), if_pos c3, e9] at w2
    unfold xStr at w2
    obtain ⟨x, x1, x2⟩ := xb_some w2
    have x2 := Sum.inl.inj (Option.some.inj x2)
    rw [hs, ← x2] at w4
    have w4 : sEnd P2 + ((strL B z (z - t.2.1) (t.2.1 + 1)).map nn ++ List.replicate (sCod j).toNatClampNeg 0).length ≤ _ := w4
    rw [List.length_append, List.length_map, List.length_replicate] at w4
    omega
  · rw [hq] at hR
    rcases hR with ⟨q2, e2, hq2⟩ | ⟨_, p, e2, _⟩
    · have e2 := Sum.inl.inj (Option.some.inj e2)
      subst e2
      exact ⟨RQ_gap hq2 w3, by rw [← RQ_sz hq2]; exact w4⟩
    · cases e2
/-- a line, the second time -/
theorem line_2 {ts : List Tk} {P P' P2 : Ps} {tt dd : Nat} {base : Int32} (h : xLine B z false 0 ln ts P = some (.inl P')) (hE : EXT P'.1 P2.1 ln) (hd : SDN B P2.1) (hq : PEQ P P2) (h1 : P'.2.2.1.length ≤ tt) (h2 : P'.2.2.2.length ≤ dd) : (∀ t r j, xLab B true P2.2.1 (nn (sEnd P2)) ln ts P2.1 = .inl (t :: r, P2.1) → stOf (tname B t) = some j → ¬ t.1 = 0 → WIT B z ln P2.1 j r (sEnd P2) (if P2.2.1 = 0 then tt else dd)) ∧ (∃ l, xLab B true P2.2.1 (nn (sEnd P2)) ln ts P2.1 = .inl (l, P2.1)) ∧ ∀ P2', xLine B z true base ln ts P2 = some (.inl P2') → PEQ P' P2' ∧ P2'.1 = P2.1 := by
  obtain ⟨t, r, tb', x1, x2⟩ := line_1 h
  obtain ⟨y0, labs, y1, y2⟩ := lab_two (tbF := P2.1) (off2 := nn (sEnd P2)) ts.length ts P.1 _ (Nat.le_refl _) x1
  rw [hq.1] at y0
  simp only at y0 y1
  have he := PEQ_end hq
  have hW : ∀ j q, xRead B z false tb' ln 0 (sHere (tb', P.2) 0) j r = some (.inl q) → (∃ t0 r0, q.2.2.2 = t0 :: r0 ∧ t0.1 = 0) → sChk (sFrm j) (sEnd P) (P.2.2.1.length + P.2.2.2.length) t.2.1 q = none → P' = sSec j (sAdd (tb' ++ oSy q.2.2.1, P.2) (List.replicate (sSz (sFrm j) (sEnd P) q) 0)) → WIT B z ln P2.1 j r (sEnd P2) (if P2.2.1 = 0 then tt else dd) := by
    intro j q hrd hend hc hP
    obtain ⟨s1, s2, s3, s4, s5⟩ := sSA_len j (tb' ++ oSy q.2.2.1, P.2) (List.replicate (sSz (sFrm j) (sEnd P) q) 0)
    have hck := sChk_none hc
    rw [← hP, List.length_replicate] at s1
    rw [← hP] at s5
    have s5 : P'.1 = tb' ++ oSy q.2.2.1 := s5
    have s1 : sEnd P + sSz (sFrm j) (sEnd P) q ≤ if P.2.1 = 0 then P'.2.2.1.length else P'.2.2.2.length := s1
    refine ⟨tb', sHere (tb', P.2) 0, q, ?_, hrd, hck.1, ?_, hend, by rw [← he]; exact hck.2.2⟩
    · obtain ⟨rest, e1, e2⟩ := hE
      rw [s5, List.append_assoc] at e1
      refine ⟨_, e1, fun s hs => ?_⟩
      rcases List.mem_append.mp hs with h9 | h9
      · cases hq9 : q.2.2.1 with
        | none => rw [hq9] at h9; cases h9
        | some y =>
          rw [hq9] at h9
          have h9 : s = y := by simpa [oSy] using h9
          subst h9
          exact Nat.le_of_eq (equ_ln hrd hq9).symm
      · exact e2 s h9
    · rw [← he, ← hq.1]
      split
      · rename_i c; rw [if_pos c] at s1; omega
      · rename_i c; rw [if_neg c] at s1; omega
  refine ⟨?_, ⟨t :: r, y0⟩, ?_⟩
  · intro t9 r9 j9 h9 hst hne
    rw [y0] at h9
    have h9 := (Prod.mk.inj (Sum.inl.inj h9)).1
    obtain ⟨rfl, rfl⟩ := List.cons.inj h9
    rcases x2 with ⟨c0, _⟩ | ⟨c0, xe, j, q, hst2, hrd, hend, hc, hP⟩
    · exact absurd c0 hne
    · rw [hst] at hst2
      cases hst2
      exact hW j9 q hrd hend hc hP
  · intro P2' h2'
    unfold xLine at h2'
    rw [y0] at h2'
    have h2' : (if t.1 = 0 then some (.inl P2) else xb (xExp 1 (t :: r)) fun r => match stOf (tname B t) with
      | none => some (.inr (t.2.1, 3))
      | some j => xStm B z true base ln j t.2.1 r P2) = some (.inl P2') := h2'
    rcases x2 with ⟨c0, rfl⟩ | ⟨c0, xe, j, q, hst2, hrd, hend, hc, hP⟩
    · rw [if_pos c0] at h2'
      have h2' := Sum.inl.inj (Option.some.inj h2')
      subst h2'
      exact ⟨hq, rfl⟩
    · have hj := (stOf_some hst2).2
      rw [if_neg c0, xe] at h2'
      have h2' : (match stOf (tname B t) with
        | none => some (.inr (t.2.1, 3))
        | some j => xStm B z true base ln j t.2.1 r P2) = some (.inl P2') := h2'
      rw [hst2] at h2'
      have h2' : xStm B z true base ln j t.2.1 r P2 = some (.inl P2') := h2'
      rw [xStm_do] at h2'
      obtain ⟨q2, x3, h2'⟩ := xb_some h2'
      obtain ⟨tb9, here9, q9, w1, w2, w3, w4, w5, w6⟩ := hW j q hrd hend hc hP
      have hE' : EXT tb' P2.1 ln := by
        obtain ⟨s1, s2, s3, s4, s5⟩ := sSA_len j (tb' ++ oSy q.2.2.1, P.2) (List.replicate (sSz (sFrm j) (sEnd P) q) 0)
        rw [← hP] at s5
        have s5 : P'.1 = tb' ++ oSy q.2.2.1 := s5
        obtain ⟨rest, e1, e2⟩ := hE
        rw [s5, List.append_assoc] at e1
        refine ⟨_, e1, fun s hs => ?_⟩
        rcases List.mem_append.mp hs with h9 | h9
        · cases hq9 : q.2.2.1 with
          | none => rw [hq9] at h9; cases h9
          | some y =>
            rw [hq9] at h9
            have h9 : s = y := by simpa [oSy] using h9
            subst h9
            exact Nat.le_of_eq (equ_ln hrd hq9).symm
        · exact e2 s h9
      have hR := rr_read (z := z) (j := j) (ts := r) (EXT_agr hE' hd 0 base (sHere (tb', P.2) 0) (sHere P2 base) 1 1)
      rw [hrd, x3] at hR
      have hRQ : RQ j q q2 := by
        rcases hR with ⟨q3, e2, hq2⟩ | ⟨_, p, e2, _⟩
        · have e2 := Sum.inl.inj (Option.some.inj e2)
          subst e2
          exact hq2
        · cases e2
      unfold xDo at h2'
      cases hq3 : q2.2.2.2 with
      | nil => rw [hq3] at h2'; cases h2'
      | cons t0 r0 =>
        rw [hq3] at h2'
        have h2' : (if t0.1 = 0 then _ else _ : Option (Rx Ps)) = some (.inl P2') := h2'
        by_cases c : t0.1 = 0
        · rw [if_pos c, if_pos rfl] at h2'
          by_cases cb : sBad (sFrm j) (sHere P2 base) q2.1 = true
          · rw [if_pos cb] at h2'; cases h2'
          · rw [if_neg cb] at h2'
            have h2' := Sum.inl.inj (Option.some.inj h2')
            subst h2'
            refine ⟨?_, (sSA_len j P2 _).2.2.2.2⟩
            rw [hP]
            refine PEQ_add hq ?_ j _ P2.1
            rw [List.length_replicate, sByt_len hj, RQ_sz hRQ, he]
        · rw [if_neg c] at h2'; cases h2'
end TW
