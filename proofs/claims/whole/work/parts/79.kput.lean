/-! THE CLASS puts an instruction; goes on; a line. -/
theorem gz (l : List Int32) (n i : Nat) : (l ++ List.replicate n 0).getD i 0 = l.getD i 0 := by
  rw [getD_app]
  by_cases h : i < l.length
  · rw [if_pos h]
  · rw [if_neg h, gD_out (l := l) (by omega), List.getD_eq_getElem?_getD, List.getElem?_replicate]
    split <;> rfl
theorem IMG_z {s : cS} {tt dd : Nat} {P : Ps} {n : Nat} (h : IMG s tt dd P.2.2.1 P.2.2.2) (hr : sEnd P + n ≤ if P.2.1 = 0 then tt else dd) : IMG s tt dd (sAdd P (List.replicate n 0)).2.2.1 (sAdd P (List.replicate n 0)).2.2.2 := by
  obtain ⟨i1, i2, i3, i4, i5, i6, i7, i8, i9, i10, i11, i12⟩ := h
  unfold sAdd
  unfold sEnd at hr
  by_cases c : P.2.1 = 0
  · rw [if_pos c] at hr ⊢
    rw [if_pos c] at hr
    exact ⟨i1, i2, i3, i4, i5, i6, i7, by show (P.2.2.1 ++ _).length ≤ _; rw [List.length_append, List.length_replicate]; exact hr, i9, fun o ho => by rw [i10 o ho]; exact (gz _ _ _).symm, i11, i12⟩
  · rw [if_neg c] at hr ⊢
    rw [if_neg c] at hr
    exact ⟨i1, i2, i3, i4, i5, i6, i7, i8, by show (P.2.2.2 ++ _).length ≤ _; rw [List.length_append, List.length_replicate]; exact hr, i10, fun o ho => by rw [i11 o ho]; exact (gz _ _ _).symm, i12⟩
theorem sAdd_nil (P : Ps) : sAdd P [] = P := by
  unfold sAdd
  split <;> rw [List.append_nil]
theorem IMG_cf {I : List (Nat × Nat)} {s s' : cS} {tt dd : Nat} {mt md : List Int32} (hI : OKI I) (F : CF I s s') (h : IMG s tt dd mt md) : IMG s' tt dd mt md := by
  have hc : ∀ j, s'.1 (s.2.1 16 1) j = s.1 (s.2.1 16 1) j := by
    intro j
    refine F.1 _ _ (fun hh => ?_)
    have := hI _ hh
    rcases h.1 with q | q
    · exact this.2.1 q
    · exact this.2.2.1 q
  unfold IMG at h ⊢
  unfold cA cl at h ⊢
  rw [F.2, hc 1, hc 2, hc 0]
  exact h
theorem f93_at {s : cS} {pl : Nat} (hpl : s.1 16 10 = nn pl) (x lo hi : Int32) : f93 s x lo hi = if x < lo ∨ hi < x then some (.inr (f46 s (nn pl) (nn 10))) else some (.inl s) := by
  unfold f93 f93_10
  rw [hpl]
  by_cases c1 : x < lo
  · rw [if_pos c1, if_pos (Or.inl c1)]; rfl
  · rw [if_neg c1]
    by_cases c2 : hi < x
    · rw [if_neg (Int32.not_le.mpr c2), if_pos (Or.inr c2)]; rfl
    · rw [if_pos (Int32.not_lt.mp c2), if_neg (fun h => h.elim c1 c2)]
theorem f94_at {s : cS} {pl : Nat} (hpl : s.1 16 10 = nn pl) (x m : Int32) : f94 s x m = if ¬ x &&& 1 = 0 ∨ x < -m ∨ m ≤ x then some (.inr (f46 s (nn pl) (nn 10))) else some (.inl s) := by
  unfold f94 f94_17
  rw [hpl]
  by_cases c0 : x &&& 1 = 0
  · rw [if_pos c0]
    by_cases c1 : x < -m
    · rw [if_pos c1, if_pos (Or.inr (Or.inl c1))]; rfl
    · rw [if_neg c1]
      by_cases c2 : m ≤ x
      · rw [if_neg (Int32.not_lt.mpr c2), if_pos (Or.inr (Or.inr c2))]; rfl
      · rw [if_pos (Int32.not_le.mp c2), if_neg (fun h => h.elim (fun h => h c0) (fun h => h.elim c1 c2))]
  · rw [if_neg c0, if_pos (Or.inl c0)]; rfl
section KF
variable {s0 : cS} {k L a z tl Ls ln : Nat} {T0 : List Tk} {B : Nat → Nat} {tb : List Sy} {base : Int32} {e ag : Bool}
theorem k_one {tt dd : Nat} {P : Ps} {s : cS} (h : PT s0 k L a z tl Ls T0 B tb ln base true tt dd P s [] s) (v : Int32) (hr : sEnd P + 4 ≤ if P.2.1 = 0 then tt else dd) : ∃ s', ((f82 s v 4).bind fun r => some (.inl r) : Option (cS ⊕ cS)) = some (.inl s') ∧ PT s0 k L a z tl Ls T0 B tb ln base true tt dd P s (le v 4 0) s' := by
  obtain ⟨s2, p1, p2⟩ := pt_put h v (w := 4) (by decide) (by decide) (fun _ => by simpa using hr)
  exact ⟨s2, by rw [show f82 s v 4 = some s2 from p1]; rfl, p2⟩
theorem k_far {tt dd : Nat} {P : Ps} {s : cS} {q : Rd} {j : Nat} (h : PT s0 k L a z tl Ls T0 B tb ln base true tt dd P s [] s) (R : RDO s j q) (hr : sEnd P + 8 ≤ if P.2.1 = 0 then tt else dd) : ∃ s', ((f97 s).bind fun r => some (.inl r) : Option (cS ⊕ cS)) = some (.inl s') ∧ PT s0 k L a z tl Ls T0 B tb ln base true tt dd P s (sFar q.1) s' := by
  obtain ⟨⟨o1, o2, o3, o4⟩, _, _⟩ := R
  obtain ⟨s2, p1, p2⟩ := pt_put h ((sCod 48 ||| (q.1.1 <<< ((7 : Int32) &&& 31))) ||| ((f77 q.1.2.2.2.1) <<< ((12 : Int32) &&& 31))) (w := 4) (by decide) (by decide) (fun _ => by show sEnd P + 0 + 4 ≤ _; omega)
  rw [List.nil_append] at p2
  obtain ⟨s3, r1, r2⟩ := pt_put p2 (((sCod 12 ||| (q.1.1 <<< ((7 : Int32) &&& 31))) ||| (q.1.1 <<< ((15 : Int32) &&& 31))) ||| ((f78 q.1.2.2.2.1) <<< ((20 : Int32) &&& 31))) (w := 4) (by decide) (by rw [le_len]; omega) (fun _ => by rw [le_len]; omega)
  have e1 : s2.1 16 11 = q.1.1 := (p2.2.2.2.1 16 11 (by decide)).trans o1
  have e4 : s2.1 16 14 = q.1.2.2.2.1 := (p2.2.2.2.1 16 14 (by decide)).trans o4
  refine ⟨s3, ?_, r2⟩
  have c48 : (en 448).2.2.2 = sCod 48 := rfl
  have c12 : (en 412).2.2.2 = sCod 12 := rfl
  unfold f97
  rw [c48, c12, o1, o4, show f82 s _ 4 = some s2 from p1, Option.bind_some, e1, e4, show f82 s2 _ 4 = some s3 from r1]
  rfl
/-- behind putting -/
def D92 (s0 : cS) (k L a z tl Ls : Nat) (T0 : List Tk) (B : Nat → Nat) (tb : List Sy) (ln : Nat) (base : Int32) (tt dd : Nat) (P : Ps) (s : cS) (j : Nat) (bs : List Int32) (s' : cS) : Prop := LI s0 k L a z tl Ls T0 B tb ln base s' ∧ KPS s' true P ∧ IMG s' tt dd (sAdd P bs).2.2.1 (sAdd P bs).2.2.2 ∧ WF [(16, 15)] [s.2.1 (s.2.1 16 1) 4] s s' ∧ (sFrm j = 2 ∨ sFrm j = 3 → s' = s)
theorem PT_92 {tt dd j : Nat} {P : Ps} {s s' : cS} {bs : List Int32} (h : PT s0 k L a z tl Ls T0 B tb ln base true tt dd P s bs s') (hj : ¬ (sFrm j = 2 ∨ sFrm j = 3)) : D92 s0 k L a z tl Ls T0 B tb ln base tt dd P s j bs s' := ⟨h.1, h.2.1, h.2.2.1.2.2 rfl, h.2.2.2, fun h9 => absurd h9 hj⟩
theorem k_92 {tt dd : Nat} {P : Ps} {s : cS} {q : Rd} {j pl : Nat} {here : Int32} (hj : j < 83) (h : PT s0 k L a z tl Ls T0 B tb ln base true tt dd P s q.2.1 s) (R : RDO s j q) (h17 : s.1 17 1 = here) (hpl : s.1 16 10 = nn pl) (hbs : ¬ (sFrm j = 2 ∨ sFrm j = 3) → q.2.1 = []) (hr : sEnd P + sSz (sFrm j) (sEnd P) q ≤ if P.2.1 = 0 then tt else dd) : (sBad (sFrm j) here q.1 = true → f92 s (400 + j) = some (.inr (f46 s (nn pl) (nn 10)))) ∧ (¬ sBad (sFrm j) here q.1 = true → ∃ s', f92 s (400 + j) = some (.inl s') ∧ D92 s0 k L a z tl Ls T0 B tb ln base tt dd P s j (sByt (sFrm j) (sCod j) here (sEnd P) q) s') := by
  have h98 := f98_at R
  have R0 := R
  obtain ⟨⟨o1, o2, o3, o4⟩, r2, r3⟩ := R0
  obtain ⟨f1, f2, _⟩ := frm_ok j hj
  generalize (sFrm j).toNatClampNeg = n at f1 f2
  have f3 : (en (400 + j)).2.2.1 = nn n := (en_f j).trans f2
  have hk : KPS s true P := h.2.1
  have himg : ¬ (sFrm j = 2 ∨ sFrm j = 3) → IMG s tt dd P.2.2.1 P.2.2.2 := by
    intro h9
    have := h.2.2.1.2.2 rfl
    rw [hbs h9, sAdd_nil] at this
    exact this
  have h0 : ¬ (sFrm j = 2 ∨ sFrm j = 3) → PT s0 k L a z tl Ls T0 B tb ln base true tt dd P s [] s := by
    intro h9
    have := h
    rw [hbs h9] at this
    exact this
  unfold f92
  rw [if_pos (cE_j hj), if_pos (cE_j hj), f3, en_c, h98, h17, o1, o2, o3, o4]
  show (_ → _) ∧ (_ → ∃ s', _ ∧ D92 s0 k L a z tl Ls T0 B tb ln base tt dd P s j (sByt (sFrm j) (sCod j) here (sEnd P) q) s')
  have same : ∀ m, (m = 0 ∨ m = 1 ∨ m = 4 ∨ m = 5 ∨ m = 6) → sFrm j = nn m → ∃ s', (some (.inl s) : Option (cS ⊕ cS)) = some (.inl s') ∧ D92 s0 k L a z tl Ls T0 B tb ln base tt dd P s j (List.replicate (sSz (sFrm j) (sEnd P) q) 0) s' := by
    intro m hm em
    have h9 : ¬ (sFrm j = 2 ∨ sFrm j = 3) := by
      rw [em]
      rcases hm with rfl | rfl | rfl | rfl | rfl <;> decide
    exact ⟨s, rfl, h.1, hk, IMG_z (himg h9) hr, WF_refl _ _ _, fun _ => rfl⟩
  have same2 : sFrm j = 2 ∨ sFrm j = 3 → ∃ s', (some (.inl s) : Option (cS ⊕ cS)) = some (.inl s') ∧ D92 s0 k L a z tl Ls T0 B tb ln base tt dd P s j q.2.1 s' := fun h9 => ⟨s, rfl, h.1, hk, h.2.2.1.2.2 rfl, WF_refl _ _ _, fun _ => rfl⟩
  rw [f2] at same same2 h0 hr ⊢
  have wrap : ¬ (nn n = 2 ∨ nn n = 3) → ∀ (y : Option (cS ⊕ cS)) (bs : List Int32), (∃ s', y = some (.inl s') ∧ PT s0 k L a z tl Ls T0 B tb ln base true tt dd P s bs s') → ∃ s', y = some (.inl s') ∧ D92 s0 k L a z tl Ls T0 B tb ln base tt dd P s j bs s' := by
    intro h9 y bs h8
    obtain ⟨s', w1, w2⟩ := h8
    exact ⟨s', w1, PT_92 w2 (by rw [f2]; exact h9)⟩
  have : n = 0 ∨ n = 1 ∨ n = 2 ∨ n = 3 ∨ n = 4 ∨ n = 5 ∨ n = 6 ∨ n = 7 ∨ n = 8 ∨ n = 9 ∨ n = 10 ∨ n = 11 ∨ n = 12 ∨ n = 13 ∨ n = 14 ∨ n = 15 := by omega
  rcases this with rfl | rfl | rfl | rfl | rfl | rfl | rfl | rfl | rfl | rfl | rfl | rfl | rfl | rfl | rfl | rfl
  · exact ⟨fun h9 => Bool.noConfusion (show false = true from h9), fun _ => same 0 (by decide) rfl⟩
  · exact ⟨fun h9 => Bool.noConfusion (show false = true from h9), fun _ => same 1 (by decide) rfl⟩
  · exact ⟨fun h9 => Bool.noConfusion (show false = true from h9), fun _ => same2 (by decide)⟩
  · exact ⟨fun h9 => Bool.noConfusion (show false = true from h9), fun _ => same2 (by decide)⟩
  · exact ⟨fun h9 => Bool.noConfusion (show false = true from h9), fun _ => same 4 (by decide) rfl⟩
  · exact ⟨fun h9 => Bool.noConfusion (show false = true from h9), fun _ => same 5 (by decide) rfl⟩
  · exact ⟨fun h9 => Bool.noConfusion (show false = true from h9), fun _ => same 6 (by decide) rfl⟩
  · rw [if_pos (show nn 7 = 7 from rfl)]
    exact ⟨fun h9 => Bool.noConfusion (show false = true from h9), fun _ => wrap (by decide) _ _ (k_one (h0 (by decide)) _ hr)⟩
  · rw [if_neg (show ¬ nn 8 = 7 by decide), if_pos (show nn 8 = 8 from rfl)]
    have hb : sBad (nn 8) here q.1 = true ↔ (q.1.2.2.2.1 < -2048 ∨ (2047 : Int32) < q.1.2.2.2.1) := by unfold sBad; exact decide_eq_true_iff
    rw [hb, f93_at hpl]
    refine ⟨fun h9 => by rw [if_pos h9]; rfl, fun h9 => ?_⟩
    rw [if_neg h9]
    show ∃ s', Option.bind _ _ = _ ∧ _
    rw [o4]
    exact wrap (by decide) _ _ (k_one (h0 (by decide)) _ hr)
  · rw [if_neg (show ¬ nn 9 = 7 by decide), if_neg (show ¬ nn 9 = 8 by decide), if_pos (show nn 9 = 9 from rfl)]
    have hb : sBad (nn 9) here q.1 = true ↔ (q.1.2.2.2.1 < 0 ∨ (31 : Int32) < q.1.2.2.2.1) := by unfold sBad; exact decide_eq_true_iff
    rw [hb, f93_at hpl]
    refine ⟨fun h9 => by rw [if_pos h9]; rfl, fun h9 => ?_⟩
    rw [if_neg h9]
    show ∃ s', Option.bind _ _ = _ ∧ _
    rw [o4]
    exact wrap (by decide) _ _ (k_one (h0 (by decide)) _ hr)
  · rw [if_neg (show ¬ nn 10 = 7 by decide), if_neg (show ¬ nn 10 = 8 by decide), if_neg (show ¬ nn 10 = 9 by decide), if_pos (show nn 10 = 10 from rfl)]
    have hb : sBad (nn 10) here q.1 = true ↔ (q.1.2.2.2.1 < -2048 ∨ (2047 : Int32) < q.1.2.2.2.1) := by unfold sBad; exact decide_eq_true_iff
    rw [hb, f93_at hpl]
    refine ⟨fun h9 => by rw [if_pos h9]; rfl, fun h9 => ?_⟩
    rw [if_neg h9]
    show ∃ s', Option.bind _ _ = _ ∧ _
    rw [o4]
    exact wrap (by decide) _ _ (k_one (h0 (by decide)) _ hr)
  · rw [if_neg (show ¬ nn 11 = 7 by decide), if_neg (show ¬ nn 11 = 8 by decide), if_neg (show ¬ nn 11 = 9 by decide), if_neg (show ¬ nn 11 = 10 by decide), if_pos (show nn 11 = 11 from rfl)]
    have hb : sBad (nn 11) here q.1 = true ↔ (¬ (q.1.2.2.2.1 - here) &&& 1 = 0 ∨ q.1.2.2.2.1 - here < -4096 ∨ (4096 : Int32) ≤ q.1.2.2.2.1 - here) := by unfold sBad; exact decide_eq_true_iff
    rw [hb, f94_at hpl]
    refine ⟨fun h9 => by rw [if_pos h9]; rfl, fun h9 => ?_⟩
    rw [if_neg h9]
    show ∃ s', Option.bind _ _ = _ ∧ _
    exact wrap (by decide) _ _ (k_one (h0 (by decide)) _ hr)
  · rw [if_neg (show ¬ nn 12 = 7 by decide), if_neg (show ¬ nn 12 = 8 by decide), if_neg (show ¬ nn 12 = 9 by decide), if_neg (show ¬ nn 12 = 10 by decide), if_neg (show ¬ nn 12 = 11 by decide), if_pos (show nn 12 = 12 from rfl)]
    have hb : sBad (nn 12) here q.1 = true ↔ (q.1.2.2.2.1 < 0 ∨ (1048575 : Int32) < q.1.2.2.2.1) := by unfold sBad; exact decide_eq_true_iff
    rw [hb, f93_at hpl]
    refine ⟨fun h9 => by rw [if_pos h9]; rfl, fun h9 => ?_⟩
    rw [if_neg h9]
    show ∃ s', Option.bind _ _ = _ ∧ _
    rw [o4]
    exact wrap (by decide) _ _ (k_one (h0 (by decide)) _ hr)
  · rw [if_neg (show ¬ nn 13 = 7 by decide), if_neg (show ¬ nn 13 = 8 by decide), if_neg (show ¬ nn 13 = 9 by decide), if_neg (show ¬ nn 13 = 10 by decide), if_neg (show ¬ nn 13 = 11 by decide), if_neg (show ¬ nn 13 = 12 by decide), if_pos (show nn 13 = 13 from rfl)]
    have hb : sBad (nn 13) here q.1 = true ↔ (¬ (q.1.2.2.2.1 - here) &&& 1 = 0 ∨ q.1.2.2.2.1 - here < -1048576 ∨ (1048576 : Int32) ≤ q.1.2.2.2.1 - here) := by unfold sBad; exact decide_eq_true_iff
    rw [hb, f94_at hpl]
    refine ⟨fun h9 => by rw [if_pos h9]; rfl, fun h9 => ?_⟩
    rw [if_neg h9]
    show ∃ s', Option.bind _ _ = _ ∧ _
    exact wrap (by decide) _ _ (k_one (h0 (by decide)) _ hr)
  · rw [if_neg (show ¬ nn 14 = 7 by decide), if_neg (show ¬ nn 14 = 8 by decide), if_neg (show ¬ nn 14 = 9 by decide), if_neg (show ¬ nn 14 = 10 by decide), if_neg (show ¬ nn 14 = 11 by decide), if_neg (show ¬ nn 14 = 12 by decide), if_neg (show ¬ nn 14 = 13 by decide), if_pos (show nn 14 = 14 from rfl)]
    exact ⟨fun h9 => Bool.noConfusion (show false = true from h9), fun _ => wrap (by decide) _ _ (k_far (h0 (by decide)) R hr)⟩
  · rw [if_neg (show ¬ nn 15 = 7 by decide), if_neg (show ¬ nn 15 = 8 by decide), if_neg (show ¬ nn 15 = 9 by decide), if_neg (show ¬ nn 15 = 10 by decide), if_neg (show ¬ nn 15 = 11 by decide), if_neg (show ¬ nn 15 = 12 by decide), if_neg (show ¬ nn 15 = 13 by decide), if_neg (show ¬ nn 15 = 14 by decide), if_pos (show nn 15 = 15 from rfl)]
    refine ⟨fun h9 => Bool.noConfusion (show false = true from h9), fun _ => ?_⟩
    have hr2 : sEnd P + (if isSh q.1 = true then 4 else 8) ≤ if P.2.1 = 0 then tt else dd := hr
    show ∃ s', _ ∧ D92 s0 k L a z tl Ls T0 B tb ln base tt dd P s j (if isSh q.1 = true then le ((sCod 12 ||| (q.1.1 <<< ((7 : Int32) &&& 31))) ||| (q.1.2.2.2.1 <<< ((20 : Int32) &&& 31))) 4 0 else sFar q.1) s'
    cases hs : isSh q.1 with
    | true =>
      rw [hs] at hr2
      rw [if_neg (show ¬ (if true = true then (1 : Int32) else 0) = 0 by decide), if_pos rfl]
      exact wrap (by decide) _ _ (k_one (h0 (by decide)) _ hr2)
    | false =>
      rw [hs] at hr2
      rw [if_pos (show (if false = true then (1 : Int32) else 0) = 0 by decide), if_neg (show ¬ false = true by decide)]
      exact wrap (by decide) _ _ (k_far (h0 (by decide)) R hr2)
end KF
