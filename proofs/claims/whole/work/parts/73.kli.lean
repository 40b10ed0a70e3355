/-! THE CLASS at a line: what holds all along. -/
def ipt (l : Nat) : Nat := 2 * l + if l = 65536 then 65536 else 0
def iqt (l : Nat) : Nat := l + if l = 65536 then 84 else 0
/-- the arrays' shapes, who has which, and the room that all that was made takes -/
def RSX (c : cS) (k L Ls : Nat) : Prop := TA c L ∧ 32 ≤ L ∧ L ≤ 40000 ∧ (cA c 1 (c.2.1 2 2) ∧ cl c (c.2.1 2 2) = 256) ∧ (∀ k, 3 ≤ k → k ≤ 8 → cA c 1 (c.2.1 2 k) ∧ cl c (c.2.1 2 k) = Ls) ∧ 16 ≤ Ls ∧ Ls ≤ 40000 ∧ SEP c ∧ (cA c 0 (c.2.1 0 0) ∧ 256 ≤ cl c (c.2.1 0 0) ∧ cl c (c.2.1 0 0) ≤ 65536) ∧ (cA c 0 (c.2.1 18 4) ∧ cl c (c.2.1 18 4) ≤ 65536 ∧ (cl c (c.2.1 18 4) = 0 ∨ 84 ≤ cl c (c.2.1 18 4))) ∧ (cA c 0 (c.2.1 20 4) ∧ cl c (c.2.1 20 4) ≤ 65536 ∧ (cl c (c.2.1 20 4) = 0 ∨ 84 ≤ cl c (c.2.1 20 4))) ∧ ((c.2.1 16 0 = 18 ∧ c.2.1 16 1 = 20) ∨ (c.2.1 16 0 = 20 ∧ c.2.1 16 1 = 18)) ∧ csz c ≤ 1000 + 12 * Ls + 6 * L + 2 * cl c (c.2.1 0 0) + ipt (cl c (c.2.1 18 4)) + ipt (cl c (c.2.1 20 4)) + 6 * k ∧ 84 * c.2.2.2 ≤ 84 * k + 32 * Ls + 8 * L + cl c (c.2.1 0 0) + iqt (cl c (c.2.1 18 4)) + iqt (cl c (c.2.1 20 4))
theorem RSX_sh {c c' : cS} {k L Ls : Nat} (hr : c'.2.1 = c.2.1) (hn : c'.2.2.2 = c.2.2.2) (h : ∀ q, (c'.2.2.1 q).1 = (c.2.2.1 q).1 ∧ (c'.2.2.1 q).2.1 = (c.2.2.1 q).2.1) (R : RSX c k L Ls) : RSX c' k L Ls := by
  have hA : ∀ t q, cA c t q → cA c' t q := fun t q h9 => ⟨h9.1, by rw [hn]; exact h9.2.1, by rw [(h q).1]; exact h9.2.2⟩
  have hcl : ∀ q, cl c' q = cl c q := fun q => (h q).2
  have hcs : csz c' = csz c := csz_same hn (fun q _ => h q)
  obtain ⟨r1, r2, r3, r4, r5, r6, r7, r8, r9, r10, r11, r12, r13, r14⟩ := R
  obtain ⟨t1, t2, t3, t4, t5, t6, t7⟩ := r1
  unfold RSX TA
  rw [hr, hcs, hn]
  simp only [hcl]
  exact ⟨⟨hA _ _ t1, hA _ _ t2, hA _ _ t3, t4, t5, t6, t7⟩, r2, r3, ⟨hA _ _ r4.1, r4.2⟩, fun k h3 h8 => ⟨hA _ _ (r5 k h3 h8).1, (r5 k h3 h8).2⟩, r6, r7, SEP_of hr (by rw [hn]; exact Nat.le_refl _) r8, ⟨hA _ _ r9.1, r9.2⟩, ⟨hA _ _ r10.1, r10.2⟩, ⟨hA _ _ r11.1, r11.2⟩, r12, r13, r14⟩
theorem RSX_wf {I : List (Nat × Nat)} {Q : List Nat} {c c' : cS} {k L Ls : Nat} (F : WF I Q c c') (R : RSX c k L Ls) : RSX c' k L Ls := RSX_sh F.2.1 F.2.2.1 F.2.2.2.1 R
/-- what an assembling leaves alone until it ends -/
def KP (s0 s : cS) : Prop := (∀ j, s.1 0 j = s0.1 0 j) ∧ (∀ j, s.1 (s0.2.1 16 0) j = s0.1 (s0.2.1 16 0) j) ∧ s.2.1 0 0 = s0.2.1 0 0 ∧ s.2.1 16 0 = s0.2.1 16 0 ∧ s.2.1 16 1 = s0.2.1 16 1 ∧ s.2.1 (s0.2.1 16 0) 4 = s0.2.1 (s0.2.1 16 0) 4 ∧ s.2.2.1 (s0.2.1 0 0) = s0.2.2.1 (s0.2.1 0 0) ∧ s.2.2.1 (s0.2.1 (s0.2.1 16 0) 4) = s0.2.2.1 (s0.2.1 (s0.2.1 16 0) 4) ∧ s.1 11 8 = s0.1 11 8 ∧ s.1 11 0 = s0.1 11 0 ∧ s.1 11 1 = s0.1 11 1 ∧ s.1 11 2 = s0.1 11 2
theorem KP_trans {s0 s1 s2 : cS} (h1 : KP s0 s1) (h2 : KP s1 s2) : KP s0 s2 := by
  obtain ⟨a1, a2, a3, a4, a5, a6, a7, a8, a9⟩ := h1
  obtain ⟨b1, b2, b3, b4, b5, b6, b7, b8, b9⟩ := h2
  rw [a4] at b2 b4 b6 b8
  rw [a3] at b3 b7
  rw [a6] at b6 b8
  exact ⟨fun j => (b1 j).trans (a1 j), fun j => (b2 j).trans (a2 j), b3, b4, b5.trans a5, b6, b7.trans a7, b8.trans a8, b9.1.trans a9.1, b9.2.1.trans a9.2.1, b9.2.2.1.trans a9.2.2.1, b9.2.2.2.trans a9.2.2.2⟩
/-- fields that a line may write -/
abbrev OKI (I : List (Nat × Nat)) : Prop := ∀ x ∈ I, ¬ x.1 = 0 ∧ ¬ x.1 = 18 ∧ ¬ x.1 = 20 ∧ ¬ x ∈ [(11, 9), (11, 10), (11, 14), (11, 16), (11, 17), (11, 6), (2, 0), (17, 2), (11, 8), (11, 0), (11, 1), (11, 2)]
theorem KP_wf {I : List (Nat × Nat)} {Q : List Nat} {s s' : cS} (hI : OKI I) (F : WF I Q s s') (h0 : s.2.1 16 0 = 18 ∨ s.2.1 16 0 = 20) (hQ1 : ¬ s.2.1 0 0 ∈ Q) (hQ2 : ¬ s.2.1 (s.2.1 16 0) 4 ∈ Q) : KP s s' := by
  refine ⟨fun j => F.1 0 j (fun h => (hI _ h).1 rfl), fun j => F.1 _ j (fun h => ?_), by rw [F.2.1], by rw [F.2.1], by rw [F.2.1], by rw [F.2.1], F.2.2.2.2 _ hQ1, F.2.2.2.2 _ hQ2, F.1 11 8 (fun h => (hI _ h).2.2.2 (by decide)), F.1 11 0 (fun h => (hI _ h).2.2.2 (by decide)), F.1 11 1 (fun h => (hI _ h).2.2.2 (by decide)), F.1 11 2 (fun h => (hI _ h).2.2.2 (by decide))⟩
  rcases h0 with h0 | h0
  · exact (hI _ h).2.1 h0
  · exact (hI _ h).2.2.1 h0
def LI (s0 : cS) (k L a z tl Ls : Nat) (T0 : List Tk) (B : Nat → Nat) (tb : List Sy) (ln : Nat) (base : Int32) (s : cS) : Prop := CLN s L T0 ∧ TC s B a z ∧ BY s ∧ SXT s B tl ∧ z ≤ tl ∧ SYM s B tl tb Ls ∧ s.1 17 2 = base ∧ s.1 11 6 = nn ln ∧ ln < 100000 ∧ (∀ t ∈ T0, TOK B a z t) ∧ T0.length ≤ 65000 ∧ s.2.1 11 7 = s.2.1 0 0 ∧ s.2.1 2 1 = s.2.1 0 0 ∧ RSX s k L Ls ∧ KP s0 s
/-- what is thrown leaves this -/
def DL (s0 : cS) (k ln a : Nat) (s : cS) : Prop := (∃ L Ls, RSX s k L Ls) ∧ KP s0 s ∧ s.1 11 6 = nn ln ∧ s.1 11 9 = nn a
section LI9
variable {s0 s s' : cS} {k L a z tl Ls ln : Nat} {T0 ts : List Tk} {B : Nat → Nat} {tb : List Sy} {base : Int32}
theorem LI_DL (h : LI s0 k L a z tl Ls T0 B tb ln base s) : DL s0 k ln a s := ⟨⟨L, Ls, h.2.2.2.2.2.2.2.2.2.2.2.2.2.1⟩, h.2.2.2.2.2.2.2.2.2.2.2.2.2.2, h.2.2.2.2.2.2.2.1, h.2.1.1⟩
theorem LI_ctx (h : LI s0 k L a z tl Ls T0 B tb ln base s) {mode : Nat} {here : Int32} (h0 : s.1 17 0 = nn mode) (hm : mode ≤ 2) (h1 : s.1 17 1 = here) : CTX s L a z tl Ls T0 (B, tb, ln, base, here, mode) := ⟨h.1, h.2.1, h.2.2.1, h.2.2.2.1, h.2.2.2.2.1, h.2.2.2.2.2.1, h0, hm, h1, h.2.2.2.2.2.2.1, h.2.2.2.2.2.2.2.1, h.2.2.2.2.2.2.2.2.1, h.2.2.2.2.2.2.2.2.2.1⟩
theorem LI_mk (h : LI s0 k L a z tl Ls T0 B tb ln base s) {s' : cS} {Ls' : Nat} {tb' : List Sy} {E : Ev} (hE : E.1 = B) (h2 : E.2.1 = tb') (h3 : E.2.2.2.1 = base) (h4 : E.2.2.1 = ln) (X : CTX s' L a z tl Ls' T0 E) (e1 : s'.2.1 11 7 = s'.2.1 0 0) (e2 : s'.2.1 2 1 = s'.2.1 0 0) (R : RSX s' k L Ls') (K : KP s0 s') : LI s0 k L a z tl Ls' T0 B tb' ln base s' := by
  obtain ⟨x1, x2, x3, x4, x5, x6, x7, x8, x9, x10, x11, x12, x13⟩ := X
  rw [hE] at x2 x4 x6 x13
  rw [h2] at x6
  rw [h3] at x10
  rw [h4] at x11 x12
  exact ⟨x1, x2, x3, x4, x5, x6, x10, x11, x12, x13, h.2.2.2.2.2.2.2.2.2.2.1, e1, e2, R, K⟩
theorem LI_made (h : LI s0 k L a z tl Ls T0 B tb ln base s) : s.2.1 16 0 = 18 ∨ s.2.1 16 0 = 20 := by
  have := h.2.2.2.2.2.2.2.2.2.2.2.2.2.1.2.2.2.2.2.2.2.2.2.2.2.1
  rcases this with h | h
  · exact Or.inl h.1
  · exact Or.inr h.1
/-- the lines' other fields change, and the image's bytes -/
theorem LI_wf {I : List (Nat × Nat)} (hI : OKI I) (F : WF I [s.2.1 (s.2.1 16 1) 4] s s') (h : LI s0 k L a z tl Ls T0 B tb ln base s) : LI s0 k L a z tl Ls T0 B tb ln base s' := by
  obtain ⟨l1, l2, l3, l4, l5, l6, l7, l8, l9, l10, l11, l12, l13, R, K⟩ := h
  have SP := R.2.2.2.2.2.2.2.1
  have R12 := R.2.2.2.2.2.2.2.2.2.2.2.1
  have hcell : ∀ p ∈ OW, ¬ p = (18, 4) → ¬ p = (20, 4) → ¬ s.2.1 p.1 p.2 = s.2.1 (s.2.1 16 1) 4 := by
    intro p hp h18 h20 hh
    rcases R12 with ⟨_, e⟩ | ⟨_, e⟩
    · rw [e] at hh; exact h20 (SP.1 p hp (20, 4) (by decide) hh)
    · rw [e] at hh; exact h18 (SP.1 p hp (18, 4) (by decide) hh)
  have hmade : ¬ s.2.1 (s.2.1 16 0) 4 = s.2.1 (s.2.1 16 1) 4 := by
    intro hh
    rcases R12 with ⟨e1, e⟩ | ⟨e1, e⟩
    · rw [e, e1] at hh; exact absurd (SP.1 (18, 4) (by decide) (20, 4) (by decide) hh) (by decide)
    · rw [e, e1] at hh; exact absurd (SP.1 (20, 4) (by decide) (18, 4) (by decide) hh) (by decide)
  have h00 : ¬ s.2.1 0 0 = s.2.1 (s.2.1 16 1) 4 := hcell (0, 0) (by decide) (by decide) (by decide)
  have hK : KP s s' := KP_wf hI F (by rcases R12 with h | h; exact Or.inl h.1; exact Or.inr h.1) (by simpa using h00) (by simpa using hmade)
  have hO : ∀ i j, (i, j) ∈ [(11, 9), (11, 10), (11, 14), (11, 16), (11, 17), (11, 6), (2, 0), (17, 2), (11, 8), (11, 0), (11, 1), (11, 2)] → s'.1 i j = s.1 i j := fun i j hm => F.1 i j (fun hh => (hI _ hh).2.2.2 hm)
  -- a context with the fields that it looks at
  have X : CTX (cg (cg s 17 0 0) 17 1 0) L a z tl Ls T0 (B, tb, ln, base, 0, 0) := ⟨l1, l2, l3, l4, l5, l6, rfl, Nat.zero_le _, rfl, l7, l8, l9, l10⟩
  have F9 : WF [] [s.2.1 (s.2.1 16 1) 4] (cg (cg s 17 0 0) 17 1 0) ((cg (cg s 17 0 0) 17 1 0).1, s'.2) := ⟨fun _ _ _ => rfl, F.2.1, F.2.2.1, F.2.2.2.1, F.2.2.2.2⟩
  have X9 := CTX_wf F9 (by decide) (by
    intro p hp
    simp only [List.mem_cons, List.not_mem_nil, or_false] at hp
    show ¬ s.2.1 p.1 p.2 ∈ _
    rw [List.mem_singleton]
    rcases hp with rfl | rfl | rfl | rfl | rfl | rfl | rfl | rfl | rfl | rfl | rfl | rfl
    · show ¬ s.2.1 11 7 = _; rw [l12]; exact h00
    · exact hcell (11, 11) (by decide) (by decide) (by decide)
    · exact hcell (11, 12) (by decide) (by decide) (by decide)
    · exact hcell (11, 13) (by decide) (by decide) (by decide)
    · show ¬ s.2.1 2 1 = _; rw [l13]; exact h00
    · exact hcell (2, 2) (by decide) (by decide) (by decide)
    · exact hcell (2, 3) (by decide) (by decide) (by decide)
    · exact hcell (2, 4) (by decide) (by decide) (by decide)
    · exact hcell (2, 5) (by decide) (by decide) (by decide)
    · exact hcell (2, 6) (by decide) (by decide) (by decide)
    · exact hcell (2, 7) (by decide) (by decide) (by decide)
    · exact hcell (2, 8) (by decide) (by decide) (by decide)) X
  obtain ⟨x1, x2, x3, x4, x5, x6, x7, x8, x9, x10, x11, x12, x13⟩ := X9
  obtain ⟨f', s2'⟩ := s'
  have e1 : f' 11 9 = s.1 11 9 := hO 11 9 (by decide)
  have e2 : f' 11 10 = s.1 11 10 := hO 11 10 (by decide)
  have e3 : f' 11 14 = s.1 11 14 := hO 11 14 (by decide)
  have e4 : f' 11 16 = s.1 11 16 := hO 11 16 (by decide)
  have e5 : f' 11 17 = s.1 11 17 := hO 11 17 (by decide)
  have e6 : f' 11 6 = s.1 11 6 := hO 11 6 (by decide)
  have e7 : f' 2 0 = s.1 2 0 := hO 2 0 (by decide)
  have e8 : f' 17 2 = s.1 17 2 := hO 17 2 (by decide)
  refine ⟨⟨x1.1, x1.2.1, x1.2.2.1, x1.2.2.2.1, ?_, ?_⟩, ⟨e1.trans l2.1, e2.trans l2.2.1, x2.2.2⟩, x3, x4, x5, ⟨e7.trans l6.1, x6.2⟩, e8.trans l7, e6.trans l8, l9, l10, l11, ?_, ?_, RSX_wf F R, KP_trans K hK⟩
  · intro h
    have := l1.2.2.2.2.1 h
    exact ⟨e4.trans this.1, e3.trans this.2⟩
  · intro w h
    have := x1.2.2.2.2.2 w h
    exact ⟨e4.trans this.1, e5.trans this.2.1, e3.trans this.2.2.1, this.2.2.2⟩
  · show s2'.1 11 7 = s2'.1 0 0
    rw [show s2'.1 = s.2.1 from F.2.1]; exact l12
  · show s2'.1 2 1 = s2'.1 0 0
    rw [show s2'.1 = s.2.1 from F.2.1]; exact l13
theorem LI_cf {I : List (Nat × Nat)} (hI : OKI I) (F : CF I s s') (h : LI s0 k L a z tl Ls T0 B tb ln base s) : LI s0 k L a z tl Ls T0 B tb ln base s' := LI_wf hI (WF_cf F) h
/-- a symbol more -/
theorem LI_add (h : LI s0 k L a z tl Ls T0 B tb ln base s) {st l sec : Nat} {v : Int32} (hmax : tb.length < 20000) (hn : NM B tl st l) (h0 : 0 < l) (hsec : sec ≤ 2) : ∃ s' Ls', f62 s (nn st) (nn l) (nn sec) v (nn ln) = some s' ∧ LI s0 k L a z tl Ls' T0 B (tb ++ [(st, l, sec, v, ln)]) ln base s' ∧ (∀ i j, ¬ (i, j) = (2, 0) → s'.1 i j = s.1 i j) := by
  obtain ⟨l1, l2, l3, l4, l5, l6, l7, l8, l9, l10, l11, l12, l13, R, K⟩ := h
  have SP := R.2.2.2.2.2.2.2.1
  have R12 := R.2.2.2.2.2.2.2.2.2.2.2.1
  have hnot : ∀ p ∈ [(0, 0), (11, 11), (11, 12), (11, 13), (18, 4), (20, 4)], ¬ s.2.1 p.1 p.2 ∈ SCL s := by
    intro p hp hm
    unfold SCL at hm
    simp only [List.mem_cons, List.not_mem_nil, or_false] at hm
    have hp2 : p ∈ OW := by
      simp only [List.mem_cons, List.not_mem_nil, or_false] at hp
      rcases hp with rfl | rfl | rfl | rfl | rfl | rfl <;> decide
    have hp3 : ¬ p.1 = 2 := by
      simp only [List.mem_cons, List.not_mem_nil, or_false] at hp
      rcases hp with rfl | rfl | rfl | rfl | rfl | rfl <;> decide
    rcases hm with h | h | h | h | h | h | h
    · exact hp3 (congrArg Prod.fst (SP.1 p hp2 (2, 2) (by decide) h))
    · exact hp3 (congrArg Prod.fst (SP.1 p hp2 (2, 3) (by decide) h))
    · exact hp3 (congrArg Prod.fst (SP.1 p hp2 (2, 4) (by decide) h))
    · exact hp3 (congrArg Prod.fst (SP.1 p hp2 (2, 5) (by decide) h))
    · exact hp3 (congrArg Prod.fst (SP.1 p hp2 (2, 6) (by decide) h))
    · exact hp3 (congrArg Prod.fst (SP.1 p hp2 (2, 7) (by decide) h))
    · exact hp3 (congrArg Prod.fst (SP.1 p hp2 (2, 8) (by decide) h))
  have h00 := hnot (0, 0) (by decide)
  have y2 := l6.2.1
  obtain ⟨s', Ls', q1, q2, q3, q4⟩ := k_add (v := v) l4 l6 SP R.2.2.2.2.2.1 hmax (by rw [l13]; exact h00) hn h0 hsec l9
  obtain ⟨f1, f2, f3, f4, f5⟩ := q4
  have hlt : ∀ p ∈ OW, s.2.1 p.1 p.2 < 42 + s.2.2.2 := SP.2
  have cell : ∀ p ∈ [(0, 0), (11, 11), (11, 12), (11, 13), (18, 4), (20, 4)], s'.2.1 p.1 p.2 = s.2.1 p.1 p.2 ∧ s'.2.2.1 (s.2.1 p.1 p.2) = s.2.2.1 (s.2.1 p.1 p.2) := by
    intro p hp
    refine ⟨f2 _ _ ?_, f3 _ (hlt p ?_) (hnot p hp)⟩
    · simp only [List.mem_cons, List.not_mem_nil, or_false] at hp
      rcases hp with rfl | rfl | rfl | rfl | rfl | rfl <;> decide
    · simp only [List.mem_cons, List.not_mem_nil, or_false] at hp
      rcases hp with rfl | rfl | rfl | rfl | rfl | rfl <;> decide
  obtain ⟨r00, c00⟩ := cell (0, 0) (by decide)
  obtain ⟨r11, c11⟩ := cell (11, 11) (by decide)
  obtain ⟨r12, c12⟩ := cell (11, 12) (by decide)
  obtain ⟨r13, c13⟩ := cell (11, 13) (by decide)
  obtain ⟨r18, c18⟩ := cell (18, 4) (by decide)
  obtain ⟨r20, c20⟩ := cell (20, 4) (by decide)
  simp only at r00 r11 r12 r13 r18 r20 c00 c11 c12 c13 c18 c20
  have r7 : s'.2.1 11 7 = s.2.1 0 0 := (f2 11 7 (by omega)).trans l12
  have r21 : s'.2.1 2 1 = s.2.1 0 0 := (f2 2 1 (by omega)).trans l13
  have r160 : s'.2.1 16 0 = s.2.1 16 0 := f2 16 0 (by omega)
  have r161 : s'.2.1 16 1 = s.2.1 16 1 := f2 16 1 (by omega)
  have hn : s.2.2.2 ≤ s'.2.2.2 := by rcases f5 with h | h <;> omega
  have hA : ∀ t q, s'.2.2.1 q = s.2.2.1 q → cA s t q → cA s' t q := fun t q e9 h9 => ⟨h9.1, by have := h9.2.1; omega, by rw [e9]; exact h9.2.2⟩
  obtain ⟨t1, t2, t3, t4, t5, t6, t7⟩ := R.1
  have hTA : TA s' L := by
    unfold TA cl
    rw [r11, r12, r13, c11, c12, c13]
    exact ⟨hA _ _ c11 t1, hA _ _ c12 t2, hA _ _ c13 t3, t4, t5, t6, t7⟩
  obtain ⟨g1, g2, g3, g4, g5, g6, g7, g8, g9, g10, g11, g12, g13, g14⟩ := R
  have hL9 : Ls' ≤ 40000 := by rcases f5 with h | h <;> omega
  refine ⟨s', Ls', q1, ⟨?_, ?_, ?_, ?_, l5, q2, ?_, ?_, l9, l10, l11, by rw [r7, r00], by rw [r21, r00], ?_, ?_⟩, f1⟩
  · unfold CLN
    rw [r11, r12, r13, c11, c12, c13, f1 11 16 (by decide), f1 11 14 (by decide), f1 11 17 (by decide)]
    exact ⟨hTA, l1.2⟩
  · unfold TC cl
    rw [f1 11 9 (by decide), f1 11 10 (by decide), r7, c00]
    have := l2
    unfold TC cl at this
    rw [l12] at this
    exact ⟨this.1, this.2.1, this.2.2.1, this.2.2.2.1, this.2.2.2.2.1, hA _ _ c00 this.2.2.2.2.2.1, this.2.2.2.2.2.2⟩
  · unfold BY
    rw [r7, c00]
    have := l3
    unfold BY at this
    rw [l12] at this
    exact this
  · refine SXT_same (by rw [r21, l13]) (by rw [l13]; exact c00) hn l4
  · rw [f1 17 2 (by decide)]; exact l7
  · rw [f1 11 6 (by decide)]; exact l8
  · unfold RSX cl
    rw [r00, r18, r20, c00, c18, c20, r160, r161]
    refine ⟨hTA, g2, g3, ⟨q2.2.2.2.1, q2.2.2.2.2.1⟩, q2.2.2.2.2.2.1, q3, hL9, f4, ⟨hA _ _ c00 g9.1, g9.2⟩, ⟨hA _ _ c18 g10.1, g10.2⟩, ⟨hA _ _ c20 g11.1, g11.2⟩, g12, ?_, ?_⟩
    · unfold cl at g13
      rcases f5 with h | h <;> omega
    · unfold cl at g14
      rcases f5 with h | h <;> omega
  · refine KP_trans K ⟨fun j => f1 0 j (by simp), fun j => f1 _ j ?_, r00, r160, r161, ?_, c00, ?_, f1 11 8 (by decide), f1 11 0 (by decide), f1 11 1 (by decide), f1 11 2 (by decide)⟩
    · rcases R12 with h | h <;> rw [h.1] <;> simp
    · rcases R12 with h | h <;> rw [h.1]
      · exact r18
      · exact r20
    · rcases R12 with h | h <;> rw [h.1]
      · exact c18
      · exact c20
end LI9
