/-! THE CLASS's expressions, whole. -/
section CG
variable {c : cS} {L a z tl Ls i : Nat} {T0 r : List Tk} {t : Tk} {er : Int32} {E : Ev}
theorem f70_nn {b : Nat} (h : b < 256) : f70 (nn b) = if b = 45 ∨ b = 43 ∨ b = 126 then 1 else 0 := by
  have key : ∀ b : Nat, b < 256 → f70 (nn b) = if b = 45 ∨ b = 43 ∨ b = 126 then 1 else 0 := by decide +kernel
  exact key b h
theorem f79_nn {b : Nat} (h : b < 256) : f79 (nn b) = nn (lev b) := by
  have key : ∀ b : Nat, b < 256 → f79 (nn b) = nn (lev b) := by decide +kernel
  exact key b h
theorem lev_le (b : Nat) : lev b ≤ 6 := by
  unfold lev
  repeat' split
  all_goals omega
theorem lev_pos {b : Nat} (h : 0 < lev b) : 4 < b := by
  unfold lev at h
  repeat' split at h
  all_goals omega
theorem c_pfx (X : CTX c L a z tl Ls T0 E) (hT : T0.length ≤ 65000) {F : Nat → Nat → Bool → List Tk → Option (Rx Xv)} {G : cS → Int32 → Int32 → Option ((Int32 × cS) ⊕ cS)} (H : GX c T0 F G) {d : Nat} (h16 : d ≤ 16) (e : Bool) : ∀ (r : List Tk) (t : Tk) (i : Nat) (f ad : Int32) (k u : Nat), T0.drop i = t :: r → k ≤ i → r.length + 1 < u → MV c T0 (xb (xAtom E F d e (xPfx (t :: r) f ad).2.2) fun q => some (.inl ((xPfx (t :: r) f ad).1 * q.1 + (xPfx (t :: r) f ad).2.1, q.2.1, q.2.2))) (f69_7 G u (cz c i t (eb e)) (nn d) f ad (nn k)) := by
  intro r
  induction r with
  | nil =>
    intro t i f ad k u hd hk hu
    have ht := tok_of X hd
    have hlen := drop_len hd
    simp at hlen
    have eu : u = (u - 1) + 1 := by omega
    have e3 : (cz c i t (eb e)).1 11 3 = nn t.1 := rfl
    have h65 : ¬ (65536 : Int32) ≤ nn k := fun hh => by have := (nn_le (a := 65536) (by omega) (by omega)).mp hh; omega
    have hw := (WFT_drop X.1.2.2.1 hd).1
    have hnp : ¬ (t.1 = 45 ∨ t.1 = 43 ∨ t.1 = 126) := by
      intro hh
      have hf := ht.2.2.2.2.1 (by omega) (by omega) (by omega)
      rcases hw with h | h
      · omega
      · exact h.2 hf
    have ex : xPfx [t] f ad = (f, ad, [t]) := by rw [xPfx, if_neg hnp]
    rw [eu, f69_7, if_neg h65, e3, f70_nn ht.1, if_neg hnp, if_pos rfl, ex]
    exact c_atom X H hd h16 e f ad
  | cons t2 r2 ih =>
    intro t i f ad k u hd hk hu
    have ht := tok_of X hd
    have hlen := drop_len hd
    rw [List.length_cons] at hlen hu
    have eu : u = (u - 1) + 1 := by omega
    have e3 : (cz c i t (eb e)).1 11 3 = nn t.1 := rfl
    have h65 : ¬ (65536 : Int32) ≤ nn k := fun hh => by have := (nn_le (a := 65536) (by omega) (by omega)).mp hh; omega
    rw [eu, f69_7, if_neg h65, e3, f70_nn ht.1]
    by_cases hp : t.1 = 45 ∨ t.1 = 43 ∨ t.1 = 126
    · have hf := ht.2.2.2.2.1 (by omega) (by omega) (by omega)
      rw [if_pos hp, if_neg (by decide), xPfx, if_pos hp, q_eq (x := 126) (k := 126) rfl ht.1 (by decide)]
      have step : ∀ f2 ad2, MV c T0 (xb (xAtom E F d e (xPfx (t2 :: r2) f2 ad2).2.2) fun q => some (.inl ((xPfx (t2 :: r2) f2 ad2).1 * q.1 + (xPfx (t2 :: r2) f2 ad2).2.1, q.2.1, q.2.2))) (f69_58 G (f69_7 G (u - 1)) (cz c i t (eb e)) (nn d) f2 ad2 (nn k)) := by
        intro f2 ad2
        unfold f69_58
        rw [e3]
        have hx := c_exp (er := eb e) X.1 hd ht.1 (k := t.1) ht.1 (by omega)
        have ex : xExp t.1 (t :: t2 :: r2) = some (.inl (t2 :: r2)) := by unfold xExp; simp only [if_true, hf]
        rw [ex] at hx
        obtain ⟨i2, t3, r3, q1, q2, q3⟩ := hx
        have q1 : t2 :: r2 = t3 :: r3 := q1
        obtain ⟨rfl, rfl⟩ := List.cons.inj q1
        -- the cursor stands one further
        have hi2 : i2 = i + 1 := by
          have := drop_len q2
          omega
        subst hi2
        rw [q3, nn_add1]
        exact ih t2 (i + 1) f2 ad2 (k + 1) (u - 1) (drop_next hd) (by omega) (by omega)
      unfold f69_43
      rw [e3, q_eq (x := 43) (k := 43) rfl ht.1 (by decide), q_eq (x := 43) (k := 43) rfl ht.1 (by decide)]
      by_cases h1 : t.1 = 126
      · rw [if_pos h1, if_pos h1, if_neg (show ¬ t.1 = 43 by omega), if_neg (show ¬ t.1 = 43 by omega)]
        exact step _ _
      · rw [if_neg h1, if_neg h1]
        by_cases h2 : t.1 = 43
        · rw [if_pos h2, if_pos h2]; exact step _ _
        · rw [if_neg h2, if_neg h2]; exact step _ _
    · rw [if_neg hp, if_pos rfl]
      have ex : xPfx (t :: t2 :: r2) f ad = (f, ad, t :: t2 :: r2) := by rw [xPfx, if_neg hp]
      rw [ex]
      exact c_atom X H hd h16 e f ad
def MJ (c : cS) (i : Nat) (t : Tk) (x : Rx (Int32 × Bool)) (y : Option ((Int32 × cS) ⊕ cS)) : Prop := match x with
  | .inl q => y = some (.inl (q.1, cz c i t (eb q.2)))
  | .inr e => ∃ er, y = some (.inr (f46 (cz c i t er) (nn e.1) (nn e.2)))
theorem c_join (X : CTX c L a z tl Ls T0 E) {k : Nat} (hk : k < 256) (l rr : Int32) (pl : Nat) (e : Bool) : MJ c i t (xJoin E.2.2.2.2.2 k l rr pl e) (f80 (cz c i t (eb e)) (nn k) l rr (nn pl)) := by
  obtain ⟨C, T, Y, SX, hzt, S, m0, m1, m2, m3, m4, m5, _⟩ := X
  have m1' : E.2.2.2.2.2 < 256 := by omega
  have e0 : (cz c i t (eb e)).1 17 0 = nn E.2.2.2.2.2 := m0
  have eg : cg (cz c i t (eb e)) 17 3 0 = cz c i t (eb false) := cu_e
  unfold xJoin f80 f81
  rw [e0, eg, q_eq (x := 38) (k := 38) rfl hk (by decide), q_eq (x := 42) (k := 42) rfl hk (by decide), q_eq (x := 43) (k := 43) rfl hk (by decide), q_eq (x := 45) (k := 45) rfl hk (by decide), q_eq (x := 60) (k := 60) rfl hk (by decide), q_eq (x := 62) (k := 62) rfl hk (by decide), q_eq (x := 94) (k := 94) rfl hk (by decide), q_eq (x := 124) (k := 124) rfl hk (by decide), q_eq (x := 47) (k := 47) rfl hk (by decide), q_eq (x := 0) (k := 0) rfl m1' (by decide), q_eq (x := 2) (k := 2) rfl m1' (by decide)]
  by_cases h1 : k = 38
  · rw [if_pos h1, if_pos h1]; rfl
  rw [if_neg h1, if_neg h1]
  by_cases h2 : k = 42
  · rw [if_pos h2, if_pos h2]; rfl
  rw [if_neg h2, if_neg h2]
  by_cases h3 : k = 43
  · rw [if_pos h3, if_pos h3]; rfl
  rw [if_neg h3, if_neg h3]
  by_cases h4 : k = 45
  · rw [if_pos h4, if_pos h4]; rfl
  rw [if_neg h4, if_neg h4]
  by_cases h5 : k = 60
  · rw [if_pos h5, if_pos h5]; rfl
  rw [if_neg h5, if_neg h5]
  by_cases h6 : k = 62
  · rw [if_pos h6, if_pos h6]; rfl
  rw [if_neg h6, if_neg h6]
  by_cases h7 : k = 94
  · rw [if_pos h7, if_pos h7]; rfl
  rw [if_neg h7, if_neg h7]
  by_cases h8 : k = 124
  · rw [if_pos h8, if_pos h8]; rfl
  rw [if_neg h8, if_neg h8]
  by_cases h9 : rr = 0
  · rw [if_pos h9, if_pos h9]
    by_cases q0 : E.2.2.2.2.2 = 0
    · rw [if_pos q0, if_pos q0]; exact ⟨eb false, rfl⟩
    · rw [if_neg q0, if_neg q0]
      by_cases q2 : E.2.2.2.2.2 = 2
      · rw [if_pos q2, if_pos q2]; exact ⟨eb false, rfl⟩
      · rw [if_neg q2, if_neg q2]; rfl
  · rw [if_neg h9, if_neg h9]
    by_cases q : k = 47
    · rw [if_pos q, if_pos q, if_pos h9]; rfl
    · rw [if_neg q, if_neg q, if_pos h9]; rfl
theorem c_loop (X : CTX c L a z tl Ls T0 E) (hT : T0.length ≤ 65000) {F : Nat → Nat → Bool → List Tk → Option (Rx Xv)} {G : cS → Int32 → Int32 → Option ((Int32 × cS) ⊕ cS)} (H : GX c T0 F G) {d least : Nat} (h16 : d ≤ 16) (hl0 : 0 < least) (hl7 : least ≤ 7) : ∀ (n u : Nat) (left : Int32) (e : Bool) (i k : Nat) (t : Tk) (r : List Tk), n < u → T0.drop i = t :: r → n + k ≤ 65500 → MV c T0 (xLp F E.2.2.2.2.2 least d n left e (t :: r)) (f68b_9 G u (cz c i t (eb e)) (nn least) (nn d) left (nn k)) := by
  intro n
  induction n with
  | zero => intro u left e i k t r hu hd hk; exact trivial
  | succ n ih =>
    intro u left e i k t r hu hd hk
    have ht := tok_of X hd
    have eu : u = (u - 1) + 1 := by omega
    have e3 : (cz c i t (eb e)).1 11 3 = nn t.1 := rfl
    have e4 : (cz c i t (eb e)).1 11 4 = nn t.2.1 := rfl
    have h65 : ¬ (65536 : Int32) ≤ nn k := fun hh => by have := (nn_le (a := 65536) (by omega) (by omega)).mp hh; omega
    have hlev := lev_le t.1
    rw [eu, f68b_9, if_neg h65, e3, e4, f79_nn ht.1, nn_le2 (by omega) (by omega), xLp]
    by_cases hq : least ≤ lev t.1
    · simp only [if_pos hq]
      have hpos := lev_pos (show 0 < lev t.1 by omega)
      refine mev (c_exp X.1 hd ht.1 ht.1 (by omega)) (fun i2 t2 r2 hd2 => ?_)
      rw [nn_add1]
      refine mvv (H (lev t.1 + 1) d e i2 t2 r2 (by omega) (by omega) h16 hd2) (fun v e3 i3 t3 r3 hd3 => ?_)
      have hj := c_join (i := i3) (t := t3) X ht.1 left v t.2.1 e3
      cases hx : xJoin E.2.2.2.2.2 t.1 left v t.2.1 e3 with
      | inl w =>
        rw [hx] at hj
        have hj : f80 (cz c i3 t3 (eb e3)) (nn t.1) left v (nn t.2.1) = some (.inl (w.1, cz c i3 t3 (eb w.2))) := hj
        show MV c T0 (xLp F E.2.2.2.2.2 least d n w.1 w.2 (t3 :: r3)) (tb (f80 (cz c i3 t3 (eb e3)) (nn t.1) left v (nn t.2.1)) _)
        rw [hj, nn_add1]
        exact ih (u - 1) w.1 w.2 i3 (k + 1) t3 r3 (by omega) hd3 (by omega)
      | inr w =>
        rw [hx] at hj
        obtain ⟨er3, hj⟩ := hj
        show MV c T0 (some (.inr w)) (tb (f80 (cz c i3 t3 (eb e3)) (nn t.1) left v (nn t.2.1)) _)
        rw [hj]
        exact ⟨i3, t3, er3, rfl⟩
    · simp only [if_neg hq]
      unfold f68b_38
      exact mv_fin hd
theorem c_expr (X : CTX c L a z tl Ls T0 E) (hT : T0.length ≤ 65000) : ∀ v, GX c T0 (xE E v) (f68v v) := by
  intro v
  induction v with
  | zero => intro least d e i t r _ _ _ _; exact trivial
  | succ v ih =>
    intro least d e i t r h0 h7 h16 hd
    have hlen := drop_len hd
    have hU : (200000 : Nat) = mm_U := rfl
    show MV c T0 (xb (xOpd E (xE E v) d e (t :: r)) fun q => xLp (xE E v) E.2.2.2.2.2 least d ((t :: r).length + 1) q.1 q.2.1 q.2.2) (f68b (f68v v) (cz c i t (eb e)) (nn least) (nn d))
    unfold f68b f69
    have h1 := c_pfx X hT ih h16 e r t i 1 0 0 mm_U hd (by omega) (by rw [← hU]; omega)
    refine mvv h1 (fun v2 e2 i2 t2 r2 hd2 => ?_)
    exact c_loop X hT ih h16 h0 h7 ((t :: r).length + 1) mm_U v2 e2 i2 0 t2 r2 (by rw [← hU, List.length_cons]; omega) hd2 (by rw [List.length_cons]; omega)
end CG
