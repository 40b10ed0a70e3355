/-! THE CLASS's expressions, on: brackets, operands, signs between. -/
section CF
variable {c : cS} {L a z tl Ls i : Nat} {T0 r : List Tk} {t : Tk} {er : Int32} {E : Ev}
theorem c_ordany (T : TC c E.1 a z) {s : Nat} (hs : s < 100000) (x : Int32) {k : Nat} (hk : k < 106) : ∀ (d i u : Nat), sl k - i = d → d < u → i ≤ sl k → ∃ y, f51_3 u c (nn s) x k (nn i) = some y := by
  obtain ⟨h1, h2, h3, h4, h5, h6, h7, h8⟩ := T
  have hsl : sl k < 1000 := (st_ok1 hk).1
  have e66 : ∃ y, f51_66 c x k = some y := by unfold f51_66; rw [if_pos hk]; exact ⟨_, rfl⟩
  intro d
  induction d with
  | zero =>
    intro i u hd hu hi
    have eu : u = (u - 1) + 1 := by omega
    rw [eu, f51_3]
    by_cases q1 : x ≤ nn i
    · rw [if_pos q1]; exact e66
    · rw [if_neg q1, if_pos hk, if_pos (show Int32.ofNat (sl k) ≤ nn i from (nn_le (by omega) (by omega)).mpr (by omega))]; exact e66
  | succ d ih =>
    intro i u hd hu hi
    have eu : u = (u - 1) + 1 := by omega
    rw [eu, f51_3]
    by_cases q1 : x ≤ nn i
    · rw [if_pos q1]; exact e66
    · rw [if_neg q1, if_pos hk, if_neg (show ¬ Int32.ofNat (sl k) ≤ nn i from fun hh => by have := (nn_le (by omega) (by omega)).mp hh; omega), if_neg (nn_neg (by omega)), if_pos h6, nn_add]
      by_cases q2 : cl c (c.2.1 11 7) ≤ s + i
      · rw [if_pos (show Int32.ofNat (cl c (c.2.1 11 7)) ≤ nn (s + i) from (nn_le (by omega) (by omega)).mpr q2)]; exact e66
      · rw [if_neg (show ¬ Int32.ofNat (cl c (c.2.1 11 7)) ≤ nn (s + i) from fun hh => q2 ((nn_le (by omega) (by omega)).mp hh)), if_pos ⟨h6, (nn_ib (by omega)).mpr (by omega)⟩, if_pos ⟨hk, (nn_ib (by omega)).mpr (by omega)⟩]
        by_cases q3 : ce c (c.2.1 11 7) (nn (s + i)) - sc k (nn i) = 0
        · rw [if_pos q3, nn_add1]; exact ih (i + 1) (u - 1) (by omega) (by omega) (by omega)
        · rw [if_neg q3]; exact ⟨_, rfl⟩
theorem c_ordx (T : TC c E.1 a z) {s : Nat} (hs : s < 100000) (x : Int32) {k : Nat} (hk : k < 106) : ∃ y, f51 c (nn s) x k = some y := by
  have hsl : sl k < 1000 := (st_ok1 hk).1
  unfold f51
  exact c_ordany T hs x hk (sl k) 0 mm_U (by omega) (by show sl k < 200000; omega) (by omega)
theorem c_hilo (X : CTX c L a z tl Ls T0 E) (hd : T0.drop i = t :: r) : MB c T0 er (xHiLo E.1 (t :: r)) (f76 (cz c i t er)) := by
  have ht := tok_of X hd
  have X0 := X
  obtain ⟨C, T, Y, SX, hzt, S, m0, m1, m2, m3, m4, m5, _⟩ := X
  have hz := T.2.2.2.1
  have hl := T.2.2.2.2.1
  unfold xHiLo f76
  refine meb (c_exp C hd ht.1 (by decide) (by decide)) (fun i2 t2 r2 hd2 => ?_)
  have ht2 := tok_of X0 hd2
  have e4 : (cz c i2 t2 er).1 11 4 = nn t2.2.1 := rfl
  have e5 : (cz c i2 t2 er).1 11 5 = t2.2.2.1 := rfl
  rw [e4, e5]
  obtain ⟨y4, o4⟩ := c_ordx (E := E) (cz_T (i := i2) (t := t2) (er := er) T) (show t2.2.1 < 100000 by have := ht2.2.2.1; omega) t2.2.2.1 (k := 4) (by decide)
  obtain ⟨y5, o5⟩ := c_ordx (E := E) (cz_T (i := i2) (t := t2) (er := er) T) (show t2.2.1 < 100000 by have := ht2.2.2.1; omega) t2.2.2.1 (k := 5) (by decide)
  rw [o4, Option.bind_some]
  unfold f76_42
  rw [e5, o5]
  simp only [Option.bind_some]
  have key : ∀ x2 y0 : Int32, (t2.1 = 1 → x2 = eb (decide (tname E.1 t2 = [104, 105])) ∧ y0 = eb (decide (tname E.1 t2 = [108, 111]))) → MB c T0 er (xb (xExp 1 (t2 :: r2)) fun r3 => if tname E.1 t2 = [104, 105] then some (.inl (true, r3)) else if tname E.1 t2 = [108, 111] then some (.inl (false, r3)) else some (.inr (t2.2.1, 1))) (f76_68 (cz c i2 t2 er) (nn t2.2.1) x2 y0) := by
    intro x2 y0 hxy
    unfold f76_68
    by_cases h1 : t2.1 = 1
    · obtain ⟨rfl, rfl⟩ := hxy h1
      refine meb (c_exp C hd2 ht2.1 (by decide) (by decide)) (fun i3 t3 r3 hd3 => ?_)
      by_cases q1 : tname E.1 t2 = [104, 105]
      · have d1 : decide (tname E.1 t2 = [104, 105]) = true := by simpa using q1
        rw [d1, if_neg (show ¬ eb true = 0 by decide), if_pos (show bz (eb true) from Or.inr rfl), if_pos q1]
        exact ⟨i3, t3, r3, rfl, hd3, rfl⟩
      · have d1 : decide (tname E.1 t2 = [104, 105]) = false := by simpa using q1
        rw [d1, if_pos (show eb false = 0 by decide), if_neg q1]
        by_cases q2 : tname E.1 t2 = [108, 111]
        · have d2 : decide (tname E.1 t2 = [108, 111]) = true := by simpa using q2
          rw [d2, if_neg (show ¬ eb true = 0 by decide), if_pos (show bz (eb false) from Or.inl rfl), if_pos q2]
          exact ⟨i3, t3, r3, rfl, hd3, rfl⟩
        · have d2 : decide (tname E.1 t2 = [108, 111]) = false := by simpa using q2
          rw [d2, if_pos (show eb false = 0 by decide), if_neg q2]
          exact ⟨i3, t3, er, rfl⟩
    · have ex : xExp 1 (t2 :: r2) = some (.inr (t2.2.1, 1)) := by unfold xExp; simp only [if_neg h1]
      have := c_exp (er := er) C hd2 ht2.1 (k := 1) (by decide) (by decide)
      rw [ex] at this ⊢
      obtain ⟨i3, t3, er3, e9⟩ := this
      have e9 : f45 (cz c i2 t2 er) 1 = some (.inr (f46 (cz c i3 t3 er3) (nn t2.2.1) (nn 1))) := e9
      rw [e9]
      exact ⟨i3, t3, er3, rfl⟩
  have hxy : t2.1 = 1 → (y4 = 0 ↔ tname E.1 t2 = [104, 105]) ∧ (y5 = 0 ↔ tname E.1 t2 = [108, 111]) := by
    intro h1
    obtain ⟨n1, n2, n3⟩ := ht2.2.2.2.1 h1
    have hl9 : t2.2.2.2.1 - t2.2.1 < 100000 := by have := n3.1; omega
    have cm4 := c_cmp (cz_T (i := i2) (t := t2) (er := er) T) (cz_Y Y) n3 hl9 (k := 4) (by decide)
    have cm5 := c_cmp (cz_T (i := i2) (t := t2) (er := er) T) (cz_Y Y) n3 hl9 (k := 5) (by decide)
    rw [← n1] at cm4 cm5
    rw [o4] at cm4
    rw [o5] at cm5
    have s4 : sn 4 = [104, 105] := rfl
    have s5 : sn 5 = [108, 111] := rfl
    have b4 := lcmp_sm _ _ (nb_sm n3) (sn_sm (k := 4) (by decide))
    have b5 := lcmp_sm _ _ (nb_sm n3) (sn_sm (k := 5) (by decide))
    have z0 : (0 : Int32).toInt = 0 := rfl
    constructor
    · have hy := Option.some.inj cm4
      have hv := ofInt_sm b4.1 b4.2
      rw [hy]
      constructor
      · intro hh
        rw [hh] at hv
        show nb E.1 t2.2.1 (t2.2.2.2.1 - t2.2.1) = _
        rw [← s4]
        exact lcmp_eq _ _ (by omega)
      · intro hh
        have hh : nb E.1 t2.2.1 (t2.2.2.2.1 - t2.2.1) = sn 4 := hh
        rw [hh, lcmp_self]; rfl
    · have hy := Option.some.inj cm5
      have hv := ofInt_sm b5.1 b5.2
      rw [hy]
      constructor
      · intro hh
        rw [hh] at hv
        show nb E.1 t2.2.1 (t2.2.2.2.1 - t2.2.1) = _
        rw [← s5]
        exact lcmp_eq _ _ (by omega)
      · intro hh
        have hh : nb E.1 t2.2.1 (t2.2.2.2.1 - t2.2.1) = sn 5 := hh
        rw [hh, lcmp_self]; rfl
  by_cases p4 : y4 = 0
  · rw [if_pos p4]
    by_cases p5 : y5 = 0
    · rw [if_pos p5]
      refine key 1 1 (fun h1 => ?_)
      have := hxy h1
      have q1 := this.1.mp p4
      have q2 := this.2.mp p5
      rw [q1] at q2
      exact absurd q2 (by decide)
    · rw [if_neg p5]
      refine key 1 0 (fun h1 => ?_)
      have := hxy h1
      rw [decide_eq_true (this.1.mp p4), decide_eq_false (fun hh => p5 (this.2.mpr hh))]
      exact ⟨rfl, rfl⟩
  · rw [if_neg p4]
    by_cases p5 : y5 = 0
    · rw [if_pos p5]
      refine key 0 1 (fun h1 => ?_)
      have := hxy h1
      rw [decide_eq_true (this.2.mp p5), decide_eq_false (fun hh => p4 (this.1.mpr hh))]
      exact ⟨rfl, rfl⟩
    · rw [if_neg p5]
      refine key 0 0 (fun h1 => ?_)
      have := hxy h1
      rw [decide_eq_false (fun hh => p5 (this.2.mpr hh)), decide_eq_false (fun hh => p4 (this.1.mpr hh))]
      exact ⟨rfl, rfl⟩
/-- the class's function G follows the spec's X -/
def GX (c : cS) (T0 : List Tk) (X : Nat → Nat → Bool → List Tk → Option (Rx Xv)) (G : cS → Int32 → Int32 → Option ((Int32 × cS) ⊕ cS)) : Prop := ∀ (least d : Nat) (e : Bool) (i : Nat) (t : Tk) (r : List Tk), 0 < least → least ≤ 7 → d ≤ 16 → T0.drop i = t :: r → MV c T0 (X least d e (t :: r)) (G (cz c i t (eb e)) (nn least) (nn d))
theorem c_brack (X : CTX c L a z tl Ls T0 E) {F : Nat → Nat → Bool → List Tk → Option (Rx Xv)} {G : cS → Int32 → Int32 → Option ((Int32 × cS) ⊕ cS)} (H : GX c T0 F G) (hd : T0.drop i = t :: r) {d : Nat} (h16 : d ≤ 16) (e : Bool) : MV c T0 (xBr F d e (t :: r)) (f75 G (cz c i t (eb e)) (nn d)) := by
  have ht := tok_of X hd
  have C := X.1
  unfold xBr f75
  have e4 : (cz c i t (eb e)).1 11 4 = nn t.2.1 := rfl
  rw [q_lt (x := 16) (k := 16) rfl (by omega) (by decide), e4]
  by_cases hq : 16 ≤ d
  · simp only [if_pos hq]
    rw [if_neg (by omega)]
    exact ⟨i, t, eb e, rfl⟩
  · simp only [if_neg hq]
    rw [if_pos (by omega), nn_add1]
    refine mev (c_exp C hd ht.1 (by decide) (by decide)) (fun i2 t2 r2 hd2 => ?_)
    refine mvv (H 1 (d + 1) e i2 t2 r2 (by decide) (by decide) (by omega) hd2) (fun v e3 i3 t3 r3 hd3 => ?_)
    refine mev (c_exp C hd3 (tok_of X hd3).1 (by decide) (by decide)) (fun i4 t4 r4 hd4 => ?_)
    exact ⟨i4, t4, r4, rfl, hd4, rfl⟩
theorem mv_fin {v : Int32} {e : Bool} (hd : T0.drop i = t :: r) : MV c T0 (some (.inl (v, e, t :: r))) (some (.inl (v, cz c i t (eb e)))) := ⟨i, t, r, rfl, hd, rfl⟩
theorem c_atom (X : CTX c L a z tl Ls T0 E) {F : Nat → Nat → Bool → List Tk → Option (Rx Xv)} {G : cS → Int32 → Int32 → Option ((Int32 × cS) ⊕ cS)} (H : GX c T0 F G) (hd : T0.drop i = t :: r) {d : Nat} (h16 : d ≤ 16) (e : Bool) (f ad : Int32) : MV c T0 (xb (xAtom E F d e (t :: r)) fun q => some (.inl (f * q.1 + ad, q.2.1, q.2.2))) (f69_78 G (cz c i t (eb e)) (nn d) f ad) := by
  have ht := tok_of X hd
  have C := X.1
  unfold xAtom f69_78
  have e3 : (cz c i t (eb e)).1 11 3 = nn t.1 := rfl
  have e5 : (cz c i t (eb e)).1 11 5 = t.2.2.1 := rfl
  rw [e3, e5, q_eq (x := 1) (k := 1) rfl ht.1 (by decide), q_eq (x := 37) (k := 37) rfl ht.1 (by decide), q_eq (x := 40) (k := 40) rfl ht.1 (by decide), q_eq (x := 46) (k := 46) rfl ht.1 (by decide)]
  by_cases h1 : t.1 = 1
  · simp only [if_pos h1]
    exact mvv (c_name X hd h1 e) (fun v e3 i3 t3 r3 hd3 => mv_fin hd3)
  simp only [if_neg h1]
  by_cases h2 : t.1 = 37
  · simp only [if_pos h2]
    have := mbv (c_hilo (er := eb e) X hd) (g := fun h => xb (xb (xBr F d e h.2) fun q => some (.inl (if h.1 = true then f77 q.1 else f78 q.1, q.2.1, q.2.2))) fun q => some (.inl (f * q.1 + ad, q.2.1, q.2.2))) (h := fun r1 => tb (f75 G r1.2 (nn d)) fun r2 => if r1.1 = 0 then f69_188 G r2.2 ad (f78 r2.1) f else f69_188 G r2.2 ad (f77 r2.1) f) (fun b i2 t2 r2 hd2 => by
      have h3 := mvv (c_brack X H hd2 h16 e) (g := fun q => some (.inl (f * (if b = true then f77 q.1 else f78 q.1) + ad, q.2.1, q.2.2))) (h := fun r2 => if eb b = 0 then f69_188 G r2.2 ad (f78 r2.1) f else f69_188 G r2.2 ad (f77 r2.1) f) (fun v e3 i3 t3 r3 hd3 => by
        unfold f69_188
        cases b with
        | true => exact mv_fin hd3
        | false => exact mv_fin hd3)
      have ea : xb (xb (xBr F d e (t2 :: r2)) fun q => some (.inl (if b = true then f77 q.1 else f78 q.1, q.2.1, q.2.2))) (fun q => some (.inl (f * q.1 + ad, q.2.1, q.2.2))) = xb (xBr F d e (t2 :: r2)) (fun q => some (.inl (f * (if b = true then f77 q.1 else f78 q.1) + ad, q.2.1, q.2.2))) := by
        cases xBr F d e (t2 :: r2) with
        | none => rfl
        | some q => cases q <;> rfl
      show MV c T0 (xb (xb (xBr F d e (t2 :: r2)) fun q => some (.inl (if b = true then f77 q.1 else f78 q.1, q.2.1, q.2.2))) (fun q => some (.inl (f * q.1 + ad, q.2.1, q.2.2)))) _
      rw [ea]
      exact h3)
    have eb2 : xb (xb (xHiLo E.1 (t :: r)) fun h => xb (xBr F d e h.2) fun q => some (.inl (if h.1 = true then f77 q.1 else f78 q.1, q.2.1, q.2.2))) (fun q => some (.inl (f * q.1 + ad, q.2.1, q.2.2))) = xb (xHiLo E.1 (t :: r)) (fun h => xb (xb (xBr F d e h.2) fun q => some (.inl (if h.1 = true then f77 q.1 else f78 q.1, q.2.1, q.2.2))) fun q => some (.inl (f * q.1 + ad, q.2.1, q.2.2))) := by
      cases xHiLo E.1 (t :: r) with
      | none => rfl
      | some q => cases q <;> rfl
    rw [eb2]
    exact this
  simp only [if_neg h2]
  by_cases h3 : t.1 = 40
  · simp only [if_pos h3]
    exact mvv (c_brack X H hd h16 e) (fun v e3 i3 t3 r3 hd3 => mv_fin hd3)
  simp only [if_neg h3]
  by_cases h4 : t.1 = 46
  · simp only [if_pos h4]
    exact mvv (c_here X hd e) (fun v e3 i3 t3 r3 hd3 => mv_fin hd3)
  simp only [if_neg h4]
  have ec : xb (xb (xExp 2 (t :: r)) fun r => some (.inl (t.2.2.1, e, r))) (fun q => some (.inl (f * q.1 + ad, q.2.1, q.2.2))) = (xb (xExp 2 (t :: r)) (fun r => some (.inl (f * t.2.2.1 + ad, e, r))) : Option (Rx Xv)) := by
    cases xExp 2 (t :: r) with
    | none => rfl
    | some q => cases q <;> rfl
  rw [ec]
  exact mev (c_exp C hd ht.1 (by decide) (by decide)) (fun i2 t2 r2 hd2 => mv_fin hd2)
end CF
