/-! THE CLASS's expressions are the spec's. -/
def eb (b : Bool) : Int32 := if b = true then 1 else 0
/-- all that an expression of the class rests on -/
def CTX (c : cS) (L a z tl Ls : Nat) (T0 : List Tk) (E : Ev) : Prop := CLN c L T0 ∧ TC c E.1 a z ∧ BY c ∧ SXT c E.1 tl ∧ z ≤ tl ∧ SYM c E.1 tl E.2.1 Ls ∧ c.1 17 0 = nn E.2.2.2.2.2 ∧ E.2.2.2.2.2 ≤ 2 ∧ c.1 17 1 = E.2.2.2.2.1 ∧ c.1 17 2 = E.2.2.2.1 ∧ c.1 11 6 = nn E.2.2.1 ∧ E.2.2.1 < 100000 ∧ ∀ t ∈ T0, TOK E.1 a z t
def MV (c : cS) (T0 : List Tk) (x : Option (Rx Xv)) (y : Option ((Int32 × cS) ⊕ cS)) : Prop := match x with
  | none => True
  | some (.inl q) => ∃ i t r, q.2.2 = t :: r ∧ T0.drop i = t :: r ∧ y = some (.inl (q.1, cz c i t (eb q.2.1)))
  | some (.inr e) => ∃ i t er, y = some (.inr (f46 (cz c i t er) (nn e.1) (nn e.2)))
def MB (c : cS) (T0 : List Tk) (er : Int32) (x : Option (Rx (Bool × List Tk))) (y : Option ((Int32 × cS) ⊕ cS)) : Prop := match x with
  | none => True
  | some (.inl q) => ∃ i t r, q.2 = t :: r ∧ T0.drop i = t :: r ∧ y = some (.inl (eb q.1, cz c i t er))
  | some (.inr e) => ∃ i t er', y = some (.inr (f46 (cz c i t er') (nn e.1) (nn e.2)))
section CE
variable {c : cS} {L a z tl Ls i : Nat} {T0 r : List Tk} {t : Tk} {er : Int32} {E : Ev}
theorem mev {x : Option (Rx (List Tk))} {y : Option (cS ⊕ cS)} {g : List Tk → Option (Rx Xv)} {h : cS → Option ((Int32 × cS) ⊕ cS)} (H : ME c T0 er x y) (K : ∀ i t r, T0.drop i = t :: r → MV c T0 (g (t :: r)) (h (cz c i t er))) : MV c T0 (xb x g) (tb y h) := by
  cases x with
  | none => exact trivial
  | some q =>
    cases q with
    | inl q =>
      obtain ⟨i, t, r, e1, e2, e3⟩ := H
      subst e1
      rw [e3]
      exact K i t r e2
    | inr e =>
      obtain ⟨i, t, er', e3⟩ := H
      rw [e3]
      exact ⟨i, t, er', rfl⟩
theorem meb {x : Option (Rx (List Tk))} {y : Option (cS ⊕ cS)} {g : List Tk → Option (Rx (Bool × List Tk))} {h : cS → Option ((Int32 × cS) ⊕ cS)} (H : ME c T0 er x y) (K : ∀ i t r, T0.drop i = t :: r → MB c T0 er (g (t :: r)) (h (cz c i t er))) : MB c T0 er (xb x g) (tb y h) := by
  cases x with
  | none => exact trivial
  | some q =>
    cases q with
    | inl q =>
      obtain ⟨i, t, r, e1, e2, e3⟩ := H
      subst e1
      rw [e3]
      exact K i t r e2
    | inr e =>
      obtain ⟨i, t, er', e3⟩ := H
      rw [e3]
      exact ⟨i, t, er', rfl⟩
theorem mvv {x : Option (Rx Xv)} {y : Option ((Int32 × cS) ⊕ cS)} {g : Xv → Option (Rx Xv)} {h : Int32 × cS → Option ((Int32 × cS) ⊕ cS)} (H : MV c T0 x y) (K : ∀ v e i t r, T0.drop i = t :: r → MV c T0 (g (v, e, t :: r)) (h (v, cz c i t (eb e)))) : MV c T0 (xb x g) (tb y h) := by
  cases x with
  | none => exact trivial
  | some q =>
    cases q with
    | inl q =>
      obtain ⟨v, e, ts⟩ := q
      obtain ⟨i, t, r, e1, e2, e3⟩ := H
      have e1 : ts = t :: r := e1
      subst e1
      rw [e3]
      exact K v e i t r e2
    | inr e =>
      obtain ⟨i, t, er', e3⟩ := H
      rw [e3]
      exact ⟨i, t, er', rfl⟩
theorem mbv {x : Option (Rx (Bool × List Tk))} {y : Option ((Int32 × cS) ⊕ cS)} {g : Bool × List Tk → Option (Rx Xv)} {h : Int32 × cS → Option ((Int32 × cS) ⊕ cS)} (H : MB c T0 er x y) (K : ∀ b i t r, T0.drop i = t :: r → MV c T0 (g (b, t :: r)) (h (eb b, cz c i t er))) : MV c T0 (xb x g) (tb y h) := by
  cases x with
  | none => exact trivial
  | some q =>
    cases q with
    | inl q =>
      obtain ⟨b, ts⟩ := q
      obtain ⟨i, t, r, e1, e2, e3⟩ := H
      have e1 : ts = t :: r := e1
      subst e1
      rw [e3]
      exact K b i t r e2
    | inr e =>
      obtain ⟨i, t, er', e3⟩ := H
      rw [e3]
      exact ⟨i, t, er', rfl⟩
theorem tok_of (X : CTX c L a z tl Ls T0 E) (hd : T0.drop i = t :: r) : TOK E.1 a z t := by
  have hm : t ∈ T0.drop i := by rw [hd]; exact List.mem_cons_self
  exact X.2.2.2.2.2.2.2.2.2.2.2.2 t (List.mem_of_mem_drop hm)
theorem c_cbf {B : Nat → Nat} {tb : List Sy} (S : SYM c B tl tb Ls) {o : Option Nat} (ho : ∀ k, o = some k → k < tb.length) {ln : Nat} (hln : ln < 100000) : f72 c (jI o) (nn ln) = some (eb (cBf tb ln o)) := by
  obtain ⟨y1, y2, y3, y4, y5, y6, y7, y8, y9⟩ := S
  unfold f72
  cases o with
  | none => rw [if_pos (show jI none < 0 by decide)]; rfl
  | some k =>
    have hk := ho k rfl
    obtain ⟨⟨e0, e1, e2, e3, e4⟩, z1, z2, z3, z4, z5⟩ := y7 k hk
    have ejj : jI (some k) = nn k := rfl
    have ibj : ∀ q : Nat, cl c (c.2.1 2 q) = Ls → ib (nn k) (cl c (c.2.1 2 q)) := fun q hq => by rw [hq]; exact (nn_ib (by omega)).mpr (by omega)
    have a6 := y6 6 (by omega) (by omega)
    have a8 := y6 8 (by omega) (by omega)
    have c6 : ce c (c.2.1 2 6) (nn k) = nn (tb.getD k sy0).2.2.1 := by unfold ce; rw [nn_tn (by omega), z3]
    have c8 : ce c (c.2.1 2 8) (nn k) = nn (tb.getD k sy0).2.2.2.2 := by unfold ce; rw [nn_tn (by omega), z5]
    simp only [ejj, y1]
    rw [if_neg (nn_neg (by omega)), if_neg (fun hh => by have := (nn_le (by omega) (by omega)).mp hh; omega), if_pos ⟨a6.1, ibj 6 a6.2⟩, c6, q_eq (x := 2) (k := 2) rfl (by omega) (by decide), if_pos (show cB c 1 (c.2.1 2 8) (nn k) from ⟨a8.1, ibj 8 a8.2⟩), c8, nn_le2 (by omega) (by omega)]
    unfold cBf eb
    by_cases h2 : (tb.getD k sy0).2.2.1 = 2
    · rw [if_pos h2]
      by_cases h3 : ln ≤ (tb.getD k sy0).2.2.2.2
      · rw [if_pos h3, if_neg (by simp only [decide_eq_true_eq]; omega)]
      · rw [if_neg h3, if_pos (by simp only [decide_eq_true_eq]; omega)]
    · rw [if_neg h2, if_neg (by simp only [decide_eq_true_eq]; omega)]
theorem c_val {B : Nat → Nat} {tb : List Sy} (S : SYM c B tl tb Ls) {o : Option Nat} (ho : ∀ k, o = some k → k < tb.length) (base : Int32) : f73 c (jI o) base = some (sVal tb base o) := by
  obtain ⟨y1, y2, y3, y4, y5, y6, y7, y8, y9⟩ := S
  unfold f73
  cases o with
  | none => rw [if_pos (show jI none < 0 by decide)]; rfl
  | some k =>
    have hk := ho k rfl
    obtain ⟨⟨e0, e1, e2, e3, e4⟩, z1, z2, z3, z4, z5⟩ := y7 k hk
    have ejj : jI (some k) = nn k := rfl
    have ibj : ∀ q : Nat, cl c (c.2.1 2 q) = Ls → ib (nn k) (cl c (c.2.1 2 q)) := fun q hq => by rw [hq]; exact (nn_ib (by omega)).mpr (by omega)
    have a6 := y6 6 (by omega) (by omega)
    have a7 := y6 7 (by omega) (by omega)
    have c6 : ce c (c.2.1 2 6) (nn k) = nn (tb.getD k sy0).2.2.1 := by unfold ce; rw [nn_tn (by omega), z3]
    have c7 : ce c (c.2.1 2 7) (nn k) = (tb.getD k sy0).2.2.2.1 := by unfold ce; rw [nn_tn (by omega), z4]
    simp only [ejj, y1]
    rw [if_neg (nn_neg (by omega)), if_pos ((nn_lt (by omega) (by omega)).mpr hk), if_pos ⟨a6.1, ibj 6 a6.2⟩, c6, q_eq (x := 1) (k := 1) rfl (by omega) (by decide), if_pos (show cB c 1 (c.2.1 2 7) (nn k) from ⟨a7.1, ibj 7 a7.2⟩), c7]
    unfold sVal
    by_cases h2 : (tb.getD k sy0).2.2.1 = 1
    · simp only [if_pos h2]
    · simp only [if_neg h2, if_pos (show cB c 1 (c.2.1 2 7) (nn k) from ⟨a7.1, ibj 7 a7.2⟩)]
theorem sfind_lt {B : Nat → Nat} {tb : List Sy} {w : List Nat} : ∀ k, sfind B tb w = some k → k < tb.length := fun k h => (lastE_some h).1
theorem cz_S {B : Nat → Nat} {tb : List Sy} (S : SYM c B tl tb Ls) : SYM (cz c i t er) B tl tb Ls := S
theorem cz_X {B : Nat → Nat} (S : SXT c B tl) : SXT (cz c i t er) B tl := S
theorem cz_T {B : Nat → Nat} (S : TC c B a z) : TC (cz c i t er) B a z := S
theorem cz_Y (S : BY c) : BY (cz c i t er) := S
theorem c_name (X : CTX c L a z tl Ls T0 E) (hd : T0.drop i = t :: r) (h1 : t.1 = 1) (e : Bool) : MV c T0 (xName E e (t :: r)) (f71 (cz c i t (eb e))) := by
  have ht := tok_of X hd
  obtain ⟨n1, n2, n3⟩ := ht.2.2.2.1 h1
  obtain ⟨C, T, Y, SX, hzt, S, m0, m1, m2, m3, m4, m5, _⟩ := X
  have hn : NM E.1 tl t.2.1 (t.2.2.2.1 - t.2.1) := ⟨Nat.le_trans n3.1 hzt, n3.2⟩
  unfold xName f71
  refine mev (c_exp C hd ht.1 (by decide) (by decide)) (fun i2 t2 r2 hd2 => ?_)
  have e4 : (cz c i t (eb e)).1 11 4 = nn t.2.1 := rfl
  have e5 : (cz c i t (eb e)).1 11 5 = nn (t.2.2.2.1 - t.2.1) := n1
  rw [e4, e5, c_find (cz_X SX) (cz_S S) hn, Option.bind_some]
  have e6 : (cz c i2 t2 (eb e)).1 11 6 = nn E.2.2.1 := m4
  rw [e6, c_cbf (cz_S S) sfind_lt m5, Option.bind_some]
  have ew : tname E.1 t = nb E.1 t.2.1 (t.2.2.2.1 - t.2.1) := rfl
  rw [ew]
  have e0 : (cz c i2 t2 (eb e)).1 17 0 = nn E.2.2.2.2.2 := m0
  have m1' : E.2.2.2.2.2 < 256 := by omega
  have fin : ∀ b : Bool, MV c T0 (if sfind E.1 E.2.1 (nb E.1 t.2.1 (t.2.2.2.1 - t.2.1)) = none ∧ E.2.2.2.2.2 = 2 then some (.inr (t.2.1, 8)) else some (.inl (sVal E.2.1 E.2.2.2.1 (sfind E.1 E.2.1 (nb E.1 t.2.1 (t.2.2.2.1 - t.2.1))), b, t2 :: r2))) (f71_73 (cz c i2 t2 (eb b)) (nn t.2.1) (jI (sfind E.1 E.2.1 (nb E.1 t.2.1 (t.2.2.2.1 - t.2.1))))) := by
    intro b
    have e0 : (cz c i2 t2 (eb b)).1 17 0 = nn E.2.2.2.2.2 := m0
    have e2 : (cz c i2 t2 (eb b)).1 17 2 = E.2.2.2.1 := m3
    unfold f71_73 f71_96
    rw [e0, e2, q_eq (x := 2) (k := 2) rfl m1' (by decide), c_val (cz_S S) sfind_lt, Option.bind_some]
    cases hs : sfind E.1 E.2.1 (nb E.1 t.2.1 (t.2.2.2.1 - t.2.1)) with
    | none =>
      rw [if_pos (show jI none = -1 from rfl)]
      by_cases h2 : E.2.2.2.2.2 = 2
      · rw [if_pos h2, if_pos ⟨rfl, h2⟩]; exact ⟨i2, t2, eb b, rfl⟩
      · rw [if_neg h2, if_neg (fun hh => h2 hh.2)]; exact ⟨i2, t2, r2, rfl, hd2, rfl⟩
    | some k =>
      have hk := sfind_lt k hs
      have := S.2.1
      have := S.2.2.1
      rw [if_neg (show ¬ jI (some k) = -1 from nn_m1 (by omega)), if_neg (fun hh => by cases hh.1)]
      exact ⟨i2, t2, r2, rfl, hd2, rfl⟩
  rw [e0]
  have eg : cg (cz c i2 t2 (eb e)) 17 3 0 = cz c i2 t2 (eb false) := cu_e
  rw [eg]
  cases hb : cBf E.2.1 E.2.2.1 (sfind E.1 E.2.1 (nb E.1 t.2.1 (t.2.2.2.1 - t.2.1))) with
  | false =>
    rw [if_pos (show eb false = 0 from rfl), Bool.and_false]
    have q0 : (if nn E.2.2.2.2.2 = (0 : Int32) then some (Sum.inr (f46 (cz c i2 t2 (eb false)) (nn t.2.1) 4)) else f71_73 (cz c i2 t2 (eb false)) (nn t.2.1) (jI (sfind E.1 E.2.1 (nb E.1 t.2.1 (t.2.2.2.1 - t.2.1))))) = if E.2.2.2.2.2 = 0 then some (Sum.inr (f46 (cz c i2 t2 (eb false)) (nn t.2.1) 4)) else f71_73 (cz c i2 t2 (eb false)) (nn t.2.1) (jI (sfind E.1 E.2.1 (nb E.1 t.2.1 (t.2.2.2.1 - t.2.1)))) := q_eq (x := 0) (k := 0) rfl m1' (by decide)
    rw [q0]
    by_cases h0 : E.2.2.2.2.2 = 0
    · rw [if_pos h0, if_pos ⟨rfl, h0⟩]; exact ⟨i2, t2, eb false, rfl⟩
    · rw [if_neg h0, if_neg (fun hh => h0 hh.2)]; exact fin false
  | true =>
    rw [if_neg (show ¬ eb true = 0 by decide), if_neg (fun hh => by cases hh.1), Bool.and_true]
    exact fin e
theorem c_here (X : CTX c L a z tl Ls T0 E) (hd : T0.drop i = t :: r) (e : Bool) : MV c T0 (xHere E (t :: r)) (f74 (cz c i t (eb e))) := by
  have ht := tok_of X hd
  obtain ⟨C, T, Y, SX, hzt, S, m0, m1, m2, m3, m4, m5, _⟩ := X
  have m1' : E.2.2.2.2.2 < 256 := by omega
  have e0 : (cz c i t (eb e)).1 17 0 = nn E.2.2.2.2.2 := m0
  have e4 : (cz c i t (eb e)).1 11 4 = nn t.2.1 := rfl
  have eg : cg (cz c i t (eb e)) 17 3 0 = cz c i t (eb false) := cu_e
  unfold xHere f74
  rw [e0, e4, eg, q_eq (x := 0) (k := 0) rfl m1' (by decide)]
  by_cases h0 : E.2.2.2.2.2 = 0
  · simp only [if_pos h0]; exact ⟨i, t, eb false, rfl⟩
  · simp only [if_neg h0]
    refine mev (c_exp C hd ht.1 (by decide) (by decide)) (fun i2 t2 r2 hd2 => ?_)
    exact ⟨i2, t2, r2, rfl, hd2, by rw [show (cz c i2 t2 (eb false)).1 17 1 = E.2.2.2.2.1 from m2]⟩
end CE
