/-! THE REFERENCE's operands: numbers, names, the address here. -/
def IE9 : List Nat := [11, 12, 13, 18, 20, 21, 22, 23, 24, 38, 39, 40, 41]
def AE9 : List Nat := [25, 42, 43, 44, 45, 46]
/-- it goes on: the tokens at hand, the stacks, no error, late as the spec's early says -/
def ALV (m0 : mS) (E : Ev) (z : Nat) (trk : Bool) (m : mS) (ts : List Tk) (V : List Int32) (S : List Sg) (d : Nat) (e : Bool) : Prop := FR IE9 AE9 m0 m ∧ MC m E.1 z ts ∧ ST m V S d ∧ m.1 11 = 0 ∧ bz (m.1 38) ∧ (trk = true → m.1 38 = eb (!e))
/-- the error stands -/
def DD (m0 : mS) (p k : Nat) (m : mS) : Prop := FR IE9 AE9 m0 m ∧ m.1 11 = nn k ∧ 0 < k ∧ k < 100 ∧ m.1 12 = nn p - m0.1 16 ∧ m.1 13 = m0.1 15 ∧ bz (m.1 38)
def Ru (mode : Int32) (n : Nat) (m : mS) (w : Int32) (r : Int32 × mS) : Prop := ∀ u, n ≤ u → f146_19 u m mode w 1 = some r
/-- behind an operand's value: * / % at once, the next token, and on -/
def Ct (mode : Int32) (n : Nat) (m1 : mS) (r : Int32 × mS) : Prop := ∀ u, n ≤ u → ((f149_74 m1 mode).bind fun r1 => if r1.1 11 = 0 then (f117 r1).bind fun r2 => f146_19 u r2 mode 1 1 else f146_19 u r1 mode 1 1) = some r
def NVI (m0 : mS) (E : Ev) (z : Nat) (trk : Bool) (mode : Int32) : Prop := (∀ m t r e V S d, ALV m0 E z trk m (t :: r) V S d e → t.1 = 1 → t.2.2.2.2 = none → match xName E e (t :: r) with
    | none => False
    | some (.inl q) => q.2.2 = r ∧ ∃ m', f148 m mode = some (q.1, m') ∧ FR [38] [] m m' ∧ bz (m'.1 38) ∧ (trk = true → m'.1 38 = eb (!q.2.1))
    | some (.inr p) => ∃ v m', f148 m mode = some (v, m') ∧ FR [11, 12, 13, 38] [] m m' ∧ bz (m'.1 38) ∧ m'.1 11 = nn p.2 ∧ 0 < p.2 ∧ p.2 < 100 ∧ m'.1 12 = nn p.1 - m.1 16 ∧ m'.1 13 = m.1 15) ∧
  ∀ m t r, FR IE9 AE9 m0 m → MC m E.1 z (t :: r) → t.1 = 1 → ¬ m.1 11 ≤ 0 → f148 m mode = some (0, m)
def PFX (S : List Sg) (f a : Int32) (S1 : List Sg) : Prop := (S1 = S ∧ f = 1 ∧ a = 0) ∨ ∃ w, S1 = (4, w, f, a) :: S
def ARX (m0 : mS) (E : Ev) (z : Nat) (trk : Bool) (mode : Int32) (m : mS) (ts : List Tk) (V : List Int32) (S : List Sg) (d : Nat) (f a : Int32) (res : Option (Rx Xv)) : Prop := match res with
  | none => True
  | some (.inl q) => ∃ m1 tl, ALV m0 E z trk m1 (tl :: q.2.2) ((f * q.1 + a) :: V) S d q.2.1 ∧ ¬ tl.1 = 0 ∧ tl.2.2.2.2 = none ∧ q.2.2.length < ts.length ∧ ∀ n r, Ct mode n m1 r → Ru mode (n + (ts.length - q.2.2.length)) m 0 r
  | some (.inr p) => ∃ mD, Ru mode (ts.length + 1) m 0 (0, mD) ∧ DD m0 p.1 p.2 mD
section AT
variable {m0 m : mS} {E : Ev} {z : Nat} {trk : Bool} {mode : Int32} {t : Tk} {r : List Tk} {V : List Int32} {S S1 : List Sg} {d : Nat} {e : Bool} {f a x : Int32}
theorem vdone {q : mS} (T : ST q V S1 d) (hP : PFX S f a S1) (hO : OKS V S) (hV : V.length < 160) (x : Int32) : ∃ m1, f149 (mg (mb q 42 (q.1 39) x) 39 (q.1 39 + 1)) mode = f149_74 m1 mode ∧ ST m1 ((f * x + a) :: V) S d ∧ FR [39, 40] [42] q m1 := by
  obtain ⟨v1, v2, v3⟩ := m_val T hV x
  rcases hP with ⟨rfl, rfl, rfl⟩ | ⟨w, rfl⟩
  · refine ⟨_, m_opd v1 (fun g r9 hg => ?_), ?_, FR_mono v3 (by decide) (by decide)⟩
    · subst hg; exact ⟨hO.1, hO.2.1⟩
    · have : (1 : Int32) * x + 0 = x := by rw [Int32.one_mul, Int32.add_zero]
      rw [this]; exact v1
  · obtain ⟨m', q1, q2, q3⟩ := m_opd4 (mode := mode) v1
    exact ⟨m', q1, q2, FR_trans (FR_mono v3 (by decide) (by decide)) (FR_mono q3 (by decide) (by decide))⟩
theorem mg_same {q : mS} {k : Nat} {b : Int32} (h : q.1 k = b) : mg q k b = q := by
  refine Prod.ext (funext fun j => ?_) rfl
  show upd q.1 k b j = q.1 j
  unfold upd
  by_cases hj : j = k
  · rw [if_pos hj, hj, h]
  · rw [if_neg hj]
theorem f64_push {q : mS} (h20 : ¬ q.1 20 = 4) (hb : bz (q.1 38)) (hi : ib (q.1 39) 160) (v : Int32) : f147_64 q mode v = (f149 (mg (mb q 42 (q.1 39) v) 39 (q.1 39 + 1)) mode).bind fun r1 => some (1, r1) := by
  unfold f147_64 f147_81 f147_86 f147_110
  have i39 : ∀ b : Int32, (mg q 38 b).1 39 = q.1 39 := fun _ => rfl
  rcases hb with hb | hb
  · rw [if_pos hb, if_neg h20, if_pos (Or.inl rfl), if_neg h20, mg_same hb, if_pos hi]
  · rw [if_neg (by rw [hb]; decide), if_pos (Or.inr rfl), if_neg h20, mg_same hb, if_pos hi]
theorem tc_ne4 {k : Nat} (h : ¬ 4 ≤ k) : ¬ tcode k = 4 := fun hh => h (tcode_4.mp hh)
/-- an operand's value is pushed while all is well -/
theorem at_ok {m1 : mS} (A : ALV m0 E z trk m (t :: r) V S1 d e) (hP : PFX S f a S1) (hO : OKS V S) (hV : V.length < 159) (h0 : ¬ t.1 = 0) (hf : t.2.2.2.2 = none) {q : mS} (hq : FR [38] [] m q) (hb : bz (q.1 38)) {e' : Bool} (he : trk = true → q.1 38 = eb (!e')) (hs : f147 m mode = (f149 (mg (mb q 42 (q.1 39) x) 39 (q.1 39 + 1)) mode).bind fun r1 => some (1, r1)) : ARX m0 E z trk mode m (t :: r) V S d f a (some (.inl (x, e', r))) := by
  obtain ⟨A1, A2, A3, A4, A5, A6⟩ := A
  have Tq : ST q V S1 d := ST_fr hq A3 (by decide) (by decide)
  obtain ⟨m1, d1, d2, d3⟩ := vdone (mode := mode) Tq hP hO (by omega) x
  have F1 : FR [38, 39, 40] [42] m m1 := FR_trans (FR_mono hq (by decide) (by decide)) (FR_mono d3 (by decide) (by decide))
  have e38 : m1.1 38 = q.1 38 := d3.1 38 (by decide)
  refine ⟨m1, t, ⟨FR_trans A1 (FR_mono F1 (by decide) (by decide)), MC_fr F1 A2 (by decide) (by decide), d2, ?_, by rw [e38]; exact hb, fun h => by rw [e38]; exact he h⟩, h0, hf, by simp, ?_⟩
  · rw [F1.1 11 (by decide)]; exact A4
  · intro n rr hC u hu
    have eu : u = (u - 1) + 1 := by simp at hu; omega
    have := hC (u - 1) (by simp at hu; omega)
    rw [eu, lp_0 A4, hs, d1]
    cases hg : f149_74 m1 mode with
    | none => rw [hg] at this; cases this
    | some r1 =>
      rw [hg, Option.bind_some] at this
      rw [Option.bind_some, Option.bind_some, if_neg (show ¬ ((1 : Int32), r1).1 = 0 from (by decide : ¬ (1 : Int32) = 0))]
      exact this
/-- an operand that is wrong: the error stands, its value is pushed all the same -/
theorem at_bad (A : ALV m0 E z trk m (t :: r) V S1 d e) (hP : PFX S f a S1) (hO : OKS V S) (hV : V.length < 159) {q : mS} {pl kd : Nat} (hq : FR [11, 12, 13, 38] [] m q) (hb : bz (q.1 38)) (hk : q.1 11 = nn kd) (hk0 : 0 < kd) (hk1 : kd < 100) (hp : q.1 12 = nn pl - m.1 16) (hl : q.1 13 = m.1 15) (hs : f147 m mode = (f149 (mg (mb q 42 (q.1 39) x) 39 (q.1 39 + 1)) mode).bind fun r1 => some (1, r1)) : ARX m0 E z trk mode m (t :: r) V S d f a (some (.inr (pl, kd))) := by
  obtain ⟨A1, A2, A3, A4, A5, A6⟩ := A
  have Tq : ST q V S1 d := ST_fr hq A3 (by decide) (by decide)
  obtain ⟨m1, d1, d2, d3⟩ := vdone (mode := mode) Tq hP hO (by omega) x
  have nz : ¬ nn kd = (0 : Int32) := fun hh => by
    have := (nn_eq (b := 0) (by omega) (by omega)).mp hh
    omega
  have n11 : ¬ m1.1 11 = 0 := by rw [d3.1 11 (by decide), hk]; exact nz
  obtain ⟨m2, V2, S2, g1, g2, g3, g4⟩ := f74_dead (mode := mode) d2 hO (by rw [d3.1 38 (by decide)]; exact hb) n11
  have K2 : m2.1 11 = q.1 11 ∧ m2.1 12 = q.1 12 ∧ m2.1 13 = q.1 13 := ⟨(g2.1 11 (by decide)).trans (d3.1 11 (by decide)), (g2.1 12 (by decide)).trans (d3.1 12 (by decide)), (g2.1 13 (by decide)).trans (d3.1 13 (by decide))⟩
  have F2 : FR IE9 AE9 m0 m2 := FR_trans A1 (FR_trans (FR_mono hq (by decide) (by decide)) (FR_trans (FR_mono d3 (by decide) (by decide)) (FR_mono g2 (by decide) (by decide))))
  have n2 : ¬ m2.1 11 = 0 := by rw [K2.1, hk]; exact nz
  have e16 : m.1 16 = m0.1 16 := A1.1 16 (by decide)
  have e15 : m.1 15 = m0.1 15 := A1.1 15 (by decide)
  refine ⟨m2, ?_, F2, by rw [K2.1, hk], hk0, hk1, by show m2.1 12 = nn pl - m0.1 16; rw [K2.2.1, hp, e16], by rw [K2.2.2, hl, e15], g3⟩
  intro u hu
  have eu : u = (u - 2) + 1 + 1 := by simp at hu; omega
  rw [eu, lp_0 A4, hs, d1, g1]
  rw [Option.bind_some, Option.bind_some, if_neg (show ¬ ((1 : Int32), m2).1 = 0 from (by decide : ¬ (1 : Int32) = 0)), if_neg (show ¬ ((1 : Int32), m2).2.1 11 = 0 from n2)]
  exact lp_dead n2 _
end AT
