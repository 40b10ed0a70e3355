/-! THE REFERENCE's brackets. -/
theorem low12 (x : Int32) : x <<< ((20 : Int32) &&& 31) = (x &&& 4095) <<< ((20 : Int32) &&& 31) := by
  apply Int32.toBitVec_inj.mp
  rw [Int32.toBitVec_shiftLeft, Int32.toBitVec_shiftLeft]
  have e1 : ((20 : Int32) &&& 31).toBitVec.smod 32 = 20#32 := by decide
  have e2 : (4095 : Int32).toBitVec = 4095#32 := rfl
  rw [e1, Int32.toBitVec_and, e2, BitVec.shiftLeft_eq', BitVec.shiftLeft_eq']
  show x.toBitVec <<< 20 = (x.toBitVec &&& 4095#32) <<< 20
  generalize x.toBitVec = v
  apply BitVec.eq_of_getLsbD_eq
  intro i hi
  simp only [BitVec.getLsbD_shiftLeft, BitVec.getLsbD_and]
  by_cases h : i < 20
  · simp [h]
  · have h12 : i - 20 < 12 := by omega
    have : (4095#32 : BitVec 32).getLsbD (i - 20) = true := by
      have key : ∀ j, j < 12 → (4095#32 : BitVec 32).getLsbD j = true := by decide
      exact key _ h12
    simp [this]
theorem and4095 (x : Int32) : ∃ n, n < 4096 ∧ x &&& 4095 = nn n := by
  refine ⟨(x.toBitVec &&& 4095#32).toNat, ?_, ?_⟩
  · rw [BitVec.toNat_and]
    have : (4095#32 : BitVec 32).toNat = 4095 := rfl
    rw [this]
    have := @Nat.and_le_right x.toBitVec.toNat 4095
    omega
  · apply Int32.toBitVec_inj.mp
    rw [Int32.toBitVec_and]
    show x.toBitVec &&& 4095#32 = BitVec.ofNat 32 _
    rw [BitVec.ofNat_toNat, BitVec.setWidth_eq]
theorem low_eq (x : Int32) : f158 x = f78 x := by
  obtain ⟨n, hn, e⟩ := and4095 x
  unfold f158 f78
  rw [low12 x, e]
  have key : ∀ h : Nat, h < 64 → ∀ l : Nat, l < 64 → (if nn (h * 64 + l) ≤ (2047 : Int32) then nn (h * 64 + l) else nn (h * 64 + l) - 4096) = (nn (h * 64 + l) <<< ((20 : Int32) &&& 31)) >>> ((20 : Int32) &&& 31) := by decide +kernel
  have e9 : n / 64 * 64 + n % 64 = n := by omega
  have := key (n / 64) (by omega) (n % 64) (by omega)
  rw [e9] at this
  exact this
theorem high_eq (x : Int32) : f157 x = f77 x := by
  unfold f157 f77
  rw [low_eq]
/-- what a bracket makes of its value -/
def brv (what : Nat) (x : Int32) : Int32 := if what = 2 then f77 x else if what = 3 then f78 x else x
section BR
variable {m0 m : mS} {E : Ev} {z : Nat} {trk : Bool} {mode : Int32} {t : Tk} {r : List Tk} {V : List Int32} {S S1 : List Sg} {d : Nat} {e : Bool} {f a x : Int32}
theorem vdone2 {q : mS} (T : ST q (x :: V) S1 d) (hP : PFX S f a S1) (hO : OKS V S) : ∃ m1, f149 q mode = f149_74 m1 mode ∧ ST m1 ((f * x + a) :: V) S d ∧ FR [40] [42] q m1 := by
  rcases hP with ⟨rfl, rfl, rfl⟩ | ⟨w, rfl⟩
  · refine ⟨q, m_opd T (fun g r9 hg => ?_), ?_, FR_refl _ _ _⟩
    · subst hg; exact ⟨hO.1, hO.2.1⟩
    · have : (1 : Int32) * x + 0 = x := by rw [Int32.one_mul, Int32.add_zero]
      rw [this]; exact T
  · exact m_opd4 T
def OKC (S : List Sg) (least : Nat) : Prop := match S with
  | [] => True
  | g :: _ => g.1 < 256 ∧ ¬ g.1 = 4 ∧ lev g.1 < least
/-- X follows: as an expression, and (for least 7) as an operand -/
def PXX (m0 : mS) (E : Ev) (z : Nat) (trk : Bool) (mode : Int32) (X : Nat → Nat → Bool → List Tk → Option (Rx Xv)) : Prop :=
  (∀ least d e ts m V S, 0 < least → least ≤ 6 → d ≤ 16 → ALV m0 E z trk m ts V S d e → OKC S least → S.length + 1 ≤ 8 * d + least → V.length ≤ S.length → match X least d e ts with
    | none => True
    | some (.inl q) => q.2.2.length < ts.length ∧ ∃ m2 t r, q.2.2 = t :: r ∧ lev t.1 < least ∧ ALV m0 E z trk m2 (t :: r) (q.1 :: V) S d q.2.1 ∧ ∀ n rr, Ru mode n m2 1 rr → Ru mode (n + (ts.length - q.2.2.length)) m 0 rr
    | some (.inr p) => ∃ mD, Ru mode (ts.length + 1) m 0 (0, mD) ∧ DD m0 p.1 p.2 mD) ∧
  ∀ d e ts m V S, d ≤ 16 → ALV m0 E z trk m ts V S d e → OKS V S → S.length ≤ 8 * d + 6 → V.length ≤ S.length → ARX m0 E z trk mode m ts V S d 1 0 (X 7 d e ts)
/-- an opening bracket -/
theorem br_open (A : ALV m0 E z trk m (t :: r) V S1 d e) (hS : S1.length < 160) (h40 : t.1 = 40) (hf : t.2.2.2.2 = none) (hd : d < 16) (what : Nat) : ∃ m', f155 m (nn what) = some m' ∧ ALV m0 E z trk m' r V ((what, t.2.1, 1, 0) :: S1) (d + 1) e := by
  obtain ⟨A1, A2, A3, A4, A5, A6⟩ := A
  have e21 : m.1 21 = nn t.2.1 := by
    obtain ⟨T, t', r', e0, e1, e2, e3, e4⟩ := A2
    obtain ⟨rfl, rfl⟩ := List.cons.inj e0
    exact e3
  have e41 := A3.2.2.1
  have F0 : FR [41] [] m (mg m 41 (m.1 41 + 1)) := FR_g (FR_refl _ _ _) (by decide) _
  have T0 : ST (mg m 41 (m.1 41 + 1)) V S1 (d + 1) := by
    obtain ⟨a1, a2, a3, a4, a5, a6, a7⟩ := A3
    refine ⟨a1, a2, ?_, a4, SL_eq (m := m) (m' := mg m 41 (m.1 41 + 1)) rfl rfl rfl rfl a5, a6, a7⟩
    show m.1 41 + 1 = _
    rw [a3, nn_add1]
  obtain ⟨m1, p1, p2, p3⟩ := m_push T0 hS what t.2.1
  have F1 : FR [40, 41] [43, 44, 45, 46] m m1 := FR_trans (FR_mono F0 (by decide) (by decide)) (FR_mono p3 (by decide) (by decide))
  have M1 : MC m1 E.1 z (t :: r) := MC_fr F1 A2 (by decide) (by decide)
  obtain ⟨m2, n1, n2, n3⟩ := m_adv M1 (by omega) hf
  have T2 : ST m2 V ((what, t.2.1, 1, 0) :: S1) (d + 1) := ST_fr n3 p2 (by decide) (by decide)
  refine ⟨m2, ?_, FR_trans A1 (FR_trans (FR_mono F1 (by decide) (by decide)) (FR_mono n3 (by decide) (by decide))), n2, T2, ?_, ?_, ?_⟩
  · unfold f155 f155_18
    have c16 : ¬ m.1 41 = (16 : Int32) := by
      rw [e41]
      intro hh
      have := (nn_eq (b := 16) (by omega) (by omega)).mp hh
      omega
    rw [if_neg c16, e21, p1, Option.bind_some, n1]
    rfl
  · rw [n3.1 11 (by decide), F1.1 11 (by decide)]; exact A4
  · rw [n3.1 38 (by decide), F1.1 38 (by decide)]; exact A5
  · intro h; rw [n3.1 38 (by decide), F1.1 38 (by decide)]; exact A6 h
/-- one bracket too deep -/
theorem br_deep (A : ALV m0 E z trk m (t :: r) V S1 d e) (hS : S1.length < 160) (hd : d = 16) (what : Nat) : ∃ m', f155 m (nn what) = some m' ∧ DD m0 t.2.1 1 m' := by
  obtain ⟨A1, A2, A3, A4, A5, A6⟩ := A
  have hb : ∃ p, m.1 18 = nn p ∧ p < 600000 := by
    obtain ⟨T, t', r', e0, e1, e2, e3, e4, e5, e6, e7⟩ := A2
    exact ⟨_, e1, by omega⟩
  obtain ⟨q, q1, q2, q3, q4, q5⟩ := fail_at A2 A4 1
  have e41 := A3.2.2.1
  have F0 : FR [11, 12, 13, 41] [] m (mg q 41 (q.1 41 + 1)) := FR_g (FR_mono q2 (by decide) (by decide)) (by decide) _
  have T0 : ST (mg q 41 (q.1 41 + 1)) V S1 (d + 1) := by
    obtain ⟨a1, a2, a3, a4, a5, a6, a7⟩ := ST_fr q2 A3 (by decide) (by decide)
    refine ⟨a1, a2, ?_, a4, SL_eq (m := q) (m' := mg q 41 (q.1 41 + 1)) rfl rfl rfl rfl a5, a6, a7⟩
    show q.1 41 + 1 = _
    rw [a3, nn_add1]
  have e21 : (mg q 41 (q.1 41 + 1)).1 21 = nn t.2.1 := by
    rw [F0.1 21 (by decide)]
    obtain ⟨T, t', r', e0, e1, e2, e3, e4⟩ := A2
    obtain ⟨rfl, rfl⟩ := List.cons.inj e0
    exact e3
  obtain ⟨m1, p1, p2, p3⟩ := m_push T0 hS what t.2.1
  have F1 : FR [11, 12, 13, 40, 41] [43, 44, 45, 46] m m1 := FR_trans (FR_mono F0 (by decide) (by decide)) (FR_mono p3 (by decide) (by decide))
  obtain ⟨p9, hp1, hp2⟩ := hb
  have TX1 : TX m1 E.1 z := (MC_fr F1 A2 (by decide) (by decide)).1
  obtain ⟨m2, n1, n3⟩ := m_nextS TX1 (by rw [F1.1 18 (by decide)]; exact hp1) hp2
  have K : ∀ k, k = 11 ∨ k = 12 ∨ k = 13 → m2.1 k = q.1 k := by
    intro k hk
    rcases hk with rfl | rfl | rfl
    · rw [n3.1 11 (by decide), p3.1 11 (by decide)]; rfl
    · rw [n3.1 12 (by decide), p3.1 12 (by decide)]; rfl
    · rw [n3.1 13 (by decide), p3.1 13 (by decide)]; rfl
  refine ⟨m2, ?_, FR_trans A1 (FR_trans (FR_mono F1 (by decide) (by decide)) (FR_mono n3 (by decide) (by decide))), ?_, by decide, by decide, ?_, ?_, by rw [n3.1 38 (by decide), F1.1 38 (by decide)]; exact A5⟩
  · unfold f155 f155_18
    have c16 : m.1 41 = (16 : Int32) := by rw [e41, hd]; rfl
    have q1' : f131 m 1 (m.1 21) = some q := q1
    have e21' : q.1 21 = nn t.2.1 := e21
    rw [if_pos c16, q1', Option.bind_some, e21', p1, Option.bind_some, n1]
    rfl
  · rw [K 11 (Or.inl rfl)]; exact q3
  · rw [K 12 (Or.inr (Or.inl rfl)), q4, A1.1 16 (by decide)]
  · rw [K 13 (Or.inr (Or.inr rfl)), q5, A1.1 15 (by decide)]
end BR
