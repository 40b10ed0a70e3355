/-! THE REFERENCE's expression is the spec's. -/
section EX
variable {m0 m : mS} {E : Ev} {z : Nat} {trk : Bool} {mode : Int32} {t : Tk} {r : List Tk} {V : List Int32} {S : List Sg} {d least : Nat} {e : Bool} {x y : Int32} {X : Nat → Nat → Bool → List Tk → Option (Rx Xv)}
def MOD (E : Ev) (mode : Int32) : Prop := (E.2.2.2.2.2 = 0 ∧ mode = 0) ∨ (E.2.2.2.2.2 = 2 ∧ mode = 2) ∨ (E.2.2.2.2.2 = 1 ∧ (mode = 1 ∨ mode = 3))
theorem MOD_0 (h : MOD E mode) : mode = 0 ↔ E.2.2.2.2.2 = 0 := by
  rcases h with ⟨h1, h2⟩ | ⟨h1, h2⟩ | ⟨h1, h2 | h2⟩
  · exact ⟨fun _ => h1, fun _ => h2⟩
  · exact ⟨fun h => by rw [h2] at h; exact absurd h (by decide), fun h => by omega⟩
  · exact ⟨fun h => by rw [h2] at h; exact absurd h (by decide), fun h => by omega⟩
  · exact ⟨fun h => by rw [h2] at h; exact absurd h (by decide), fun h => by omega⟩
theorem and31 (y : Int32) : (y &&& (31 : Int32)) &&& 31 = y &&& 31 := by
  rw [Int32.and_assoc]
  rfl
theorem join_wk {mo k : Nat} (hk : 0 < lev k) (hz : (k = 47 ∨ k = 37) → ¬ y = 0) (pl : Nat) : xJoin mo k x y pl e = .inl (wk k x y, e) := by
  have hc : k = 37 ∨ k = 38 ∨ k = 42 ∨ k = 43 ∨ k = 45 ∨ k = 47 ∨ k = 60 ∨ k = 62 ∨ k = 94 ∨ k = 124 := by
    unfold lev at hk
    repeat' split at hk
    all_goals omega
  rcases hc with rfl | rfl | rfl | rfl | rfl | rfl | rfl | rfl | rfl | rfl
  · show (if y = 0 then _ else (.inl (x - x / y * y, e) : Rx (Int32 × Bool))) = _
    rw [if_neg (hz (Or.inr rfl))]; rfl
  · rfl
  · rfl
  · rfl
  · rfl
  · show (if y = 0 then _ else (.inl (x / y, e) : Rx (Int32 × Bool))) = _
    rw [if_neg (hz (Or.inl rfl))]; rfl
  · show (.inl (x <<< ((y &&& (31 : Int32)) &&& 31), e) : Rx (Int32 × Bool)) = .inl (x <<< (y &&& 31), e)
    rw [and31]
  · show (.inl (x >>> ((y &&& (31 : Int32)) &&& 31), e) : Rx (Int32 × Bool)) = .inl (x >>> (y &&& 31), e)
    rw [and31]
  · rfl
  · rfl
theorem join_0 {mo k : Nat} (hk : k = 47 ∨ k = 37) (pl : Nat) : xJoin mo k x 0 pl e = if mo = 0 then .inr (pl, 5) else if mo = 2 then .inr (pl, 9) else .inl (0, false) := by
  rcases hk with rfl | rfl <;> rfl
theorem MC_22 {B : Nat → Nat} (M : MC m B z (t :: r)) (h : 4 < t.1) : m.1 22 = nn t.1 := by
  obtain ⟨T, t', r', e0, e1, e2, e3, e4, e5, e6⟩ := M
  obtain ⟨rfl, rfl⟩ := List.cons.inj e0
  exact e5.2.1 h
theorem lp_1 {u : Nat} {m' : mS} (h11 : m.1 11 = 0) (h : f156 m mode = some (1, m')) : f146_19 (u + 1) m mode 1 1 = f146_19 u m' mode 0 1 := by
  have c10 : ¬ (1 : Int32) = 0 := by decide
  rw [f146_19, if_neg c10, if_pos h11, if_neg c10, h, Option.bind_some, if_neg c10]
theorem OKC_low {l : Nat} (h : OKC S least) (hl : least ≤ l) : low9 S l := by
  cases S with
  | nil => exact trivial
  | cons g r =>
    have h : g.1 < 256 ∧ ¬ g.1 = 4 ∧ lev g.1 < least := h
    exact ⟨h.1, by omega⟩
theorem OKC_OKS (h : OKC S least) (hl : least ≤ 6) : OKS V S := by
  cases S with
  | nil => exact trivial
  | cons g r =>
    have h : g.1 < 256 ∧ ¬ g.1 = 4 ∧ lev g.1 < least := h
    exact ⟨h.1, h.2.1, fun h6 => by omega⟩
theorem OKC_no6 (h : OKC S least) (hl : least ≤ 6) : no6 S := by
  cases S with
  | nil => exact trivial
  | cons g r =>
    have h : g.1 < 256 ∧ ¬ g.1 = 4 ∧ lev g.1 < least := h
    exact ⟨h.1, by omega⟩
/-- an operator is taken -/
theorem op_push (A : ALV m0 E z trk m (t :: r) V S d e) (hC : OKC S least) (hl : least ≤ lev t.1) (h0 : 0 < least) (hf : t.2.2.2.2 = none) (hS : S.length < 160) : ∃ m', f156 m mode = some (1, m') ∧ ALV m0 E z trk m' r V ((t.1, t.2.1, 1, 0) :: S) d e := by
  have M := A.2.1
  have hlev := lev_le t.1
  have h4 := lev_pos (show 0 < lev t.1 by omega)
  have e21 := MC_21 M
  have e22 := MC_22 M h4
  obtain ⟨q, p1, p2, p3⟩ := m_push A.2.2.1 hS t.1 t.2.1
  obtain ⟨m', n1, n2, n3⟩ := m_adv (MC_fr p3 M (by decide) (by decide)) (by omega) hf
  refine ⟨m', ?_, FR_trans A.1 (FR_trans (FR_mono p3 (by decide) (by decide)) (FR_mono n3 (by decide) (by decide))), n2, ST_fr n3 p2 (by decide) (by decide), ?_, ?_, ?_⟩
  · rw [m_goes M A.2.2.2.1, if_neg (by omega), takes_ok M hf (by omega), Option.bind_some, g35_end A.2.2.1 (OKC_low hC hl) (by omega)]
    unfold f156_68
    rw [e22, e21, p1, Option.bind_some, n1]
    rfl
  · rw [n3.1 11 (by decide), p3.1 11 (by decide)]; exact A.2.2.2.1
  · rw [n3.1 38 (by decide), p3.1 38 (by decide)]; exact A.2.2.2.2.1
  · intro h; rw [n3.1 38 (by decide), p3.1 38 (by decide)]; exact A.2.2.2.2.2 h
/-- a flawed operator -/
theorem op_bad (A : ALV m0 E z trk m (t :: r) V S d e) (hC : OKC S least) (hl : least ≤ lev t.1) (h0 : 0 < least) {w : Nat} (hf : t.2.2.2.2 = some w) (hS : S.length < 160) : ∃ mD, Ru mode 2 m 1 (0, mD) ∧ DD m0 w 1 mD := by
  have M := A.2.1
  have hlev := lev_le t.1
  have h4 := lev_pos (show 0 < lev t.1 by omega)
  have e21 := MC_21 M
  have e22 := MC_22 M h4
  obtain ⟨q, q1, q2, q3, q4, q5⟩ := takes_bad M A.2.2.2.1 hf (by omega)
  have Tq : ST q V S d := ST_fr q2 A.2.2.1 (by decide) (by decide)
  obtain ⟨q9, p1, p2, p3⟩ := m_push Tq hS t.1 t.2.1
  have F9 : FR [11, 12, 13, 40] [43, 44, 45, 46] m q9 := FR_trans (FR_mono q2 (by decide) (by decide)) (FR_mono p3 (by decide) (by decide))
  have hb : ∃ p, q9.1 18 = nn p ∧ p < 600000 := by
    obtain ⟨T, t', r', e0, e1, e2, e3, e4, e5, e6, e7⟩ := M
    exact ⟨_, by rw [F9.1 18 (by decide)]; exact e1, by omega⟩
  obtain ⟨p9, hb1, hb2⟩ := hb
  obtain ⟨mD, n1, n3⟩ := m_nextS (MC_fr F9 M (by decide) (by decide)).1 hb1 hb2
  have D : DD m0 w 1 mD := ⟨FR_trans A.1 (FR_trans (FR_mono F9 (by decide) (by decide)) (FR_mono n3 (by decide) (by decide))), by rw [n3.1 11 (by decide), p3.1 11 (by decide)]; exact q3, by decide, by decide, by rw [n3.1 12 (by decide), p3.1 12 (by decide), q4, A.1.1 16 (by decide)], by rw [n3.1 13 (by decide), p3.1 13 (by decide), q5, A.1.1 15 (by decide)], by rw [n3.1 38 (by decide), F9.1 38 (by decide)]; exact A.2.2.2.2.1⟩
  have h156 : f156 m mode = some (1, mD) := by
    rw [m_goes M A.2.2.2.1, if_neg (by omega), q1, Option.bind_some, g35_end Tq (OKC_low hC hl) (by omega)]
    unfold f156_68
    rw [show q.1 22 = nn t.1 by rw [q2.1 22 (by decide)]; exact e22, show q.1 21 = nn t.2.1 by rw [q2.1 21 (by decide)]; exact e21, p1, Option.bind_some, n1]
    rfl
  refine ⟨mD, ?_, D⟩
  intro u hu
  have eu : u = (u - 1) + 1 := by omega
  rw [eu, lp_1 A.2.2.2.1 h156]
  exact Ru_dead (n := 1) (by omega) (DD_ne D) (u - 1) (by omega)
/-- behind an operand's value, where nothing is reduced at once -/
theorem ct_next {tl : Tk} (A : ALV m0 E z trk m (tl :: r) V S d e) (h0 : ¬ tl.1 = 0) (hf : tl.2.2.2.2 = none) : ∃ m2, f117 m = some m2 ∧ ALV m0 E z trk m2 r V S d e := by
  obtain ⟨m2, n1, n2, n3⟩ := m_adv A.2.1 h0 hf
  exact ⟨m2, n1, FR_trans A.1 (FR_mono n3 (by decide) (by decide)), n2, ST_fr n3 A.2.2.1 (by decide) (by decide), by rw [n3.1 11 (by decide)]; exact A.2.2.2.1, by rw [n3.1 38 (by decide)]; exact A.2.2.2.2.1, fun h => by rw [n3.1 38 (by decide)]; exact A.2.2.2.2.2 h⟩
theorem ALV_ne {ts : List Tk} (A : ALV m0 E z trk m ts V S d e) : ∃ t r, ts = t :: r := by
  obtain ⟨_, t, r, h, _⟩ := A.2.1
  exact ⟨t, r, h⟩
/-- what the loop over operators comes to -/
def LRX (m0 : mS) (E : Ev) (z : Nat) (trk : Bool) (mode : Int32) (least : Nat) (m : mS) (ts : List Tk) (V : List Int32) (S : List Sg) (d : Nat) (res : Option (Rx Xv)) : Prop := match res with
  | none => True
  | some (.inl q) => q.2.2.length ≤ ts.length ∧ ∃ m2 t r, q.2.2 = t :: r ∧ lev t.1 < least ∧ ALV m0 E z trk m2 (t :: r) (q.1 :: V) S d q.2.1 ∧ ∀ n rr, Ru mode n m2 1 rr → Ru mode (n + (ts.length - q.2.2.length)) m 1 rr
  | some (.inr p) => ∃ mD, Ru mode (ts.length + 1) m 1 (0, mD) ∧ DD m0 p.1 p.2 mD
theorem lrx_via {ts ts' : List Tk} {m' : mS} {res : Option (Rx Xv)} {k : Nat} (hk : ts'.length + k ≤ ts.length) (h : ∀ n rr, Ru mode n m' 1 rr → Ru mode (n + k) m 1 rr) (H : LRX m0 E z trk mode least m' ts' V S d res) : LRX m0 E z trk mode least m ts V S d res := by
  cases res with
  | none => exact trivial
  | some y =>
    cases y with
    | inl q =>
      obtain ⟨k0, m2, t, r, k1, k2, k3, k4⟩ := H
      refine ⟨by omega, m2, t, r, k1, k2, k3, fun n rr hR => ?_⟩
      exact Ru_mono (by omega) (h _ rr (k4 n rr hR))
    | inr p =>
      obtain ⟨mD, k1, k2⟩ := H
      exact ⟨mD, Ru_mono (by omega) (h _ _ k1), k2⟩
theorem m_loop (hM : MOD E mode) (PX : PXX m0 E z trk mode X) (h0 : 0 < least) (h6 : least ≤ 6) (hd : d ≤ 16) : ∀ (n : Nat) (left : Int32) (e : Bool) (ts : List Tk) (m : mS) (V : List Int32) (S : List Sg), ALV m0 E z trk m ts (left :: V) S d e → OKC S least → S.length + 1 ≤ 8 * d + least → V.length ≤ S.length → LRX m0 E z trk mode least m ts V S d (xLp X E.2.2.2.2.2 least d n left e ts) := by
  intro n
  induction n with
  | zero => intro left e ts m V S _ _ _ _; exact trivial
  | succ n ih =>
    intro left e ts m V S A hC hS hV
    obtain ⟨t, r, rfl⟩ := ALV_ne A
    have hlev := lev_le t.1
    rw [xLp]
    by_cases hq : least ≤ lev t.1
    · simp only [if_pos hq]
      have h4 := lev_pos (show 0 < lev t.1 by omega)
      cases hf : t.2.2.2.2 with
      | some w =>
        have ex : xExp t.1 (t :: r) = some (.inr (w, 1)) := by unfold xExp; simp only [if_true, hf]
        rw [ex]
        obtain ⟨mD, k1, k2⟩ := op_bad (mode := mode) A hC hq h0 hf (by omega)
        exact ⟨mD, Ru_mono (by rw [List.length_cons]; omega) k1, k2⟩
      | none =>
        have ex : xExp t.1 (t :: r) = some (.inl r) := by unfold xExp; simp only [if_true, hf]
        rw [ex]
        obtain ⟨m3, p1, A3⟩ := op_push (mode := mode) A hC hq h0 hf (by omega)
        have step : ∀ k w9 rr, Ru mode k m3 0 rr → w9 = k + 1 → Ru mode w9 m 1 rr := by
          intro k w9 rr hR hw u hu
          have eu : u = (u - 1) + 1 := by omega
          rw [eu, lp_1 A.2.2.2.1 p1]
          exact hR (u - 1) (by omega)
        show LRX m0 E z trk mode least m (t :: r) V S d (xb (X (lev t.1 + 1) d e r) fun q => xb (some (xJoin E.2.2.2.2.2 t.1 left q.1 t.2.1 q.2.1)) fun w => xLp X E.2.2.2.2.2 least d n w.1 w.2 q.2.2)
        by_cases h5 : lev t.1 ≤ 5
        · -- levels 1 to 5: reduced when the next operator asks for it
          have hz : (t.1 = 47 ∨ t.1 = 37) → False := by
            intro h
            have : lev t.1 = 6 := by rcases h with h | h <;> rw [h] <;> rfl
            omega
          have hX := PX.1 (lev t.1 + 1) d e r m3 (left :: V) ((t.1, t.2.1, 1, 0) :: S) (by omega) (by omega) hd A3 ⟨MC_256 A.2.1, by show ¬ t.1 = 4; omega, by show lev t.1 < lev t.1 + 1; omega⟩ (by rw [List.length_cons]; omega) (by rw [List.length_cons, List.length_cons]; omega)
          cases hx : X (lev t.1 + 1) d e r with
          | none => exact trivial
          | some y9 =>
            rw [hx] at hX
            cases y9 with
            | inr p =>
              obtain ⟨mD, k1, k2⟩ := hX
              exact ⟨mD, Ru_mono (by rw [List.length_cons]; exact Nat.le_refl _) (step _ _ _ k1 rfl), k2⟩
            | inl q9 =>
              obtain ⟨y, e2, ts4⟩ := q9
              obtain ⟨k0, m4, t4, r4, k1, k2, k3, k4⟩ := hX
              have k1 : ts4 = t4 :: r4 := k1
              subst k1
              have k0 : (t4 :: r4).length < r.length := k0
              have k4 : ∀ n rr, Ru mode n m4 1 rr → Ru mode (n + (r.length - (t4 :: r4).length)) m3 0 rr := k4
              show LRX m0 E z trk mode least m (t :: r) V S d (xb (some (xJoin E.2.2.2.2.2 t.1 left y t.2.1 e2)) fun w => xLp X E.2.2.2.2.2 least d n w.1 w.2 (t4 :: r4))
              rw [join_wk (by omega) (fun h => (hz h).elim)]
              have F5 := rdS_fr (m := m4) S.length V.length (wk t.1 left y)
              have A5 : ALV m0 E z trk (rdS m4 S.length V.length (wk t.1 left y)) (t4 :: r4) (wk t.1 left y :: V) S d e2 := ⟨FR_trans k3.1 (FR_mono F5 (by decide) (by decide)), MC_fr F5 k3.2.1 (by decide) (by decide), rdS_st k3.2.2.1 _, k3.2.2.2.1, k3.2.2.2.2.1, k3.2.2.2.2.2⟩
              have hcomm : ∀ u, f146_19 u m4 mode 1 1 = f146_19 u (rdS m4 S.length V.length (wk t.1 left y)) mode 1 1 := fun u => m_commL k3.2.1 k3.2.2.2.1 k3.2.2.2.2.1 k3.2.2.1 (MC_256 A.2.1) (by omega) (by omega) (fun h => (hz h).elim) u
              refine lrx_via (k := r.length - (t4 :: r4).length + 1) (by simp only [List.length_cons] at *; omega) (fun k rr hR => ?_) (ih (wk t.1 left y) e2 (t4 :: r4) _ V S A5 hC hS hV)
              have h9 : Ru mode k m4 1 rr := fun u hu => by rw [hcomm u]; exact hR u hu
              exact step _ _ _ (k4 k rr h9) (by omega)
        · -- level 6: reduced at once
          have h66 : lev t.1 = 6 := by omega
          have hO3 : OKS (left :: V) ((t.1, t.2.1, 1, 0) :: S) := ⟨MC_256 A.2.1, by show ¬ t.1 = 4; omega, fun _ => ⟨left, V, rfl⟩⟩
          have hX := PX.2 d e r m3 (left :: V) ((t.1, t.2.1, 1, 0) :: S) hd A3 hO3 (by rw [List.length_cons]; omega) (by rw [List.length_cons, List.length_cons]; omega)
          have e7 : lev t.1 + 1 = 7 := by omega
          rw [e7]
          cases hx : X 7 d e r with
          | none => exact trivial
          | some y9 =>
            rw [hx] at hX
            cases y9 with
            | inr p =>
              obtain ⟨mD, k1, k2⟩ := hX
              exact ⟨mD, Ru_mono (by rw [List.length_cons]; exact Nat.le_refl _) (step _ _ _ k1 rfl), k2⟩
            | inl q9 =>
              obtain ⟨y, e2, r4⟩ := q9
              obtain ⟨m1, tl, B1, B2, B3, B4, B5⟩ := hX
              have e1 : (1 : Int32) * y + 0 = y := by rw [Int32.one_mul, Int32.add_zero]
              have B1 : ALV m0 E z trk m1 (tl :: r4) (y :: left :: V) ((t.1, t.2.1, 1, 0) :: S) d e2 := by
                have := B1
                simp only [e1] at this
                exact this
              have B4 : r4.length < r.length := B4
              have B5 : ∀ n rr, Ct mode n m1 rr → Ru mode (n + (r.length - r4.length)) m3 0 rr := B5
              have h74 : f149_74 m1 mode = f151 m1 mode := m_74r B1.2.2.1 (MC_256 A.2.1) h66
              show LRX m0 E z trk mode least m (t :: r) V S d (xb (some (xJoin E.2.2.2.2.2 t.1 left y t.2.1 e2)) fun w => xLp X E.2.2.2.2.2 least d n w.1 w.2 r4)
              -- the value v, late as e3 says, in a state from which it goes on
              have goon : ∀ (q : mS) (v : Int32) (e3 : Bool), f151 m1 mode = some q → ALV m0 E z trk q (tl :: r4) (v :: V) S d e3 → LRX m0 E z trk mode least m (t :: r) V S d (xLp X E.2.2.2.2.2 least d n v e3 r4) := by
                intro q v e3 hq1 Aq
                obtain ⟨m5, n1, A5⟩ := ct_next Aq B2 B3
                refine lrx_via (k := r.length - r4.length + 1) (by rw [List.length_cons]; omega) (fun k rr hR => ?_) (ih v e3 r4 m5 V S A5 hC hS hV)
                have hC9 : Ct mode k m1 rr := by
                  intro u hu
                  rw [h74, hq1, Option.bind_some, if_pos Aq.2.2.2.1, n1, Option.bind_some]
                  exact hR u hu
                exact step _ _ _ (B5 k rr hC9) (by omega)
              by_cases hz : (t.1 = 47 ∨ t.1 = 37) ∧ y = 0
              · obtain ⟨hk9, rfl⟩ := hz
                rw [join_0 hk9]
                rcases hM with ⟨g1, g2⟩ | ⟨g1, g2⟩ | ⟨g1, g2⟩
                · rw [if_pos g1]
                  obtain ⟨mD, d1, d2, d3, d4, d5, d6, d7⟩ := m_redx (mode := mode) B1.2.2.1 hk9 (Or.inl g2) B1.2.2.2.1
                  rw [if_pos g2] at d4
                  have D : DD m0 t.2.1 5 mD := ⟨FR_trans B1.1 (FR_mono d3 (by decide) (by decide)), d4, by decide, by decide, by rw [d5, B1.1.1 16 (by decide)], by rw [d6, B1.1.1 15 (by decide)], by rw [d7]; exact Or.inr rfl⟩
                  refine ⟨mD, ?_, D⟩
                  have hC9 : Ct mode 1 m1 (0, mD) := by
                    intro u hu
                    rw [h74, d1, Option.bind_some, if_neg (DD_ne D)]
                    exact Ru_dead (n := 1) (by omega) (DD_ne D) u hu
                  exact Ru_mono (by rw [List.length_cons]; omega) (step _ _ _ (B5 1 _ hC9) rfl)
                · rw [if_neg (by omega), if_pos g1]
                  obtain ⟨mD, d1, d2, d3, d4, d5, d6, d7⟩ := m_redx (mode := mode) B1.2.2.1 hk9 (Or.inr g2) B1.2.2.2.1
                  rw [if_neg (by rw [g2]; decide)] at d4
                  have D : DD m0 t.2.1 9 mD := ⟨FR_trans B1.1 (FR_mono d3 (by decide) (by decide)), d4, by decide, by decide, by rw [d5, B1.1.1 16 (by decide)], by rw [d6, B1.1.1 15 (by decide)], by rw [d7]; exact Or.inr rfl⟩
                  refine ⟨mD, ?_, D⟩
                  have hC9 : Ct mode 1 m1 (0, mD) := by
                    intro u hu
                    rw [h74, d1, Option.bind_some, if_neg (DD_ne D)]
                    exact Ru_dead (n := 1) (by omega) (DD_ne D) u hu
                  exact Ru_mono (by rw [List.length_cons]; omega) (step _ _ _ (B5 1 _ hC9) rfl)
                · rw [if_neg (by omega), if_neg (by omega)]
                  obtain ⟨q, d1, d2, d3, d4⟩ := m_red0 (mode := mode) B1.2.2.1 hk9 g2
                  refine goon q 0 false d1 ⟨FR_trans B1.1 (FR_mono d3 (by decide) (by decide)), MC_fr d3 B1.2.1 (by decide) (by decide), d2, ?_, Or.inr d4, fun _ => d4⟩
                  rw [d3.1 11 (by decide)]; exact B1.2.2.2.1
              · have hz' : (t.1 = 47 ∨ t.1 = 37) → ¬ y = 0 := fun h1 h2 => hz ⟨h1, h2⟩
                rw [join_wk (by omega) hz']
                have F5 := rdS_fr (m := m1) S.length V.length (wk t.1 left y)
                exact goon _ (wk t.1 left y) e2 (m_redE B1.2.2.1 (by omega) (MC_256 A.2.1) hz' B1.2.2.2.2.1) ⟨FR_trans B1.1 (FR_mono F5 (by decide) (by decide)), MC_fr F5 B1.2.1 (by decide) (by decide), rdS_st B1.2.2.1 _, B1.2.2.2.1, B1.2.2.2.2.1, B1.2.2.2.2.2⟩
    · simp only [if_neg hq]
      refine ⟨Nat.le_refl _, m, t, r, rfl, by omega, A, fun k rr hR => ?_⟩
      exact Ru_mono (by omega) hR
/-- THE REFERENCE's expression follows the spec's -/
theorem m_expr (N : NVI m0 E z trk mode) (hM : MOD E mode) (hh : m0.1 33 = E.2.2.2.2.1) : ∀ v, PXX m0 E z trk mode (xE E v) := by
  intro v
  induction v with
  | zero => exact ⟨fun _ _ _ _ _ _ _ _ _ _ _ _ _ _ => trivial, fun _ _ _ _ _ _ _ _ _ _ _ => trivial⟩
  | succ v ih =>
    refine ⟨?_, ?_⟩
    · intro least d e ts m V S h0 h6 hd A hC hS hV
      have hop := m_operand N (MOD_0 hM) hh ih A (OKC_OKS hC h6) hd (by omega) hV
      rw [xE]
      cases hx : xOpd E (xE E v) d e ts with
      | none => exact trivial
      | some y9 =>
        rw [hx] at hop
        cases y9 with
        | inr p => exact hop
        | inl q9 =>
          obtain ⟨x, e1, r1⟩ := q9
          obtain ⟨m1, tl, B1, B2, B3, B4, B5⟩ := hop
          have e9 : (1 : Int32) * x + 0 = x := by rw [Int32.one_mul, Int32.add_zero]
          have B1 : ALV m0 E z trk m1 (tl :: r1) (x :: V) S d e1 := by
            have := B1
            simp only [e9] at this
            exact this
          have B4 : r1.length < ts.length := B4
          have B5 : ∀ n rr, Ct mode n m1 rr → Ru mode (n + (ts.length - r1.length)) m 0 rr := B5
          obtain ⟨m2, n1, A2⟩ := ct_next B1 B2 B3
          have hl := m_loop hM ih h0 h6 hd (ts.length + 1) x e1 r1 m2 V S A2 hC hS hV
          have cont : ∀ k rr, Ru mode k m2 1 rr → Ru mode (k + (ts.length - r1.length)) m 0 rr := by
            intro k rr hR
            refine B5 k rr ?_
            intro u hu
            rw [m_74 B1.2.2.1 (OKC_no6 hC h6), Option.bind_some, if_pos B1.2.2.2.1, n1, Option.bind_some]
            exact hR u hu
          show match xLp (xE E v) E.2.2.2.2.2 least d (ts.length + 1) x e1 r1 with
            | none => True
            | some (.inl q) => q.2.2.length < ts.length ∧ ∃ m2 t r, q.2.2 = t :: r ∧ lev t.1 < least ∧ ALV m0 E z trk m2 (t :: r) (q.1 :: V) S d q.2.1 ∧ ∀ n rr, Ru mode n m2 1 rr → Ru mode (n + (ts.length - q.2.2.length)) m 0 rr
            | some (.inr p) => ∃ mD, Ru mode (ts.length + 1) m 0 (0, mD) ∧ DD m0 p.1 p.2 mD
          cases hy : xLp (xE E v) E.2.2.2.2.2 least d (ts.length + 1) x e1 r1 with
          | none => exact trivial
          | some y8 =>
            rw [hy] at hl
            cases y8 with
            | inl q8 =>
              obtain ⟨k0, m3, t3, r3, k1, k2, k3, k4⟩ := hl
              refine ⟨by omega, m3, t3, r3, k1, k2, k3, fun k rr hR => ?_⟩
              exact Ru_mono (by omega) (cont _ rr (k4 k rr hR))
            | inr p8 =>
              obtain ⟨mD, k1, k2⟩ := hl
              exact ⟨mD, Ru_mono (by omega) (cont _ _ k1), k2⟩
    · intro d e ts m V S hd A hO hS hV
      have hop := m_operand N (MOD_0 hM) hh ih A hO hd hS hV
      rw [xE]
      cases hx : xOpd E (xE E v) d e ts with
      | none => exact trivial
      | some y9 =>
        rw [hx] at hop
        cases y9 with
        | inr p => exact hop
        | inl q9 =>
          obtain ⟨x, e1, r1⟩ := q9
          have hop' := hop
          obtain ⟨m1, tl, B1, B2, B3, B4, B5⟩ := hop
          obtain ⟨m2, n1, A2⟩ := ct_next B1 B2 B3
          obtain ⟨t2, r2, h2⟩ := ALV_ne A2
          have h2 : r1 = t2 :: r2 := h2
          subst h2
          have hl2 := lev_le t2.1
          have e8 : xLp (xE E v) E.2.2.2.2.2 7 d (ts.length + 1) x e1 (t2 :: r2) = some (.inl (x, e1, t2 :: r2)) := by
            rw [xLp]
            simp only [if_neg (show ¬ 7 ≤ lev t2.1 by omega)]
          show ARX m0 E z trk mode m ts V S d 1 0 (xLp (xE E v) E.2.2.2.2.2 7 d (ts.length + 1) x e1 (t2 :: r2))
          rw [e8]
          exact hop'
end EX
