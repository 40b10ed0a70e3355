/-! THE REFERENCE's operand is the spec's. -/
section OX
variable {m0 m : mS} {E : Ev} {z : Nat} {trk : Bool} {mode : Int32} {t : Tk} {r : List Tk} {V : List Int32} {S S1 : List Sg} {d : Nat} {e : Bool} {f a : Int32} {X : Nat → Nat → Bool → List Tk → Option (Rx Xv)}
theorem arx_step {m' : mS} {res : Option (Rx Xv)} (h11 : m.1 11 = 0) (h : f147 m mode = some (0, m')) (H : ARX m0 E z trk mode m' r V S d f a res) : ARX m0 E z trk mode m (t :: r) V S d f a res := by
  cases res with
  | none => exact trivial
  | some y =>
    cases y with
    | inl q =>
      obtain ⟨m1, tl, k1, k2, k3, k4, k5⟩ := H
      refine ⟨m1, tl, k1, k2, k3, by rw [List.length_cons]; omega, ?_⟩
      intro n rr hC u hu
      rw [List.length_cons] at hu
      have eu : u = (u - 1) + 1 := by omega
      rw [eu, lp_st0 h11 h]
      exact k5 n rr hC (u - 1) (by omega)
    | inr p =>
      obtain ⟨mD, k1, k2⟩ := H
      refine ⟨mD, ?_, k2⟩
      intro u hu
      rw [List.length_cons] at hu
      have eu : u = (u - 1) + 1 := by omega
      rw [eu, lp_st0 h11 h]
      exact k1 (u - 1) (by omega)
theorem arx_conv {ts : List Tk} {res : Option (Rx Xv)} (H : ARX m0 E z trk mode m ts V S d f a res) : ARX m0 E z trk mode m ts V S d 1 0 (xb res fun q => some (.inl (f * q.1 + a, q.2.1, q.2.2))) := by
  cases res with
  | none => exact trivial
  | some y =>
    cases y with
    | inl q =>
      obtain ⟨m1, tl, k1, k2⟩ := H
      refine ⟨m1, tl, ?_, k2⟩
      have e1 : (1 : Int32) * (f * q.1 + a) + 0 = f * q.1 + a := by rw [Int32.one_mul, Int32.add_zero]
      show ALV m0 E z trk m1 (tl :: q.2.2) ((1 * (f * q.1 + a) + 0) :: V) S d q.2.1
      rw [e1]
      exact k1
    | inr p => exact H
theorem xb_id (x : Option (Rx Xv)) : (xb x fun q => some (.inl (q.1, q.2.1, q.2.2))) = x := by
  cases x with
  | none => rfl
  | some y => cases y <;> rfl
theorem PFX_len (hP : PFX S f a S1) : S.length ≤ S1.length ∧ S1.length ≤ S.length + 1 := by
  rcases hP with ⟨rfl, _⟩ | ⟨w, rfl⟩
  · omega
  · rw [List.length_cons]; omega
theorem m_opdX (N : NVI m0 E z trk mode) (hm : mode = 0 ↔ E.2.2.2.2.2 = 0) (hh : m0.1 33 = E.2.2.2.2.1) (PX : PXX m0 E z trk mode X) : ∀ (ts : List Tk) (m : mS) (V : List Int32) (S1 S : List Sg) (f a : Int32) (d : Nat) (e : Bool), ALV m0 E z trk m ts V S1 d e → PFX S f a S1 → OKS V S → d ≤ 16 → S.length ≤ 8 * d + 6 → V.length ≤ S.length → ARX m0 E z trk mode m ts V S d 1 0 (xb (xAtom E X d e (xPfx ts f a).2.2) fun q => some (.inl ((xPfx ts f a).1 * q.1 + (xPfx ts f a).2.1, q.2.1, q.2.2))) := by
  intro ts
  induction ts with
  | nil =>
    intro m V S1 S f a d e A
    obtain ⟨_, t, r, h, _⟩ := A.2.1
    cases h
  | cons t r ih =>
    intro m V S1 S f a d e A hP hO hd hS hV
    have hl := PFX_len hP
    by_cases hk : t.1 = 45 ∨ t.1 = 43 ∨ t.1 = 126
    · obtain ⟨m', S2, k1, k2, k3, k4⟩ := a_sign (mode := mode) A hP hO (by omega) hk
      rw [xPfx, if_pos hk]
      exact arx_step A.2.2.2.1 k1 (ih m' V S2 S _ _ d e k4 k2 hO hd hS hV)
    · have ex : xPfx (t :: r) f a = (f, a, t :: r) := by rw [xPfx, if_neg hk]
      rw [ex]
      refine arx_conv (f := f) (a := a) ?_
      unfold xAtom
      by_cases h1 : t.1 = 1
      · simp only [if_pos h1]
        exact a_name N A hP hO (by omega) h1
      simp only [if_neg h1]
      by_cases h37 : t.1 = 37
      · simp only [if_pos h37]
        exact a_pct PX A hP hO h37 hd (by omega) (by omega)
      simp only [if_neg h37]
      by_cases h40 : t.1 = 40
      · simp only [if_pos h40]
        have M := A.2.1
        have h11 := A.2.2.2.1
        have e20 : m.1 20 = tcode t.1 := by
          obtain ⟨T, t', r', e0, e1, e2, e3⟩ := A.2.1
          obtain ⟨rfl, rfl⟩ := List.cons.inj e0
          exact e2
        have is9 : ∀ k : Nat, k < 256 → 4 < k → sgn k = true → f142 m (nn k) = if t.1 = k then 1 else 0 := fun k hk1 hk2 hk3 => m_is M h11 hk1 hk2 hk3
        have i46 : f142 m (46 : Int32) = 0 := by rw [show f142 m (46 : Int32) = _ from is9 46 (by decide) (by decide) (by decide), if_neg (by omega)]
        have i45 : f142 m (45 : Int32) = 0 := by rw [show f142 m (45 : Int32) = _ from is9 45 (by decide) (by decide) (by decide), if_neg (by omega)]
        have i43 : f142 m (43 : Int32) = 0 := by rw [show f142 m (43 : Int32) = _ from is9 43 (by decide) (by decide) (by decide), if_neg (by omega)]
        have i126 : f142 m (126 : Int32) = 0 := by rw [show f142 m (126 : Int32) = _ from is9 126 (by decide) (by decide) (by decide), if_neg (by omega)]
        have i40 : f142 m (40 : Int32) = 1 := by rw [show f142 m (40 : Int32) = _ from is9 40 (by decide) (by decide) (by decide), if_pos h40]
        have s3 : f147 m mode = (f155 m (nn 1)).bind fun r1 => some (0, r1) := by
          unfold f147
          rw [if_neg (by rw [e20]; exact fun hh => by have := tcode_2.mp hh; omega), if_neg (by rw [e20]; exact fun hh => by have := tcode_1.mp hh; omega), i46, if_pos rfl, i45, if_pos rfl, i43, if_pos rfl, i126, if_pos rfl, i40, if_neg (by decide)]
          rfl
        have := a_brk (tsS := t :: r) PX A hP hO h40 hd (by omega) (by omega) (Or.inl rfl) h11 s3 (Nat.le_refl _)
        have hbv : ∀ x9, brv 1 x9 = x9 := fun _ => rfl
        simp only [hbv, xb_id] at this
        exact this
      simp only [if_neg h40]
      by_cases h46 : t.1 = 46
      · simp only [if_pos h46]
        exact a_here hm hh A hP hO (by omega) h46 (MC_flaw A.2.1 (by omega) (by omega) (by omega))
      simp only [if_neg h46]
      by_cases h2 : t.1 = 2
      · exact a_num A hP hO (by omega) h2
      · have ex2 : xExp 2 (t :: r) = some (.inr (t.2.1, 1)) := by unfold xExp; simp only [if_neg h2]
        rw [ex2]
        exact a_wrong A h1 h2 h46 (fun h => hk (Or.inl h)) (fun h => hk (Or.inr (Or.inl h))) (fun h => hk (Or.inr (Or.inr h))) h40 h37
/-- an operand -/
theorem m_operand (N : NVI m0 E z trk mode) (hm : mode = 0 ↔ E.2.2.2.2.2 = 0) (hh : m0.1 33 = E.2.2.2.2.1) (PX : PXX m0 E z trk mode X) {ts : List Tk} (A : ALV m0 E z trk m ts V S d e) (hO : OKS V S) (hd : d ≤ 16) (hS : S.length ≤ 8 * d + 6) (hV : V.length ≤ S.length) : ARX m0 E z trk mode m ts V S d 1 0 (xOpd E X d e ts) := m_opdX N hm hh PX ts m V S S 1 0 d e A (Or.inl ⟨rfl, rfl, rfl⟩) hO hd hS hV
end OX
