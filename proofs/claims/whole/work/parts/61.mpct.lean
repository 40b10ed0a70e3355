/-! THE REFERENCE's %hi and %lo. -/
section PC
variable {m0 m : mS} {E : Ev} {z : Nat} {trk : Bool} {mode : Int32} {t : Tk} {r : List Tk} {V : List Int32} {S S1 : List Sg} {d : Nat} {e : Bool} {f a : Int32} {X : Nat → Nat → Bool → List Tk → Option (Rx Xv)}
theorem dead_290 {q : mS} (h : ¬ q.1 11 = 0) (y : Int64) : f147_290 q y = some (0, q) := by
  unfold f147_290 f147_328
  have : f142 q 40 = 0 := by unfold f142; rw [if_neg h]
  rw [this, if_pos rfl, f131_dead h]
  rfl
theorem lg_ne {x y : Int64} (h : ¬ x = y) : ¬ lg_cmp x y = 0 := fun hh => h (lg_eq.mp hh)
theorem a_pct (PX : PXX m0 E z trk mode X) (A : ALV m0 E z trk m (t :: r) V S1 d e) (hP : PFX S f a S1) (hO : OKS V S) (h37 : t.1 = 37) (hd : d ≤ 16) (hb1 : S1.length + 1 ≤ 8 * (d + 1)) (hv : V.length ≤ S1.length) : ARX m0 E z trk mode m (t :: r) V S d f a (xb (xHiLo E.1 (t :: r)) fun h => xb (xBr X d e h.2) fun q => some (.inl (if h.1 = true then f77 q.1 else f78 q.1, q.2.1, q.2.2))) := by
  have M := A.2.1
  have h11 := A.2.2.2.1
  have hf := MC_flaw M (by omega) (by omega) (by omega)
  have e20 : m.1 20 = tcode t.1 := by
    obtain ⟨T, t', r', e0, e1, e2, e3⟩ := A.2.1
    obtain ⟨rfl, rfl⟩ := List.cons.inj e0
    exact e2
  have is9 : ∀ k : Nat, k < 256 → 4 < k → sgn k = true → f142 m (nn k) = if t.1 = k then 1 else 0 := fun k hk1 hk2 hk3 => m_is M h11 hk1 hk2 hk3
  have i46 : f142 m (46 : Int32) = 0 := by rw [show f142 m (46 : Int32) = _ from is9 46 (by decide) (by decide) (by decide), if_neg (by omega)]
  have i45 : f142 m (45 : Int32) = 0 := by rw [show f142 m (45 : Int32) = _ from is9 45 (by decide) (by decide) (by decide), if_neg (by omega)]
  have i43 : f142 m (43 : Int32) = 0 := by rw [show f142 m (43 : Int32) = _ from is9 43 (by decide) (by decide) (by decide), if_neg (by omega)]
  have i126 : f142 m (126 : Int32) = 0 := by rw [show f142 m (126 : Int32) = _ from is9 126 (by decide) (by decide) (by decide), if_neg (by omega)]
  have i40 : f142 m (40 : Int32) = 0 := by rw [show f142 m (40 : Int32) = _ from is9 40 (by decide) (by decide) (by decide), if_neg (by omega)]
  have i37 : f142 m (37 : Int32) = 1 := by rw [show f142 m (37 : Int32) = _ from is9 37 (by decide) (by decide) (by decide), if_pos h37]
  obtain ⟨m1, n1, n2, n3⟩ := m_adv M (by omega) hf
  have step : f147 m mode = if m1.1 20 = 1 then (f130 m1).bind fun r2 => f147_221 r2 else f147_221 m1 := by
    unfold f147
    rw [if_neg (by rw [e20]; exact fun hh => by have := tcode_2.mp hh; omega), if_neg (by rw [e20]; exact fun hh => by have := tcode_1.mp hh; omega), i46, if_pos rfl, i45, if_pos rfl, i43, if_pos rfl, i126, if_pos rfl, i40, if_pos rfl, i37, if_neg (by decide), n1, Option.bind_some]
  have A1 : ALV m0 E z trk m1 r V S1 d e := ⟨FR_trans A.1 (FR_mono n3 (by decide) (by decide)), n2, ST_fr n3 A.2.2.1 (by decide) (by decide), by rw [n3.1 11 (by decide)]; exact h11, by rw [n3.1 38 (by decide)]; exact A.2.2.2.2.1, fun h => by rw [n3.1 38 (by decide)]; exact A.2.2.2.2.2 h⟩
  have hex : xExp 37 (t :: r) = some (.inl r) := by unfold xExp; simp only [if_pos h37, hf]
  -- the end by an error in a state that f147 answers
  have bad : ∀ (q : mS) (pl : Nat), f147 m mode = some (0, q) → DD m0 pl 1 q → ∃ mD, Ru mode ((t :: r).length + 1) m 0 (0, mD) ∧ DD m0 pl 1 mD := by
    intro q pl h1 h2
    refine ⟨q, ?_, h2⟩
    intro u hu
    rw [List.length_cons] at hu
    have eu : u = (u - 1) + 1 := by omega
    rw [eu, lp_st0 h11 h1]
    exact Ru_dead (n := 1) (by omega) (DD_ne h2) (u - 1) (by omega)
  unfold xHiLo
  rw [hex]
  obtain ⟨T1, t2, r2, e0, f1, f2, f3, f4, f5, f6, f7, f8, f9, f10⟩ := A1.2.1
  subst e0
  have M1 := A1.2.1
  have h111 := A1.2.2.2.1
  show ARX m0 E z trk mode m (t :: t2 :: r2) V S d f a (xb (xb (xExp 1 (t2 :: r2)) fun r9 => if tname E.1 t2 = [104, 105] then some (.inl (true, r9)) else if tname E.1 t2 = [108, 111] then some (.inl (false, r9)) else some (.inr (t2.2.1, 1))) fun h => xb (xBr X d e h.2) fun q => some (.inl (if h.1 = true then f77 q.1 else f78 q.1, q.2.1, q.2.2)))
  have mkDD : ∀ (q : mS) (pl : Nat), FR [11, 12, 13] [] m1 q → q.1 11 = nn 1 → q.1 12 = nn pl - m1.1 16 → q.1 13 = m1.1 15 → DD m0 pl 1 q := by
    intro q pl a1 a2 a3 a4
    exact ⟨FR_trans A1.1 (FR_mono a1 (by decide) (by decide)), a2, by decide, by decide, by rw [a3, A1.1.1 16 (by decide)], by rw [a4, A1.1.1 15 (by decide)], by rw [a1.1 38 (by decide)]; exact A1.2.2.2.2.1⟩
  by_cases h1 : t2.1 = 1
  · have c1 : m1.1 20 = 1 := by rw [f2]; exact tcode_1.mpr h1
    rw [if_pos c1] at step
    cases hf2 : t2.2.2.2.2 with
    | some w =>
      have ex : xExp 1 (t2 :: r2) = some (.inr (w, 1)) := by unfold xExp; simp only [if_pos h1, hf2]
      rw [ex]
      obtain ⟨q, q1, q2, q3, q4, q5⟩ := takes_bad M1 h111 hf2 (by omega)
      have nq : ¬ q.1 11 = 0 := by rw [q3]; decide
      refine bad q w ?_ (mkDD q w q2 q3 q4 q5)
      rw [step, q1, Option.bind_some]
      unfold f147_221 f147_256 f147_257
      rw [if_neg nq, if_neg (by decide), if_neg (by decide), f131_dead nq, Option.bind_some, dead_290 nq]
    | none =>
      have ex : xExp 1 (t2 :: r2) = some (.inl r2) := by unfold xExp; simp only [if_pos h1, hf2]
      rw [ex]
      obtain ⟨g1, g2⟩ := f10.2.2 h1
      have hpk : f136 m1 (nn t2.2.1) (nn (t2.2.2.2.1 - t2.2.1)) = some (pk9 (tname E.1 t2)) := m_pack T1.2.1 T1.2.2.2 T1.2.2.1 g2.1
      have e18 : m1.1 18 - m1.1 21 = nn (t2.2.2.2.1 - t2.2.1) := by rw [f1, f3, nn_sub (by omega)]
      have step2 : f147 m mode = f147_257 m1 (pk9 (tname E.1 t2)) := by
        rw [step, takes_ok M1 hf2 (by omega), Option.bind_some]
        unfold f147_221
        rw [if_pos h111, if_pos c1, f3, show m1.1 18 - nn t2.2.1 = nn (t2.2.2.2.1 - t2.2.1) by rw [← f3]; exact e18, hpk, Option.bind_some]
      have hbt := nb_bt g2
      have khi : pk9 [104, 105] = 26729 := by decide +kernel
      have klo : pk9 [108, 111] = 27759 := by decide +kernel
      have ihi : pk9 (tname E.1 t2) = 26729 ↔ tname E.1 t2 = [104, 105] := by
        constructor
        · intro hh; rw [← khi] at hh; exact pk9_inj hbt (by decide) (by decide) (by decide) hh
        · intro hh; rw [hh, khi]
      have ilo : pk9 (tname E.1 t2) = 27759 ↔ tname E.1 t2 = [108, 111] := by
        constructor
        · intro hh; rw [← klo] at hh; exact pk9_inj hbt (by decide) (by decide) (by decide) hh
        · intro hh; rw [hh, klo]
      -- behind the name
      obtain ⟨m2, p1, p2, p3⟩ := m_adv M1 (by omega) hf2
      have A2 : ALV m0 E z trk m2 r2 V S1 d e := ⟨FR_trans A1.1 (FR_mono p3 (by decide) (by decide)), p2, ST_fr p3 A1.2.2.1 (by decide) (by decide), by rw [p3.1 11 (by decide)]; exact h111, by rw [p3.1 38 (by decide)]; exact A1.2.2.2.2.1, fun h => by rw [p3.1 38 (by decide)]; exact A1.2.2.2.2.2 h⟩
      obtain ⟨t3, r3, rfl⟩ : ∃ t3 r3, r2 = t3 :: r3 := by
        obtain ⟨_, t3, r3, e9, _⟩ := A2.2.1
        exact ⟨t3, r3, e9⟩
      have h112 := A2.2.2.2.1
      have is40 : f142 m2 (40 : Int32) = if t3.1 = 40 then 1 else 0 := m_is A2.2.1 h112 (k := 40) (by decide) (by decide) (by decide)
      -- both names go on alike
      have tail : ∀ (b : Bool) (what : Nat) (y : Int64), (what = 1 ∨ what = 2 ∨ what = 3) → (∀ x9, brv what x9 = if b = true then f77 x9 else f78 x9) → f147 m mode = f147_286 m1 y → f147_290 m2 y = (if (f142 m2 (40 : Int32)) = 0 then ((f131 m2 (1 : Int32) (m2.1 21)).bind fun r1 => f147_328 r1) else f147_325 m2 (nn what)) → ARX m0 E z trk mode m (t :: t2 :: t3 :: r3) V S d f a (xb (xBr X d e (t3 :: r3)) fun q => some (.inl (if b = true then f77 q.1 else f78 q.1, q.2.1, q.2.2))) := by
        intro b what y hw hbv s1 s2
        have s3 : f147 m mode = f147_290 m2 y := by rw [s1]; unfold f147_286; rw [p1, Option.bind_some]
        rw [s2, is40] at s3
        by_cases h40 : t3.1 = 40
        · rw [if_pos h40, if_neg (by decide)] at s3
          unfold f147_325 f147_328 at s3
          have := a_brk (tsS := t :: t2 :: t3 :: r3) PX A2 hP hO h40 hd hb1 hv hw h11 s3 (by simp only [List.length_cons]; omega)
          simp only [hbv] at this
          exact this
        · rw [if_neg h40, if_pos rfl] at s3
          obtain ⟨q, q1, q2, q3, q4, q5⟩ := fail_at A2.2.1 h112 1
          rw [show f131 m2 1 (m2.1 21) = some q from q1, Option.bind_some] at s3
          have D : DD m0 t3.2.1 1 q := ⟨FR_trans A2.1 (FR_mono q2 (by decide) (by decide)), q3, by decide, by decide, by rw [q4, A2.1.1 16 (by decide)], by rw [q5, A2.1.1 15 (by decide)], by rw [q2.1 38 (by decide)]; exact A2.2.2.2.2.1⟩
          have ebr : xBr X d e (t3 :: r3) = some (.inr (t3.2.1, 1)) := by
            unfold xBr
            by_cases h16 : 16 ≤ d
            · simp only [if_pos h16]
            · simp only [if_neg h16]
              have : xExp 40 (t3 :: r3) = some (.inr (t3.2.1, 1)) := by unfold xExp; simp only [if_neg h40]
              rw [this]
              rfl
          rw [ebr]
          exact bad q t3.2.1 s3 D
      by_cases hhi : tname E.1 t2 = [104, 105]
      · have e9 : (xb (some (Sum.inl (t3 :: r3))) fun r9 => if tname E.1 t2 = [104, 105] then some (.inl (true, r9)) else if tname E.1 t2 = [108, 111] then some (.inl (false, r9)) else some (.inr (t2.2.1, 1))) = (some (.inl (true, t3 :: r3)) : Option (Rx (Bool × List Tk))) := by
          show (if tname E.1 t2 = [104, 105] then _ else _) = _
          rw [if_pos hhi]
        rw [e9]
        have hp : pk9 (tname E.1 t2) = 26729 := ihi.mpr hhi
        refine tail true 2 26729 (Or.inr (Or.inl rfl)) (fun _ => rfl) ?_ ?_
        · rw [step2, hp]
          unfold f147_257
          rw [if_pos (lg_eq.mpr rfl)]
        · unfold f147_290
          rw [if_pos (lg_eq.mpr rfl)]
          rfl
      · by_cases hlo : tname E.1 t2 = [108, 111]
        · have e9 : (xb (some (Sum.inl (t3 :: r3))) fun r9 => if tname E.1 t2 = [104, 105] then some (.inl (true, r9)) else if tname E.1 t2 = [108, 111] then some (.inl (false, r9)) else some (.inr (t2.2.1, 1))) = (some (.inl (false, t3 :: r3)) : Option (Rx (Bool × List Tk))) := by
            show (if tname E.1 t2 = [104, 105] then _ else _) = _
            rw [if_neg hhi, if_pos hlo]
          rw [e9]
          have hp : pk9 (tname E.1 t2) = 27759 := ilo.mpr hlo
          refine tail false 3 27759 (Or.inr (Or.inr rfl)) (fun _ => rfl) ?_ ?_
          · rw [step2, hp]
            unfold f147_257
            rw [if_neg (lg_ne (by decide)), if_pos (lg_eq.mpr rfl)]
          · unfold f147_290
            rw [if_neg (lg_ne (show ¬ (27759 : Int64) = 26729 by decide))]
            rfl
        · have e9 : (xb (some (Sum.inl (t3 :: r3))) fun r9 => if tname E.1 t2 = [104, 105] then some (.inl (true, r9)) else if tname E.1 t2 = [108, 111] then some (.inl (false, r9)) else some (.inr (t2.2.1, 1))) = (some (.inr (t2.2.1, 1)) : Option (Rx (Bool × List Tk))) := by
            show (if tname E.1 t2 = [104, 105] then _ else _) = _
            rw [if_neg hhi, if_neg hlo]
          rw [e9]
          obtain ⟨q, q1, q2, q3, q4, q5⟩ := fail_at M1 h111 1
          have nq : ¬ q.1 11 = 0 := by rw [q3]; decide
          refine bad q t2.2.1 ?_ (mkDD q t2.2.1 q2 q3 q4 q5)
          rw [step2]
          unfold f147_257
          rw [if_neg (lg_ne (fun hh => hhi (ihi.mp hh))), if_neg (lg_ne (fun hh => hlo (ilo.mp hh))), show f131 m1 1 (m1.1 21) = some q from q1, Option.bind_some, dead_290 nq]
  · have c1 : ¬ m1.1 20 = 1 := by rw [f2]; exact fun hh => h1 (tcode_1.mp hh)
    rw [if_neg c1] at step
    have ex : xExp 1 (t2 :: r2) = some (.inr (t2.2.1, 1)) := by unfold xExp; simp only [if_neg h1]
    rw [ex]
    obtain ⟨q, q1, q2, q3, q4, q5⟩ := fail_at M1 h111 1
    have nq : ¬ q.1 11 = 0 := by rw [q3]; decide
    refine bad q t2.2.1 ?_ (mkDD q t2.2.1 q2 q3 q4 q5)
    rw [step]
    unfold f147_221 f147_256 f147_257
    rw [if_pos h111, if_neg c1, if_neg (by decide), if_neg (by decide), show f131 m1 1 (m1.1 21) = some q from q1, Option.bind_some, dead_290 nq]
end PC
