/-! THE REFERENCE's names, by the modes of its expressions; its expressions from the top. -/
section NV
variable {m0 m : mS} {B : Nat → Nat} {z tl ln : Nat} {tb : List Sy} {t : Tk} {r : List Tk} {base here : Int32}
theorem MXT_fr {I A : List Nat} (F : FR I A m0 m) (hA : ¬ 4 ∈ A) (X : MXT m0 B tl) : MXT m B tl := by
  have e : m.2 4 = m0.2 4 := F.2 4 hA
  refine ⟨X.1, ?_, ?_, X.2.2.2⟩
  · rw [e]; exact X.2.1
  · rw [e]; exact X.2.2.1
theorem SYMm_fr {I A : List Nat} (F : FR I A m0 m) (hI : ¬ 26 ∈ I) (hA : ¬ 27 ∈ A ∧ ¬ 28 ∈ A ∧ ¬ 29 ∈ A ∧ ¬ 30 ∈ A ∧ ¬ 31 ∈ A) (S : SYMm m0 B tl tb) : SYMm m B tl tb := by
  unfold SYMm at S ⊢
  rw [F.1 26 hI, F.2 27 hA.1, F.2 28 hA.2.1, F.2 29 hA.2.2.1, F.2 30 hA.2.2.2.1, F.2 31 hA.2.2.2.2]
  exact S
theorem m_look (X : MXT m0 B tl) (S : SYMm m0 B tl tb) (hd : SDN B tb) (hz : z ≤ tl) (F : FR IE9 AE9 m0 m) (M : MC m B z (t :: r)) (h1 : t.1 = 1) : f133 m (m.1 21) (m.1 18 - m.1 21) = some (jI (sfind B tb (tname B t))) := by
  have X' : MXT m B tl := MXT_fr F (by decide) X
  have S' : SYMm m B tl tb := SYMm_fr F (by decide) (by decide) S
  obtain ⟨T, t', r', e0, e1, e2, e3, e4, e5, e6, e7, e8, e9, e10, e11, e12⟩ := M
  obtain ⟨rfl, rfl⟩ := List.cons.inj e0
  obtain ⟨n1, n2⟩ := e12 h1
  rw [e3, e1, nn_sub (by omega)]
  exact m_find X' S' hd ⟨by have := n2.1; omega, n2.2⟩
theorem nv_at (S : SYMm m B tl tb) {k : Nat} (hk : k < tb.length) : f148_129 m (nn k) 1 = some (sVal tb (m.1 34) (some k), m) := by
  have y2 := S.2.1
  obtain ⟨y3, y4, y5, y6, y7, y8⟩ := S.2.2 k hk
  have i1 : ib (nn k) 17500 := (nn_ib (by omega)).mpr (by omega)
  have ek : (nn k).toNatClampNeg = k := nn_tn (by omega)
  unfold f148_129
  rw [if_neg (by decide), if_pos i1, if_pos i1, ek, y6, y7]
  unfold f148_157 sVal
  by_cases h : (tb.getD k sy0).2.2.1 = 1
  · simp only [h, if_true]
    rw [if_pos (by rfl), Int32.add_comm]
  · simp only [if_neg h]
    have h9 := y3.2.2.2.1
    rw [if_neg]
    · rw [Int32.add_zero]
    · intro hh
      have hh : nn (skd (tb.getD k sy0).2.2.1) = nn 3 := hh
      rw [nn_eq (by unfold skd; split <;> omega) (by omega)] at hh
      unfold skd at hh
      split at hh <;> omega
theorem xName_at {E : Ev} {e : Bool} (h1 : t.1 = 1) (hf : t.2.2.2.2 = none) : xName E e (t :: r) = if cBf E.2.1 E.2.2.1 (sfind E.1 E.2.1 (tname E.1 t)) = false ∧ E.2.2.2.2.2 = 0 then some (.inr (t.2.1, 4)) else if sfind E.1 E.2.1 (tname E.1 t) = none ∧ E.2.2.2.2.2 = 2 then some (.inr (t.2.1, 8)) else some (.inl (sVal E.2.1 E.2.2.2.1 (sfind E.1 E.2.1 (tname E.1 t)), e && cBf E.2.1 E.2.2.1 (sfind E.1 E.2.1 (tname E.1 t)), r)) := by
  have ex : xExp 1 (t :: r) = some (.inl r) := by unfold xExp; simp only [h1, if_true, hf]
  unfold xName
  simp only [ex, xb]
theorem nv_dead {mode : Int32} (X : MXT m0 B tl) (S : SYMm m0 B tl tb) (hd : SDN B tb) (hz : z ≤ tl) (F : FR IE9 AE9 m0 m) (M : MC m B z (t :: r)) (h1 : t.1 = 1) (h11 : ¬ m.1 11 ≤ 0) : f148 m mode = some (0, m) := by
  unfold f148
  rw [m_look X S hd hz F M h1, Option.bind_some]
  by_cases h : mode = 1
  · rw [if_pos h]
  · rw [if_neg h, if_neg h11]
theorem jI_neg {o : Option Nat} (ho : ∀ k, o = some k → k < 100000) : jI o < 0 ↔ o = none := by
  cases o with
  | none => exact ⟨fun _ => rfl, fun _ => by decide⟩
  | some k =>
    have := ho k rfl
    refine ⟨fun h => ?_, fun h => by cases h⟩
    exact absurd h (nn_neg (by omega))
theorem nvi_1 (X : MXT m0 B tl) (S : SYMm m0 B tl tb) (hd : SDN B tb) (hz : z ≤ tl) : NVI m0 (B, [], ln, base, here, 1) z false 1 := by
  refine ⟨?_, fun m t r F M h1 h11 => nv_dead X S hd hz F M h1 h11⟩
  intro m t r e V S9 d A h1 hf
  rw [xName_at h1 hf]
  have es : sfind (B, ([] : List Sy), ln, base, here, 1).1 ([] : List Sy) (tname B t) = none := rfl
  simp only [es]
  rw [if_neg (fun h => absurd h.2 (by decide)), if_neg (fun h => absurd h.2 (by decide))]
  refine ⟨rfl, m, ?_, FR_refl _ _ _, A.2.2.2.2.1, fun h => by cases h⟩
  unfold f148
  rw [m_look X S hd hz A.1 A.2.1 h1, Option.bind_some, if_pos rfl]
  rfl
theorem sfind_S (S : SYMm m0 B tl tb) {w : List Nat} : ∀ k, sfind B tb w = some k → k < 100000 := by
  intro k h
  have := sfind_lt k h
  have := S.2.1
  omega
theorem nv_bad {mode kd : Int32} {kk : Nat} (hk : kd = nn kk) (hk0 : 0 < kk) (hk1 : kk < 100) (h11 : m.1 11 = 0) (M : MC m B z (t :: r)) (h3 : ¬ mode = 3) (hm : (if mode = 0 then (4 : Int32) else 8) = kd) (x2 : Int32) : ∃ v m', f148_81 m mode x2 0 = some (v, m') ∧ FR [11, 12, 13, 38] [] m m' ∧ bz (m'.1 38) ∧ m'.1 11 = nn kk ∧ 0 < kk ∧ kk < 100 ∧ m'.1 12 = nn t.2.1 - m.1 16 ∧ m'.1 13 = m.1 15 := by
  have e21 := MC_21 M
  have e94 : f148_81 m mode x2 0 = f148_94 m mode x2 0 := by
    unfold f148_81
    by_cases h : m.1 38 = 0
    · rw [if_pos h, if_pos rfl]
    · rw [if_neg h]
  have e122 : f148_94 m mode x2 0 = f148_122 (mg m 38 1) x2 0 kd := by
    unfold f148_94 f148_99
    rw [if_pos (show bz 1 from Or.inr rfl), if_pos rfl, if_neg h3]
    by_cases h0 : mode = 0
    · rw [if_pos h0]; rw [if_pos h0] at hm; rw [← hm]
    · rw [if_neg h0]; rw [if_neg h0] at hm; rw [← hm]
  refine ⟨0, mg (mg (mg (mg m 38 1) 11 kd) 12 (nn t.2.1 - m.1 16)) 13 (m.1 15), ?_, FR_g (FR_g (FR_g (FR_g (FR_refl _ _ _) (by decide) _) (by decide) _) (by decide) _) (by decide) _, Or.inr rfl, hk, hk0, hk1, rfl, rfl⟩
  rw [e94, e122]
  unfold f148_122
  rw [f131_alive (show (mg m 38 1).1 11 = 0 from h11), Option.bind_some]
  unfold f148_129
  rw [if_pos rfl]
  show some ((0 : Int32), mg (mg (mg (mg m 38 1) 11 kd) 12 (m.1 21 - m.1 16)) 13 (m.1 15)) = _
  rw [e21]
theorem nv_ok {mode x2 : Int32} {k : Nat} (S : SYMm m B tl tb) (hb : bz (m.1 38)) (hk : k < tb.length) : f148_81 m mode (nn k) 1 = some (sVal tb (m.1 34) (some k), m) := by
  unfold f148_81
  have c10 : ¬ (1 : Int32) = 0 := by decide
  rcases hb with h | h
  · rw [if_pos h, if_neg c10]
    unfold f148_99
    rw [if_pos (show bz 0 from Or.inl rfl), if_neg c10, mg_same h]
    exact nv_at S hk
  · rw [if_neg (by rw [h]; decide)]
    unfold f148_94 f148_99
    rw [if_pos (show bz 1 from Or.inr rfl), if_neg c10, mg_same h]
    exact nv_at S hk
theorem nvi_2 (X : MXT m0 B tl) (S : SYMm m0 B tl tb) (hd : SDN B tb) (hz : z ≤ tl) : NVI m0 (B, tb, ln, m0.1 34, here, 2) z false 2 := by
  refine ⟨?_, fun m t r F M h1 h11 => nv_dead X S hd hz F M h1 h11⟩
  intro m t r e V S9 d A h1 hf
  have S' : SYMm m B tl tb := SYMm_fr A.1 (by decide) (by decide) S
  have hl : f148 m 2 = if jI (sfind B tb (tname B t)) < 0 then f148_81 m 2 (jI (sfind B tb (tname B t))) 0 else f148_81 m 2 (jI (sfind B tb (tname B t))) 1 := by
    unfold f148
    rw [m_look X S hd hz A.1 A.2.1 h1, Option.bind_some, if_neg (by decide), if_pos (show m.1 11 ≤ 0 by rw [A.2.2.2.1]; decide), if_pos rfl]
  rw [xName_at h1 hf, hl]
  show match (if cBf tb ln (sfind B tb (tname B t)) = false ∧ 2 = 0 then some (.inr (t.2.1, 4)) else if sfind B tb (tname B t) = none ∧ 2 = 2 then some (.inr (t.2.1, 8)) else some (.inl (sVal tb (m0.1 34) (sfind B tb (tname B t)), e && cBf tb ln (sfind B tb (tname B t)), r)) : Option (Rx Xv)) with
    | none => False
    | some (.inl q) => _
    | some (.inr p) => _
  rw [if_neg (fun h => absurd h.2 (by decide))]
  cases hs : sfind B tb (tname B t) with
  | none =>
    rw [if_pos ⟨rfl, rfl⟩, if_pos (by decide)]
    exact nv_bad (kk := 8) rfl (by decide) (by decide) A.2.2.2.1 A.2.1 (by decide) (by decide) _
  | some k =>
    rw [if_neg (fun h => by cases h.1), if_neg (by have := sfind_S S k hs; exact nn_neg (by omega))]
    refine ⟨rfl, m, ?_, FR_refl _ _ _, A.2.2.2.2.1, fun h => by cases h⟩
    have e34 : m.1 34 = m0.1 34 := A.1.1 34 (by decide)
    rw [show jI (some k) = nn k from rfl, nv_ok (x2 := 0) S' A.2.2.2.2.1 (sfind_lt k hs), e34]
/-- with the names that are known early -/
theorem nv_early {mode : Int32} (h1 : ¬ mode = 1) (h2 : ¬ mode = 2) (X : MXT m0 B tl) (S : SYMm m0 B tl tb) (hd : SDN B tb) (hz : z ≤ tl) (hln : m0.1 15 = nn ln) (hl9 : ln < 100000) (F : FR IE9 AE9 m0 m) (M : MC m B z (t :: r)) (ht : t.1 = 1) (h11 : m.1 11 = 0) : f148 m mode = if cBf tb ln (sfind B tb (tname B t)) = true then f148_81 m mode (jI (sfind B tb (tname B t))) 1 else f148_81 m mode (jI (sfind B tb (tname B t))) 0 := by
  have S' : SYMm m B tl tb := SYMm_fr F (by decide) (by decide) S
  have e15 : m.1 15 = nn ln := by rw [F.1 15 (by decide)]; exact hln
  unfold f148
  rw [m_look X S hd hz F M ht, Option.bind_some, if_neg h1, if_pos (show m.1 11 ≤ 0 by rw [h11]; decide), if_neg h2]
  cases hs : sfind B tb (tname B t) with
  | none => rw [if_pos (by decide)]; rfl
  | some k =>
    have hk := sfind_lt k hs
    have y2 := S'.2.1
    obtain ⟨y3, y4, y5, y6, y7, y8⟩ := S'.2.2 k hk
    have i1 : ib (nn k) 17500 := (nn_ib (by omega)).mpr (by omega)
    have ek : (nn k).toNatClampNeg = k := nn_tn (by omega)
    rw [show jI (some k) = nn k from rfl, if_neg (nn_neg (by omega)), if_pos i1]
    simp only [ek, y6, y8, e15]
    have y9 := y3.2.2.2.1
    have y10 := y3.2.2.2.2
    by_cases hc : (tb.getD k sy0).2.2.1 = 2
    · rw [if_pos (by rw [hc]; rfl), if_pos i1]
      by_cases hl : (tb.getD k sy0).2.2.2.2 < ln
      · rw [if_neg (by rw [nn_le (by omega) (by omega)]; omega), if_pos (by simp only [cBf, hc, hl]; rfl)]
      · rw [if_pos (by rw [nn_le (by omega) (by omega)]; omega), if_neg (by simp only [cBf, hl]; simp)]; rfl
    · rw [if_neg, if_neg (by simp only [cBf, hc]; simp)]
      · rfl
      · intro hh
        have hh : nn (skd (tb.getD k sy0).2.2.1) = nn 1 := hh
        rw [nn_eq (by unfold skd; split <;> omega) (by omega)] at hh
        unfold skd at hh
        split at hh <;> omega
theorem nvi_0 (X : MXT m0 B tl) (S : SYMm m0 B tl tb) (hd : SDN B tb) (hz : z ≤ tl) (hln : m0.1 15 = nn ln) (hl9 : ln < 100000) : NVI m0 (B, tb, ln, m0.1 34, here, 0) z false 0 := by
  refine ⟨?_, fun m t r F M h1 h11 => nv_dead X S hd hz F M h1 h11⟩
  intro m t r e V S9 d A h1 hf
  have S' : SYMm m B tl tb := SYMm_fr A.1 (by decide) (by decide) S
  have hl := nv_early (mode := 0) (by decide) (by decide) X S hd hz hln hl9 A.1 A.2.1 h1 A.2.2.2.1
  rw [xName_at h1 hf, hl]
  show match (if cBf tb ln (sfind B tb (tname B t)) = false ∧ 0 = 0 then some (.inr (t.2.1, 4)) else if sfind B tb (tname B t) = none ∧ 0 = 2 then some (.inr (t.2.1, 8)) else some (.inl (sVal tb (m0.1 34) (sfind B tb (tname B t)), e && cBf tb ln (sfind B tb (tname B t)), r)) : Option (Rx Xv)) with
    | none => False
    | some (.inl q) => _
    | some (.inr p) => _
  cases hc : cBf tb ln (sfind B tb (tname B t)) with
  | false =>
    rw [if_pos ⟨rfl, rfl⟩, if_neg (by decide)]
    exact nv_bad (kk := 4) rfl (by decide) (by decide) A.2.2.2.1 A.2.1 (by decide) (by decide) _
  | true =>
    rw [if_neg (fun h => by cases h.1), if_neg (fun h => absurd h.2 (by decide)), if_pos rfl]
    cases hs : sfind B tb (tname B t) with
    | none => rw [hs] at hc; cases hc
    | some k =>
      refine ⟨rfl, m, ?_, FR_refl _ _ _, A.2.2.2.2.1, fun h => by cases h⟩
      have e34 : m.1 34 = m0.1 34 := A.1.1 34 (by decide)
      rw [show jI (some k) = nn k from rfl, nv_ok (x2 := 0) S' A.2.2.2.2.1 (sfind_lt k hs), e34]
/-- a table in which only what is known early keeps its value -/
def ez (ln : Nat) (s : Sy) : Sy := if s.2.2.1 = 2 ∧ s.2.2.2.2 < ln then s else (s.1, s.2.1, 0, 0, s.2.2.2.2)
theorem ez_at (tb : List Sy) (k : Nat) : (tb.map (ez ln)).getD k sy0 = ez ln (tb.getD k sy0) := by
  by_cases h : k < tb.length
  · rw [List.getD_eq_getElem?_getD, List.getD_eq_getElem?_getD, List.getElem?_map, List.getElem?_eq_getElem h]
    rfl
  · rw [List.getD_eq_getElem?_getD, List.getD_eq_getElem?_getD, List.getElem?_eq_none (by rw [List.length_map]; omega), List.getElem?_eq_none (by omega)]
    unfold ez sy0
    exact (if_neg (show ¬ ((0 : Nat) = 2 ∧ 0 < ln) by omega)).symm
theorem ez_syn (tb : List Sy) (k : Nat) : syn B (tb.map (ez ln)) k = syn B tb k := by
  unfold syn
  rw [ez_at]
  unfold ez
  split <;> rfl
theorem ez_find (tb : List Sy) (w : List Nat) : sfind B (tb.map (ez ln)) w = sfind B tb w := by
  unfold sfind
  rw [List.length_map]
  generalize tb.length = n
  induction n with
  | zero => rfl
  | succ n ih => unfold lastE; rw [ez_syn, ih]
theorem ez_bf (tb : List Sy) (o : Option Nat) : cBf (tb.map (ez ln)) ln o = cBf tb ln o := by
  cases o with
  | none => rfl
  | some k =>
    unfold cBf
    simp only [ez_at]
    unfold ez
    by_cases h : (tb.getD k sy0).2.2.1 = 2 ∧ (tb.getD k sy0).2.2.2.2 < ln
    · rw [if_pos h]
    · rw [if_neg h]
      rw [decide_eq_false h]
      rfl
theorem ez_val (tb : List Sy) (o : Option Nat) : sVal (tb.map (ez ln)) base o = if cBf tb ln o = true then sVal tb base o else 0 := by
  cases o with
  | none => rfl
  | some k =>
    unfold cBf sVal
    simp only [ez_at]
    unfold ez
    by_cases h : (tb.getD k sy0).2.2.1 = 2 ∧ (tb.getD k sy0).2.2.2.2 < ln
    · rw [if_pos h, decide_eq_true h]; rfl
    · rw [if_neg h, decide_eq_false h]; rfl
theorem nvi_3 (X : MXT m0 B tl) (S : SYMm m0 B tl tb) (hd : SDN B tb) (hz : z ≤ tl) (hln : m0.1 15 = nn ln) (hl9 : ln < 100000) : NVI m0 (B, tb.map (ez ln), ln, m0.1 34, here, 1) z true 3 := by
  refine ⟨?_, fun m t r F M h1 h11 => nv_dead X S hd hz F M h1 h11⟩
  intro m t r e V S9 d A h1 hf
  have S' : SYMm m B tl tb := SYMm_fr A.1 (by decide) (by decide) S
  have hl := nv_early (mode := 3) (by decide) (by decide) X S hd hz hln hl9 A.1 A.2.1 h1 A.2.2.2.1
  have e38 := A.2.2.2.2.2 rfl
  rw [xName_at h1 hf, hl]
  show match (if cBf (tb.map (ez ln)) ln (sfind B (tb.map (ez ln)) (tname B t)) = false ∧ 1 = 0 then some (.inr (t.2.1, 4)) else if sfind B (tb.map (ez ln)) (tname B t) = none ∧ 1 = 2 then some (.inr (t.2.1, 8)) else some (.inl (sVal (tb.map (ez ln)) (m0.1 34) (sfind B (tb.map (ez ln)) (tname B t)), e && cBf (tb.map (ez ln)) ln (sfind B (tb.map (ez ln)) (tname B t)), r)) : Option (Rx Xv)) with
    | none => False
    | some (.inl q) => _
    | some (.inr p) => _
  rw [if_neg (fun h => absurd h.2 (by decide)), if_neg (fun h => absurd h.2 (by decide)), ez_find, ez_bf, ez_val]
  cases hc : cBf tb ln (sfind B tb (tname B t)) with
  | false =>
    rw [if_neg (by decide)]
    refine ⟨rfl, mg m 38 1, ?_, FR_g (FR_refl _ _ _) (by decide) _, Or.inr rfl, fun _ => by cases e <;> rfl⟩
    have e94 : f148_81 m 3 (jI (sfind B tb (tname B t))) 0 = f148_94 m 3 (jI (sfind B tb (tname B t))) 0 := by
      unfold f148_81
      by_cases h : m.1 38 = 0
      · rw [if_pos h, if_pos rfl]
      · rw [if_neg h]
    rw [if_neg (by decide), e94]
    unfold f148_94 f148_99 f148_129
    rw [if_pos (show bz 1 from Or.inr rfl), if_pos rfl, if_pos rfl, if_pos rfl]
  | true =>
    rw [if_pos rfl, if_pos rfl]
    cases hs : sfind B tb (tname B t) with
    | none => rw [hs] at hc; cases hc
    | some k =>
      refine ⟨rfl, m, ?_, FR_refl _ _ _, A.2.2.2.2.1, fun _ => by rw [e38, Bool.and_true]⟩
      have e34 : m.1 34 = m0.1 34 := A.1.1 34 (by decide)
      rw [show jI (some k) = nn k from rfl, nv_ok (x2 := 0) S' A.2.2.2.2.1 (sfind_lt k hs), e34]
/-- THE REFERENCE's expression, from the top -/
def XTOP (m : mS) (E : Ev) (z : Nat) (trk : Bool) (mode : Int32) (res : Option (Rx Xv)) : Prop := match res with
  | none => True
  | some (.inl q) => ∃ m', f146 m mode = some (q.1, m') ∧ FR IE9 AE9 m m' ∧ MC m' E.1 z q.2.2 ∧ m'.1 11 = 0 ∧ bz (m'.1 38) ∧ (trk = true → m'.1 38 = eb (!q.2.1))
  | some (.inr p) => ∃ m', f146 m mode = some (0, m') ∧ DD m p.1 p.2 m'
theorem m_top {E : Ev} {trk : Bool} {mode : Int32} {ts : List Tk} {e : Bool} (N : NVI m E z trk mode) (hM : MOD E mode) (hh : m.1 33 = E.2.2.2.2.1) (M : MC m E.1 z ts) (h11 : m.1 11 = 0) (hb : bz (m.1 38)) (he : trk = true → m.1 38 = eb (!e)) (hl : ts.length < 100000) (v : Nat) : XTOP m E z trk mode (xE E v 1 0 e ts) := by
  have c10 : ¬ (1 : Int32) = 0 := by decide
  have F1 : FR IE9 AE9 m (mg (mg (mg m 39 0) 40 0) 41 0) := FR_g (FR_g (FR_g (FR_refl _ _ _) (by decide) _) (by decide) _) (by decide) _
  have F2 : FR [39, 40, 41] [] m (mg (mg (mg m 39 0) 40 0) 41 0) := FR_g (FR_g (FR_g (FR_refl _ _ _) (by decide) _) (by decide) _) (by decide) _
  have A1 : ALV m E z trk (mg (mg (mg m 39 0) 40 0) 41 0) ts [] [] 0 e := ⟨F1, MC_fr F2 M (by decide) (by decide), ⟨rfl, rfl, rfl, trivial, trivial, by decide, by decide⟩, h11, hb, he⟩
  have P := (m_expr N hM hh v).1 1 0 e ts _ [] [] (by decide) (by decide) (by decide) A1 trivial (by decide) (by decide)
  cases hx : xE E v 1 0 e ts with
  | none => exact trivial
  | some y =>
    rw [hx] at P
    cases y with
    | inr p =>
      obtain ⟨mD, k1, k2⟩ := P
      refine ⟨mD, ?_, k2⟩
      exact k1 mm_U (by show ts.length + 1 ≤ 200000; omega)
    | inl q =>
      obtain ⟨k0, m2, t2, r2, k1, k2, k3, k4⟩ := P
      have T2 := k3.2.2.1
      have hR : Ru mode 2 m2 1 (q.1, m2) := by
        intro u hu
        have eu : u = (u - 1 - 1) + 1 + 1 := by omega
        have hg : f156 m2 mode = some (0, m2) := by
          rw [m_goes k3.2.1 k3.2.2.2.1, if_pos (by omega)]
          exact g86_end T2 trivial
        have h41 : m2.1 41 = 0 := T2.2.2.1
        rw [eu, f146_19, if_neg c10, if_pos k3.2.2.2.1, if_neg c10, hg, Option.bind_some, if_pos rfl]
        have e2 : f146_19 (u - 1 - 1 + 1) m2 mode 1 0 = some (q.1, m2) := by
          rw [f146_19, if_pos rfl]
          unfold f146_215
          rw [if_pos k3.2.2.2.1, if_pos (by decide)]
          have : m2.2 42 0 = q.1 := T2.2.2.2.1.1
          rw [show ((0 : Int32).toNatClampNeg) = 0 from rfl, this]
        rw [if_pos (show m2.1 41 ≤ 0 by rw [h41]; decide)]
        unfold f146_194
        rw [if_pos (show m2.1 41 ≤ 0 by rw [h41]; decide)]
        exact e2
      refine ⟨m2, k4 2 _ hR mm_U (by show _ ≤ 200000; omega), k3.1, by rw [k1]; exact k3.2.1, k3.2.2.2.1, k3.2.2.2.2.1, k3.2.2.2.2.2⟩
end NV
