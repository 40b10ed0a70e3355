/-! THE CLASS's add lays the spec's table with one more symbol. -/
theorem lastJ_congr {hf hf2 : Nat → Nat} {h : Nat} : ∀ {n : Nat}, (∀ i, i < n → hf i = hf2 i) → lastJ hf h n = lastJ hf2 h n := by
  intro n
  induction n with
  | zero => intro _; rfl
  | succ n ih =>
    intro H
    rw [lastJ, lastJ, H n (by omega), ih (fun i hi => H i (by omega))]
theorem cB_wf {I : List (Nat × Nat)} {Q : List Nat} {c c' : cS} {t q : Nat} {j : Int32} (F : WF I Q c c') (h : cB c t q j) : cB c' t q j := ⟨⟨h.1.1, by rw [F.2.2.1]; exact h.1.2.1, by rw [(F.2.2.2.1 q).1]; exact h.1.2.2⟩, by show ib j (c'.2.2.1 q).2.1; rw [(F.2.2.2.1 q).2]; exact h.2⟩
theorem getD_snoc (tb : List Sy) (x : Sy) (i : Nat) : (tb ++ [x]).getD i sy0 = if i < tb.length then tb.getD i sy0 else if i = tb.length then x else sy0 := by
  rw [List.getD_eq_getElem?_getD, List.getD_eq_getElem?_getD, List.getElem?_append]
  by_cases h : i < tb.length
  · rw [if_pos h, if_pos h]
  · rw [if_neg h, if_neg h]
    by_cases h2 : i = tb.length
    · rw [if_pos h2, h2, Nat.sub_self]; rfl
    · rw [if_neg h2, List.getElem?_eq_none (by rw [List.length_singleton]; omega)]; rfl
def SCL (s : cS) : List Nat := [s.2.1 2 2, s.2.1 2 3, s.2.1 2 4, s.2.1 2 5, s.2.1 2 6, s.2.1 2 7, s.2.1 2 8]
theorem k_add16 {s : cS} {B : Nat → Nat} {tl Ls st l sec ln : Nat} {tb : List Sy} {v : Int32} (X : SXT s B tl) (S : SYM s B tl tb Ls) (SP : SEP s) (hlt : tb.length < Ls) (hn : NM B tl st l) (h0 : 0 < l) (hsec : sec ≤ 2) (hln : ln < 100000) : ∃ s', f62_16 s (nn st) (nn l) (nn sec) v (nn ln) = some s' ∧ SYM s' B tl (tb ++ [(st, l, sec, v, ln)]) Ls ∧ WF [(2, 0)] (SCL s) s s' := by
  obtain ⟨y1, y2, y3, y4, y5, y6, y7, y8, y9⟩ := S
  have n23 : ¬ s.2.1 2 2 = s.2.1 2 3 := fun h => absurd (SP.1 (2, 2) (by decide) (2, 3) (by decide) h) (by decide)
  have n24 : ¬ s.2.1 2 2 = s.2.1 2 4 := fun h => absurd (SP.1 (2, 2) (by decide) (2, 4) (by decide) h) (by decide)
  have n25 : ¬ s.2.1 2 2 = s.2.1 2 5 := fun h => absurd (SP.1 (2, 2) (by decide) (2, 5) (by decide) h) (by decide)
  have n26 : ¬ s.2.1 2 2 = s.2.1 2 6 := fun h => absurd (SP.1 (2, 2) (by decide) (2, 6) (by decide) h) (by decide)
  have n27 : ¬ s.2.1 2 2 = s.2.1 2 7 := fun h => absurd (SP.1 (2, 2) (by decide) (2, 7) (by decide) h) (by decide)
  have n28 : ¬ s.2.1 2 2 = s.2.1 2 8 := fun h => absurd (SP.1 (2, 2) (by decide) (2, 8) (by decide) h) (by decide)
  have n32 : ¬ s.2.1 2 3 = s.2.1 2 2 := fun h => absurd (SP.1 (2, 3) (by decide) (2, 2) (by decide) h) (by decide)
  have n34 : ¬ s.2.1 2 3 = s.2.1 2 4 := fun h => absurd (SP.1 (2, 3) (by decide) (2, 4) (by decide) h) (by decide)
  have n35 : ¬ s.2.1 2 3 = s.2.1 2 5 := fun h => absurd (SP.1 (2, 3) (by decide) (2, 5) (by decide) h) (by decide)
  have n36 : ¬ s.2.1 2 3 = s.2.1 2 6 := fun h => absurd (SP.1 (2, 3) (by decide) (2, 6) (by decide) h) (by decide)
  have n37 : ¬ s.2.1 2 3 = s.2.1 2 7 := fun h => absurd (SP.1 (2, 3) (by decide) (2, 7) (by decide) h) (by decide)
  have n38 : ¬ s.2.1 2 3 = s.2.1 2 8 := fun h => absurd (SP.1 (2, 3) (by decide) (2, 8) (by decide) h) (by decide)
  have n42 : ¬ s.2.1 2 4 = s.2.1 2 2 := fun h => absurd (SP.1 (2, 4) (by decide) (2, 2) (by decide) h) (by decide)
  have n43 : ¬ s.2.1 2 4 = s.2.1 2 3 := fun h => absurd (SP.1 (2, 4) (by decide) (2, 3) (by decide) h) (by decide)
  have n45 : ¬ s.2.1 2 4 = s.2.1 2 5 := fun h => absurd (SP.1 (2, 4) (by decide) (2, 5) (by decide) h) (by decide)
  have n46 : ¬ s.2.1 2 4 = s.2.1 2 6 := fun h => absurd (SP.1 (2, 4) (by decide) (2, 6) (by decide) h) (by decide)
  have n47 : ¬ s.2.1 2 4 = s.2.1 2 7 := fun h => absurd (SP.1 (2, 4) (by decide) (2, 7) (by decide) h) (by decide)
  have n48 : ¬ s.2.1 2 4 = s.2.1 2 8 := fun h => absurd (SP.1 (2, 4) (by decide) (2, 8) (by decide) h) (by decide)
  have n52 : ¬ s.2.1 2 5 = s.2.1 2 2 := fun h => absurd (SP.1 (2, 5) (by decide) (2, 2) (by decide) h) (by decide)
  have n53 : ¬ s.2.1 2 5 = s.2.1 2 3 := fun h => absurd (SP.1 (2, 5) (by decide) (2, 3) (by decide) h) (by decide)
  have n54 : ¬ s.2.1 2 5 = s.2.1 2 4 := fun h => absurd (SP.1 (2, 5) (by decide) (2, 4) (by decide) h) (by decide)
  have n56 : ¬ s.2.1 2 5 = s.2.1 2 6 := fun h => absurd (SP.1 (2, 5) (by decide) (2, 6) (by decide) h) (by decide)
  have n57 : ¬ s.2.1 2 5 = s.2.1 2 7 := fun h => absurd (SP.1 (2, 5) (by decide) (2, 7) (by decide) h) (by decide)
  have n58 : ¬ s.2.1 2 5 = s.2.1 2 8 := fun h => absurd (SP.1 (2, 5) (by decide) (2, 8) (by decide) h) (by decide)
  have n62 : ¬ s.2.1 2 6 = s.2.1 2 2 := fun h => absurd (SP.1 (2, 6) (by decide) (2, 2) (by decide) h) (by decide)
  have n63 : ¬ s.2.1 2 6 = s.2.1 2 3 := fun h => absurd (SP.1 (2, 6) (by decide) (2, 3) (by decide) h) (by decide)
  have n64 : ¬ s.2.1 2 6 = s.2.1 2 4 := fun h => absurd (SP.1 (2, 6) (by decide) (2, 4) (by decide) h) (by decide)
  have n65 : ¬ s.2.1 2 6 = s.2.1 2 5 := fun h => absurd (SP.1 (2, 6) (by decide) (2, 5) (by decide) h) (by decide)
  have n67 : ¬ s.2.1 2 6 = s.2.1 2 7 := fun h => absurd (SP.1 (2, 6) (by decide) (2, 7) (by decide) h) (by decide)
  have n68 : ¬ s.2.1 2 6 = s.2.1 2 8 := fun h => absurd (SP.1 (2, 6) (by decide) (2, 8) (by decide) h) (by decide)
  have n72 : ¬ s.2.1 2 7 = s.2.1 2 2 := fun h => absurd (SP.1 (2, 7) (by decide) (2, 2) (by decide) h) (by decide)
  have n73 : ¬ s.2.1 2 7 = s.2.1 2 3 := fun h => absurd (SP.1 (2, 7) (by decide) (2, 3) (by decide) h) (by decide)
  have n74 : ¬ s.2.1 2 7 = s.2.1 2 4 := fun h => absurd (SP.1 (2, 7) (by decide) (2, 4) (by decide) h) (by decide)
  have n75 : ¬ s.2.1 2 7 = s.2.1 2 5 := fun h => absurd (SP.1 (2, 7) (by decide) (2, 5) (by decide) h) (by decide)
  have n76 : ¬ s.2.1 2 7 = s.2.1 2 6 := fun h => absurd (SP.1 (2, 7) (by decide) (2, 6) (by decide) h) (by decide)
  have n78 : ¬ s.2.1 2 7 = s.2.1 2 8 := fun h => absurd (SP.1 (2, 7) (by decide) (2, 8) (by decide) h) (by decide)
  have n82 : ¬ s.2.1 2 8 = s.2.1 2 2 := fun h => absurd (SP.1 (2, 8) (by decide) (2, 2) (by decide) h) (by decide)
  have n83 : ¬ s.2.1 2 8 = s.2.1 2 3 := fun h => absurd (SP.1 (2, 8) (by decide) (2, 3) (by decide) h) (by decide)
  have n84 : ¬ s.2.1 2 8 = s.2.1 2 4 := fun h => absurd (SP.1 (2, 8) (by decide) (2, 4) (by decide) h) (by decide)
  have n85 : ¬ s.2.1 2 8 = s.2.1 2 5 := fun h => absurd (SP.1 (2, 8) (by decide) (2, 5) (by decide) h) (by decide)
  have n86 : ¬ s.2.1 2 8 = s.2.1 2 6 := fun h => absurd (SP.1 (2, 8) (by decide) (2, 6) (by decide) h) (by decide)
  have n87 : ¬ s.2.1 2 8 = s.2.1 2 7 := fun h => absurd (SP.1 (2, 8) (by decide) (2, 7) (by decide) h) (by decide)
  have hh := hb_lt (nb B st l)
  have i2 : cB s 1 (s.2.1 2 2) (nn (hb (nb B st l))) := ⟨y4, (nn_ib (by omega)).mpr (by rw [y5]; exact hh)⟩
  have ik : ∀ k, 3 ≤ k → k ≤ 8 → cB s 1 (s.2.1 2 k) (nn tb.length) := fun k h3 h8 => ⟨(y6 k h3 h8).1, (nn_ib (by omega)).mpr (by rw [(y6 k h3 h8).2]; exact hlt)⟩
  have th : (nn (hb (nb B st l))).toNatClampNeg = hb (nb B st l) := nn_tn (by omega)
  have tn : (nn tb.length).toNatClampNeg = tb.length := nn_tn (by omega)
  have m2 : s.2.1 2 2 ∈ SCL s := by simp [SCL]
  have m3 : s.2.1 2 3 ∈ SCL s := by simp [SCL]
  have m4 : s.2.1 2 4 ∈ SCL s := by simp [SCL]
  have m5 : s.2.1 2 5 ∈ SCL s := by simp [SCL]
  have m6 : s.2.1 2 6 ∈ SCL s := by simp [SCL]
  have m7 : s.2.1 2 7 ∈ SCL s := by simp [SCL]
  have m8 : s.2.1 2 8 ∈ SCL s := by simp [SCL]
  have W1 : WF [(2, 0)] (SCL s) s (cw s (s.2.1 2 3) (nn tb.length) (ce s (s.2.1 2 2) (nn (hb (nb B st l))))) := WF_w (WF_refl _ _ _) m3 _ _
  have W2 := WF_w W1 m2 (nn (hb (nb B st l))) (nn tb.length)
  have W3 := WF_w W2 m4 (nn tb.length) (nn st)
  have W4 := WF_w W3 m5 (nn tb.length) (nn l)
  have W5 := WF_w W4 m6 (nn tb.length) (nn sec)
  have W6 := WF_w W5 m7 (nn tb.length) v
  have W7 := WF_w W6 m8 (nn tb.length) (nn ln)
  generalize hS : cw (cw (cw (cw (cw (cw (cw s (s.2.1 2 3) (nn tb.length) (ce s (s.2.1 2 2) (nn (hb (nb B st l))))) (s.2.1 2 2) (nn (hb (nb B st l))) (nn tb.length)) (s.2.1 2 4) (nn tb.length) (nn st)) (s.2.1 2 5) (nn tb.length) (nn l)) (s.2.1 2 6) (nn tb.length) (nn sec)) (s.2.1 2 7) (nn tb.length) v) (s.2.1 2 8) (nn tb.length) (nn ln) = S9 at W7
  have a3 : (S9.2.2.1 (s.2.1 2 3)).2.2 = upd (s.2.2.1 (s.2.1 2 3)).2.2 tb.length ((s.2.2.1 (s.2.1 2 2)).2.2 (hb (nb B st l))) := by
    rw [← hS, cw_ne n38, cw_ne n37, cw_ne n36, cw_ne n35, cw_ne n34, cw_ne n32, cw_eq, tn]
    show upd _ _ ((s.2.2.1 (s.2.1 2 2)).2.2 (nn (hb (nb B st l))).toNatClampNeg) = _
    rw [th]
  have a2 : (S9.2.2.1 (s.2.1 2 2)).2.2 = upd (s.2.2.1 (s.2.1 2 2)).2.2 (hb (nb B st l)) (nn tb.length) := by
    rw [← hS, cw_ne n28, cw_ne n27, cw_ne n26, cw_ne n25, cw_ne n24, cw_eq, cw_ne n23, th]
  have a4 : (S9.2.2.1 (s.2.1 2 4)).2.2 = upd (s.2.2.1 (s.2.1 2 4)).2.2 tb.length (nn st) := by
    rw [← hS, cw_ne n48, cw_ne n47, cw_ne n46, cw_ne n45, cw_eq, cw_ne n42, cw_ne n43, tn]
  have a5 : (S9.2.2.1 (s.2.1 2 5)).2.2 = upd (s.2.2.1 (s.2.1 2 5)).2.2 tb.length (nn l) := by
    rw [← hS, cw_ne n58, cw_ne n57, cw_ne n56, cw_eq, cw_ne n54, cw_ne n52, cw_ne n53, tn]
  have a6 : (S9.2.2.1 (s.2.1 2 6)).2.2 = upd (s.2.2.1 (s.2.1 2 6)).2.2 tb.length (nn sec) := by
    rw [← hS, cw_ne n68, cw_ne n67, cw_eq, cw_ne n65, cw_ne n64, cw_ne n62, cw_ne n63, tn]
  have a7 : (S9.2.2.1 (s.2.1 2 7)).2.2 = upd (s.2.2.1 (s.2.1 2 7)).2.2 tb.length v := by
    rw [← hS, cw_ne n78, cw_eq, cw_ne n76, cw_ne n75, cw_ne n74, cw_ne n72, cw_ne n73, tn]
  have a8 : (S9.2.2.1 (s.2.1 2 8)).2.2 = upd (s.2.2.1 (s.2.1 2 8)).2.2 tb.length (nn ln) := by
    rw [← hS, cw_eq, cw_ne n87, cw_ne n86, cw_ne n85, cw_ne n84, cw_ne n82, cw_ne n83, tn]
  have hr : S9.2.1 = s.2.1 := W7.2.1
  have hlt2 : ∀ i, i < tb.length → (tb ++ [(st, l, sec, v, ln)]).getD i sy0 = tb.getD i sy0 := fun i hi => by rw [getD_snoc, if_pos hi]
  have hat : (tb ++ [(st, l, sec, v, ln)]).getD tb.length sy0 = (st, l, sec, v, ln) := by rw [getD_snoc, if_neg (by omega), if_pos rfl]
  have hf1 : ∀ i, i < tb.length → hfn B (tb ++ [(st, l, sec, v, ln)]) i = hfn B tb i := by
    intro i hi
    unfold hfn syn
    rw [hlt2 i hi]
  have hf2 : hfn B (tb ++ [(st, l, sec, v, ln)]) tb.length = hb (nb B st l) := by
    unfold hfn syn
    rw [hat]
  have hlen : (tb ++ [(st, l, sec, v, ln)]).length = tb.length + 1 := by rw [List.length_append, List.length_singleton]
  refine ⟨cg S9 2 0 (nn (tb.length + 1)), ?_, ?_, WF_trans W7 (WF_cf (CF_g (CF_refl _ _) (by decide) _))⟩
  · unfold f62_16
    rw [c_hash X hn, Option.bind_some, y1, if_pos i2, if_pos (ik 3 (by decide) (by decide)), if_pos (cB_wf W1 i2), if_pos (cB_wf W2 (ik 4 (by decide) (by decide))), if_pos (cB_wf W3 (ik 5 (by decide) (by decide))), if_pos (cB_wf W4 (ik 6 (by decide) (by decide))), if_pos (cB_wf W5 (ik 7 (by decide) (by decide))), if_pos (cB_wf W6 (ik 8 (by decide) (by decide))), nn_add1, hS]
  · refine ⟨by rw [hlen]; rfl, by rw [hlen]; omega, y3, ?_, ?_, ?_, ?_, ?_, ?_⟩
    · show cA S9 1 (S9.2.1 2 2)
      rw [hr]
      exact (cB_wf W7 i2).1
    · show (S9.2.2.1 (S9.2.1 2 2)).2.1 = 256
      rw [hr, (W7.2.2.2.1 _).2]
      exact y5
    · intro k h3 h8
      show cA S9 1 (S9.2.1 2 k) ∧ (S9.2.2.1 (S9.2.1 2 k)).2.1 = Ls
      rw [hr, (W7.2.2.2.1 _).2]
      exact ⟨(cB_wf W7 (ik k h3 h8)).1, (y6 k h3 h8).2⟩
    · intro i hi
      rw [hlen] at hi
      show SEN B tl _ ∧ (S9.2.2.1 (S9.2.1 2 4)).2.2 i = _ ∧ (S9.2.2.1 (S9.2.1 2 5)).2.2 i = _ ∧ (S9.2.2.1 (S9.2.1 2 6)).2.2 i = _ ∧ (S9.2.2.1 (S9.2.1 2 7)).2.2 i = _ ∧ (S9.2.2.1 (S9.2.1 2 8)).2.2 i = _
      rw [hr, a4, a5, a6, a7, a8]
      by_cases hi2 : i < tb.length
      · rw [hlt2 i hi2]
        unfold upd
        simp only [if_neg (show ¬ i = tb.length by omega)]
        exact y7 i hi2
      · have : i = tb.length := by omega
        subst this
        rw [hat]
        unfold upd
        simp only [if_true]
        refine ⟨⟨h0, hn.1, hn.2, hsec, hln⟩, ?_⟩
        simp
    · intro h hh2
      show (S9.2.2.1 (S9.2.1 2 2)).2.2 h = _
      rw [hr, a2, hlen, lastJ, hf2]
      unfold upd
      by_cases he : h = hb (nb B st l)
      · rw [if_pos he, if_pos he.symm]; rfl
      · rw [if_neg he, if_neg (fun h9 => he h9.symm), y8 h hh2, lastJ_congr hf1]
    · intro i hi
      rw [hlen] at hi
      show (S9.2.2.1 (S9.2.1 2 3)).2.2 i = _
      rw [hr, a3]
      unfold upd
      by_cases hi2 : i < tb.length
      · rw [if_neg (by omega), y9 i hi2, hf1 i hi2, lastJ_congr (fun j hj => hf1 j (by omega))]
      · have : i = tb.length := by omega
        subst this
        rw [if_pos rfl, y8 _ hh, hf2, lastJ_congr hf1]
/-- what adding a symbol leaves alone -/
def SF (tb : List Sy) (Ls Ls' : Nat) (c c' : cS) : Prop := (∀ i j, ¬ (i, j) = (2, 0) → c'.1 i j = c.1 i j) ∧ (∀ i j, ¬ (i = 2 ∧ 3 ≤ j ∧ j ≤ 8) → c'.2.1 i j = c.2.1 i j) ∧ (∀ q, q < 42 + c.2.2.2 → ¬ q ∈ SCL c → c'.2.2.1 q = c.2.2.1 q) ∧ SEP c' ∧ ((Ls' = Ls ∧ c'.2.2.2 = c.2.2.2 ∧ csz c' = csz c) ∨ (tb.length = Ls ∧ Ls' = 2 * Ls ∧ c'.2.2.2 = c.2.2.2 + 6 ∧ csz c' = csz c + 12 * Ls))
theorem SXT_same {c c' : cS} {B : Nat → Nat} {tl : Nat} (h1 : c'.2.1 2 1 = c.2.1 2 1) (h2 : c'.2.2.1 (c.2.1 2 1) = c.2.2.1 (c.2.1 2 1)) (hn : c.2.2.2 ≤ c'.2.2.2) (X : SXT c B tl) : SXT c' B tl := by
  obtain ⟨x1, x2, x3, x4, x5⟩ := X
  unfold SXT cA cl
  rw [h1, h2]
  exact ⟨⟨x1.1, by have := x1.2.1; omega, x1.2.2⟩, x2, x3, x4, x5⟩
theorem k_add {s : cS} {B : Nat → Nat} {tl Ls st l sec ln : Nat} {tb : List Sy} {v : Int32} (X : SXT s B tl) (S : SYM s B tl tb Ls) (SP : SEP s) (h16 : 16 ≤ Ls) (hmax : tb.length < 20000) (htx : ¬ s.2.1 2 1 ∈ SCL s) (hn : NM B tl st l) (h0 : 0 < l) (hsec : sec ≤ 2) (hln : ln < 100000) : ∃ s' Ls', f62 s (nn st) (nn l) (nn sec) v (nn ln) = some s' ∧ SYM s' B tl (tb ++ [(st, l, sec, v, ln)]) Ls' ∧ 16 ≤ Ls' ∧ SF tb Ls Ls' s s' := by
  obtain ⟨y1, y2, y3, y4, y5, y6, y7, y8, y9⟩ := S
  have hc4 := (y6 4 (by decide) (by decide))
  by_cases hlt : tb.length < Ls
  · obtain ⟨s', r1, r2, r3⟩ := k_add16 X ⟨y1, y2, y3, y4, y5, y6, y7, y8, y9⟩ SP hlt hn h0 hsec hln
    refine ⟨s', Ls, ?_, r2, h16, fun i j h => r3.1 i j (fun hh => h (List.mem_singleton.mp hh)), fun i j _ => by rw [r3.2.1], fun q _ hq => r3.2.2.2.2 q hq, SEP_wf r3 SP, Or.inl ⟨rfl, r3.2.2.1, WF_csz r3⟩⟩
    unfold f62
    rw [if_pos hc4.1, y1, hc4.2, if_pos, r1]
    show nn tb.length < nn Ls
    rw [nn_lt (by omega) (by omega)]
    exact hlt
  · have he : tb.length = Ls := by omega
    obtain ⟨s1, g0, g1, g2, g3, g4, g5, g6, g7⟩ := k_grow (s := s) (L := Ls) y6 (by omega) (by omega) SP
    have hr : ∀ k, 3 ≤ k → k ≤ 8 → s1.2.1 2 k = 42 + s.2.2.2 + (k - 3) ∧ (s1.2.2.1 (s1.2.1 2 k)).1 = 1 ∧ (s1.2.2.1 (s1.2.1 2 k)).2.1 = 2 * Ls ∧ ∀ i, i < Ls → (s1.2.2.1 (s1.2.1 2 k)).2.2 i = (s.2.2.1 (s.2.1 2 k)).2.2 i := by
      intro k h3 h8
      obtain ⟨a1, a2, a3, a4⟩ := g4 (k - 3) (by omega)
      rw [show 3 + (k - 3) = k by omega] at a1 a4
      rw [a1]
      exact ⟨rfl, a2, a3, a4⟩
    have hcn : ∀ n, cfr (42 + n) = true := by
      intro n
      unfold cfr
      split
      all_goals first | omega | skip
      simp
    have e22 : s1.2.1 2 2 = s.2.1 2 2 := g3 2 2 (by omega)
    have e21 : s1.2.1 2 1 = s.2.1 2 1 := g3 2 1 (by omega)
    have c22 : s1.2.2.1 (s.2.1 2 2) = s.2.2.1 (s.2.1 2 2) := g5 _ y4.2.1
    have S1 : SYM s1 B tl tb (2 * Ls) := by
      refine ⟨by rw [g1]; exact y1, by omega, by omega, ?_, ?_, ?_, ?_, ?_, ?_⟩
      · rw [e22]; exact ⟨y4.1, by rw [g2]; have := y4.2.1; omega, by rw [c22]; exact y4.2.2⟩
      · rw [e22]; show (s1.2.2.1 _).2.1 = 256; rw [c22]; exact y5
      · intro k h3 h8
        obtain ⟨a1, a2, a3, _⟩ := hr k h3 h8
        refine ⟨⟨?_, ?_, a2⟩, a3⟩
        · rw [a1, Nat.add_assoc]; exact hcn _
        · rw [a1, g2]; omega
      · intro i hi
        rw [(hr 4 (by decide) (by decide)).2.2.2 i (by omega), (hr 5 (by decide) (by decide)).2.2.2 i (by omega), (hr 6 (by decide) (by decide)).2.2.2 i (by omega), (hr 7 (by decide) (by decide)).2.2.2 i (by omega), (hr 8 (by decide) (by decide)).2.2.2 i (by omega)]
        exact y7 i hi
      · intro h hh; rw [e22, c22]; exact y8 h hh
      · intro i hi
        rw [(hr 3 (by decide) (by decide)).2.2.2 i (by omega)]
        exact y9 i hi
    have X1 : SXT s1 B tl := SXT_same e21 (g5 _ X.1.2.1) (by omega) X
    obtain ⟨s', r1, r2, r3⟩ := k_add16 X1 S1 g7 (by omega) hn h0 hsec hln
    refine ⟨s', 2 * Ls, ?_, r2, by omega, fun i j h => ?_, fun i j h => ?_, fun q hq hq2 => ?_, SEP_wf r3 g7, Or.inr ⟨he, rfl, ?_, ?_⟩⟩
    · unfold f62
      rw [if_pos hc4.1, y1, hc4.2, if_neg, g0, Option.bind_some, r1]
      show ¬ nn tb.length < nn Ls
      rw [nn_lt (by omega) (by omega)]
      exact hlt
    · rw [r3.1 i j (fun hh => h (List.mem_singleton.mp hh)), g1]
    · rw [r3.2.1]; exact g3 i j (by omega)
    · rw [r3.2.2.2.2 q, g5 q hq]
      intro hm
      unfold SCL at hm hq2
      simp only [List.mem_cons, List.not_mem_nil, or_false] at hm hq2
      rw [e22, (hr 3 (by decide) (by decide)).1, (hr 4 (by decide) (by decide)).1, (hr 5 (by decide) (by decide)).1, (hr 6 (by decide) (by decide)).1, (hr 7 (by decide) (by decide)).1, (hr 8 (by decide) (by decide)).1] at hm
      omega
    · rw [r3.2.2.1, g2]
    · rw [WF_csz r3, g6]; omega
