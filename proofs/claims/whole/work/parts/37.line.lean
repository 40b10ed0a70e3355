/-! THE TOKENS of a whole line, as a list; the class's splitLine lays them into its arrays. -/
def tksF (B : Nat → Nat) (z : Nat) : Nat → Nat → List Tk
  | 0, _ => []
  | u + 1, p => if (tk B z p).1 = 0 then [tk B z p] else if (tk B z p).2.2.2.2 = none then tk B z p :: tksF B z u (tk B z p).2.2.2.1 else [tk B z p]
def tks (B : Nat → Nat) (z p : Nat) : List Tk := tksF B z (z + 1 - p) p
section LS
variable {B : Nat → Nat} {z p : Nat}
theorem lx_next (hpz : p < z) (h : (lx B z p).2.2.2.2 = none) : p < (lx B z p).2.2.2.1 ∧ (lx B z p).2.2.2.1 ≤ z := by
  unfold lx at h ⊢
  by_cases h1 : isB (gb B z p) = true ∧ (¬ gb B z p = 46 ∨ isN (gb B z (p + 1)) = true)
  · rw [if_pos h1] at h ⊢
    have hN : isN (B p) = true := by unfold isN; rw [← gb_in (B := B) hpz, h1.1]; rfl
    have := scan_go (P := fun i => isN (B i)) hpz hN
    have := scan_ge (fun i => isN (B i)) z (p + 1)
    have := scan_le (P := fun i => isN (B i)) (Nat.le_of_lt hpz)
    exact ⟨by show p < scan _ _ _; omega, this⟩
  rw [if_neg h1] at h ⊢
  by_cases h2 : isD (gb B z p) = true
  · rw [if_pos h2] at h ⊢
    by_cases h3 : gb B z p = 48 ∧ gb B z (p + 1) = 120
    · rw [if_pos h3] at h ⊢
      have hp1 : p + 1 < z := Nat.lt_of_not_le (fun hh => by have := h3.2; rw [gb_out hh] at this; omega)
      have := scan_ge (fun i => isH (B i)) z (p + 2)
      have := scan_le (P := fun i => isH (B i)) (show p + 2 ≤ z by omega)
      exact ⟨by show p < scan _ _ _; omega, this⟩
    · rw [if_neg h3] at h ⊢
      have hN : isD (B p) = true := by rw [← gb_in (B := B) hpz]; exact h2
      have := scan_go (P := fun i => isD (B i)) hpz hN
      have := scan_ge (fun i => isD (B i)) z (p + 1)
      have := scan_le (P := fun i => isD (B i)) (Nat.le_of_lt hpz)
      exact ⟨by show p < scan _ _ _; omega, this⟩
  rw [if_neg h2] at h ⊢
  by_cases h4 : gb B z p = 39
  · rw [if_pos h4] at h ⊢
    have hw := wid_le B z (p + 1)
    refine ⟨by show p < p + 1 + wid B z (p + 1) + 1; omega, ?_⟩
    show p + 1 + wid B z (p + 1) + 1 ≤ z
    by_cases hm : mean B z 39 (p + 1) = 999
    · simp [hm] at h
    · by_cases hc : gb B z (p + 1 + wid B z (p + 1)) = 39
      · exact Nat.lt_of_not_le (fun hh => by rw [gb_out hh] at hc; omega)
      · simp [hm, hc] at h
  rw [if_neg h4] at h ⊢
  by_cases h5 : gb B z p = 34
  · rw [if_pos h5] at h ⊢
    have hE := strE_le B z (z - p) (p + 1) (by omega)
    by_cases hc : gb B z (strE B z (z - p) (p + 1)) = 34
    · have : strE B z (z - p) (p + 1) < z := Nat.lt_of_not_le (fun hh => by rw [gb_out hh] at hc; omega)
      simp only [if_pos hc]
      omega
    · simp [hc] at h
  rw [if_neg h5] at h ⊢
  by_cases h6 : gb B z p = 60 ∨ gb B z p = 62
  · rw [if_pos h6] at h ⊢
    by_cases hc : gb B z (p + 1) = gb B z p
    · have : p + 1 < z := Nat.lt_of_not_le (fun hh => by rw [gb_out hh] at hc; omega)
      exact ⟨by show p < p + 2; omega, by show p + 2 ≤ z; omega⟩
    · simp [hc] at h
  rw [if_neg h6] at h ⊢
  by_cases h7 : sgn (gb B z p) = true
  · rw [if_pos h7]; exact ⟨by show p < p + 1; omega, by show p + 1 ≤ z; omega⟩
  · rw [if_neg h7]; exact ⟨by show p < p + 1; omega, by show p + 1 ≤ z; omega⟩
theorem lx_kind (hpz : p < z) : ¬ (lx B z p).1 = 0 := by
  unfold lx
  by_cases h1 : isB (gb B z p) = true ∧ (¬ gb B z p = 46 ∨ isN (gb B z (p + 1)) = true)
  · rw [if_pos h1]; show ¬ 1 = 0; omega
  rw [if_neg h1]
  by_cases h2 : isD (gb B z p) = true
  · rw [if_pos h2]
    by_cases h3 : gb B z p = 48 ∧ gb B z (p + 1) = 120
    · rw [if_pos h3]; show ¬ 2 = 0; omega
    · rw [if_neg h3]; show ¬ 2 = 0; omega
  rw [if_neg h2]
  by_cases h4 : gb B z p = 39
  · rw [if_pos h4]; show ¬ 2 = 0; omega
  rw [if_neg h4]
  by_cases h5 : gb B z p = 34
  · rw [if_pos h5]; show ¬ 3 = 0; omega
  rw [if_neg h5]
  by_cases h6 : gb B z p = 60 ∨ gb B z p = 62
  · rw [if_pos h6]; show ¬ gb B z p = 0; omega
  rw [if_neg h6]
  by_cases h7 : sgn (gb B z p) = true
  · rw [if_pos h7]
    show ¬ gb B z p = 0
    intro h
    rw [h] at h7
    exact absurd h7 (by decide)
  · rw [if_neg h7]; show ¬ 4 = 0; omega
theorem sk_le (h : p ≤ z) : p ≤ sk B z p ∧ sk B z p ≤ z := ⟨scan_ge _ _ _, scan_le h⟩
theorem tk_next (h : p ≤ z) (h0 : ¬ (tk B z p).1 = 0) (hf : (tk B z p).2.2.2.2 = none) : p < (tk B z p).2.2.2.1 ∧ (tk B z p).2.2.2.1 ≤ z := by
  have hs := sk_le (B := B) h
  unfold tk at h0 hf ⊢
  by_cases he : sk B z p = z ∨ gb B z (sk B z p) = 35
  · rw [if_pos he] at h0; exact absurd rfl h0
  · rw [if_neg he] at h0 hf ⊢
    have hne : ¬ sk B z p = z := fun hh => he (Or.inl hh)
    have := lx_next (show sk B z p < z by omega) hf
    omega
theorem tksF_eq : ∀ (u u2 p : Nat), z - p < u → z - p < u2 → p ≤ z → tksF B z u p = tksF B z u2 p := by
  intro u
  induction u with
  | zero => intro u2 p h; omega
  | succ u ih =>
    intro u2 p h1 h2 h3
    cases u2 with
    | zero => omega
    | succ u2 =>
      rw [tksF, tksF]
      by_cases h0 : (tk B z p).1 = 0
      · rw [if_pos h0, if_pos h0]
      · rw [if_neg h0, if_neg h0]
        by_cases hf : (tk B z p).2.2.2.2 = none
        · have := tk_next h3 h0 hf
          rw [if_pos hf, if_pos hf, ih u2 _ (by omega) (by omega) this.2]
        · rw [if_neg hf, if_neg hf]
theorem tks_un (h : p ≤ z) : tks B z p = if (tk B z p).1 = 0 then [tk B z p] else if (tk B z p).2.2.2.2 = none then tk B z p :: tks B z (tk B z p).2.2.2.1 else [tk B z p] := by
  unfold tks
  have e : z + 1 - p = (z - p) + 1 := by omega
  rw [e, tksF]
  by_cases h0 : (tk B z p).1 = 0
  · rw [if_pos h0, if_pos h0]
  · rw [if_neg h0, if_neg h0]
    by_cases hf : (tk B z p).2.2.2.2 = none
    · have := tk_next h h0 hf
      rw [if_pos hf, if_pos hf, tksF_eq (z - p) (z + 1 - (tk B z p).2.2.2.1) _ (by omega) (by omega) this.2]
    · rw [if_neg hf, if_neg hf]
theorem tk_blank (hpz : p < z) (hb : blk (B p) = true) : tk B z p = tk B z (p + 1) := by
  unfold tk
  rw [sk_go hpz hb]
theorem tks_blank (hpz : p < z) (hb : blk (B p) = true) : tks B z p = tks B z (p + 1) := by
  rw [tks_un (Nat.le_of_lt hpz), tks_un (show p + 1 ≤ z by omega), tk_blank hpz hb]
end LS
/-- the arrays hold the tokens from place j on -/
def TKL (k s v : Nat → Int32) : Nat → List Tk → Prop
  | _, [] => True
  | j, t :: r => k j = nn t.1 ∧ s j = nn t.2.1 ∧ v j = t.2.2.1 ∧ TKL k s v (j + 1) r
def lastF : List Tk → Option Nat
  | [] => none
  | [t] => t.2.2.2.2
  | _ :: t :: r => lastF (t :: r)
section LC
variable {c : cS} {B : Nat → Nat} {a z L : Nat}
theorem nn_le2 {a b : Nat} {α : Type} {A C : α} (ha : a < 2147483648) (hb : b < 2147483648) : (if nn a ≤ nn b then A else C) = if a ≤ b then A else C := by
  by_cases h : a ≤ b
  · rw [if_pos h, if_pos ((nn_le ha hb).mpr h)]
  · rw [if_neg h, if_neg (fun hh => h ((nn_le ha hb).mp hh))]
theorem tks_ne (B : Nat → Nat) (z p : Nat) (h : p ≤ z) : ∃ t r, tks B z p = t :: r := by
  rw [tks_un h]
  by_cases h0 : (tk B z p).1 = 0
  · rw [if_pos h0]; exact ⟨_, _, rfl⟩
  · rw [if_neg h0]
    by_cases hf : (tk B z p).2.2.2.2 = none
    · rw [if_pos hf]; exact ⟨_, _, rfl⟩
    · rw [if_neg hf]; exact ⟨_, _, rfl⟩
theorem lastF_cons {t : Tk} {l : List Tk} (h : ∃ x r, l = x :: r) : lastF (t :: l) = lastF l := by
  obtain ⟨x, r, rfl⟩ := h
  rfl
theorem tk_nb {p : Nat} (hpz : p < z) (hb : ¬ blk (B p) = true) (h35 : ¬ B p = 35) : tk B z p = lx B z p := by
  unfold tk
  have hs : sk B z p = p := scan_no hb
  rw [hs, gb_in hpz, if_neg (by omega)]
theorem tk_35 {p : Nat} (hpz : p < z) (h35 : B p = 35) : tk B z p = (0, p, 0, p, none) := by
  unfold tk
  have hs : sk B z p = p := scan_no (by rw [h35]; decide)
  rw [hs, gb_in hpz, if_pos (Or.inr h35)]
theorem tk_z : tk B z z = (0, z, 0, z, none) := by
  unfold tk
  have hs : sk B z z = z := scan_end (Nat.le_refl _)
  rw [hs, if_pos (Or.inl rfl)]
theorem c_end {j p : Nat} {fl fw : Int32} {k s v : Nat → Int32} (TT : TA c L) (hj : j < L) : f23_111 (ct c (nn j) fl fw k s v) (nn p) = some (ct c (nn (j + 1)) fl fw (upd k j 0) (upd s j (nn p)) (upd v j 0)) := by
  unfold f23_111
  rw [c_add TT hj]
  rfl
/-- what splitLine leaves -/
def LSP (c : cS) (L j : Nat) (k s v : Nat → Int32) (ts : List Tk) (r : Option cS) : Prop := ∃ (n' : Nat) (fl' fw' : Int32) (k' s' v' : Nat → Int32), r = some (ct c (nn n') fl' fw' k' s' v') ∧ (∀ i, i < j → k' i = k i ∧ s' i = s i ∧ v' i = v i) ∧ TKL k' s' v' j ts ∧ (lastF ts = none → fl' = -1 ∧ n' = j + ts.length) ∧ (∀ w, lastF ts = some w → fl' = nn (j + ts.length - 1) ∧ fw' = nn w ∧ n' = j + ts.length + 1 ∧ k' (j + ts.length) = 0) ∧ n' ≤ L
theorem LSP_end {j p : Nat} {fw : Int32} {k s v : Nat → Int32} (TT : TA c L) (hj : j < L) : LSP c L j k s v [(0, p, 0, p, none)] (f23_111 (ct c (nn j) (-1) fw k s v) (nn p)) := by
  refine ⟨j + 1, -1, fw, upd k j 0, upd s j (nn p), upd v j 0, c_end TT hj, ?_, ⟨?_, ?_, ?_, trivial⟩, fun _ => ⟨rfl, rfl⟩, (fun w h => by cases h), by omega⟩
  · intro i hi
    unfold upd
    rw [if_neg (by omega), if_neg (by omega), if_neg (by omega)]
    exact ⟨rfl, rfl, rfl⟩
  · unfold upd; rw [if_pos rfl]; rfl
  · unfold upd; rw [if_pos rfl]
  · unfold upd; rw [if_pos rfl]
theorem c_split (TT : TA c L) (T : TC c B a z) : ∀ (d p : Nat), z - p = d → a ≤ p → p ≤ z → ∀ (u turn j : Nat) (fw : Int32) (k s v : Nat → Int32), d < u → turn ≤ p → j + d + 1 ≤ L → LSP c L j k s v (tks B z p) (f23_35 u (ct c (nn j) (-1) fw k s v) (nn p) (nn turn)) := by
  have hB := T.2.2.2.2.2.2.1
  have hz0 := T.2.2.2.1
  have hl0 := T.2.2.2.2.1
  have hL := TT.2.2.2.2.2.2.1
  intro d
  induction d using Nat.strongRecOn with
  | _ d ih =>
    intro p hd ha hpz u turn j fw k s v hu ht hr
    have T0 := ct_TC (n := nn j) (fl := -1) (fw := fw) (k := k) (s := s) (v := v) TT T
    have eu : u = (u - 1) + 1 := by omega
    rw [eu, f23_35, zle T0 (by omega), zle T0 (by omega), ct_fl, if_pos rfl]
    by_cases hp : p = z
    · subst hp
      rw [tks_un (Nat.le_refl _), tk_z, if_pos rfl]
      by_cases h1 : p ≤ turn
      · rw [if_pos h1]; exact LSP_end TT (by omega)
      · rw [if_neg h1, if_pos (Nat.le_refl _)]; exact LSP_end TT (by omega)
    have hlt : p < z := by omega
    have eg : gc B z p = nn (B p) := by unfold gc; rw [if_pos hlt]
    rw [if_neg (show ¬ z ≤ turn by omega), if_neg (show ¬ z ≤ p by omega), c_byte T0 ha (by omega), Option.bind_some, eg, q_eq (x := 35) (k := 35) rfl (hB p) (by decide), q_eq (x := 32) (k := 32) rfl (hB p) (by decide), q_eq (x := 9) (k := 9) rfl (hB p) (by decide), q_eq (x := 13) (k := 13) rfl (hB p) (by decide)]
    by_cases h35 : B p = 35
    · rw [if_pos h35, tks_un hpz, tk_35 hlt h35, if_pos rfl]
      unfold f23_71
      exact LSP_end TT (by omega)
    rw [if_neg h35]
    by_cases hb : blk (B p) = true
    · have key : LSP c L j k s v (tks B z p) (f23_92 (f23_35 (u - 1)) (ct c (nn j) (-1) fw k s v) (nn p) (nn turn)) := by
        rw [tks_blank hlt hb]
        unfold f23_92 f23_105
        rw [nn_add1, nn_add1]
        exact ih (d - 1) (by omega) (p + 1) (by omega) (by omega) (by omega) (u - 1) (turn + 1) j fw k s v (by omega) (by omega) (by omega)
      have hb2 := hb
      unfold blk at hb2
      simp only [decide_eq_true_eq] at hb2
      by_cases e1 : B p = 32
      · rw [if_pos e1]; exact key
      · rw [if_neg e1]
        by_cases e2 : B p = 9
        · rw [if_pos e2]; exact key
        · rw [if_neg e2, if_pos (by omega)]; exact key
    have hn : ¬ B p = 32 ∧ ¬ B p = 9 ∧ ¬ B p = 13 := by
      unfold blk at hb
      simp only [decide_eq_true_eq] at hb
      omega
    rw [if_neg hn.1, if_neg hn.2.1, if_neg hn.2.2, tks_un hpz, tk_nb hlt hb h35, if_neg (lx_kind hlt)]
    obtain ⟨nx, e1, e2, e3, e4⟩ := c_tok (fw := fw) (k := k) (s := s) (v := v) TT T ha hlt (show j < L by omega)
    rw [e1, Option.bind_some]
    unfold f23_105
    rw [nn_add1]
    have upk : ∀ {f : Nat → Int32} {y : Int32} {i : Nat}, i < j → upd f j y i = f i := by
      intro f y i hi
      unfold upd
      rw [if_neg (by omega)]
    have upj : ∀ {f : Nat → Int32} {y : Int32}, upd f j y j = y := by
      intro f y
      unfold upd
      rw [if_pos rfl]
    cases hf : (lx B z p).2.2.2.2 with
    | none =>
      have hnx := lx_next hlt hf
      have enx := e4 hf
      rw [if_pos rfl]
      have ef : flI (lx B z p) j = -1 := by unfold flI; rw [hf]
      have ep : flP (lx B z p) fw = fw := by unfold flP; rw [hf]
      rw [ef, ep]
      obtain ⟨n', fl', fw', k', s', v', r1, r2, r3, r4, r5, r6⟩ := ih (z - nx) (by omega) nx rfl (by omega) (by omega) (u - 1) (turn + 1) (j + 1) fw (upd k j (nn (lx B z p).1)) (upd s j (nn p)) (upd v j (lx B z p).2.2.1) (by omega) (by omega) (by omega)
      have hst : (lx B z p).2.1 = p := by
        unfold lx
        repeat' split
        all_goals rfl
      rw [← enx]
      have hne := tks_ne B z nx (by omega)
      refine ⟨n', fl', fw', k', s', v', r1, ?_, ⟨?_, ?_, ?_, r3⟩, ?_, ?_, r6⟩
      · intro i hi
        obtain ⟨q1, q2, q3⟩ := r2 i (by omega)
        rw [q1, q2, q3, upk hi, upk hi, upk hi]
        exact ⟨rfl, rfl, rfl⟩
      · rw [(r2 j (by omega)).1, upj]
      · rw [(r2 j (by omega)).2.1, upj, hst]
      · rw [(r2 j (by omega)).2.2, upj]
      · rw [lastF_cons hne, List.length_cons]
        intro h
        have := r4 h
        exact ⟨this.1, by omega⟩
      · rw [lastF_cons hne, List.length_cons]
        intro w h
        obtain ⟨q1, q2, q3, q4⟩ := r5 w h
        have e7 : j + ((tks B z nx).length + 1) - 1 = j + 1 + (tks B z nx).length - 1 := by omega
        have e8 : j + ((tks B z nx).length + 1) = j + 1 + (tks B z nx).length := by omega
        rw [e7, e8]
        exact ⟨q1, q2, by omega, q4⟩
    | some w =>
      rw [if_neg (by simp)]
      have ef : flI (lx B z p) j = nn j := by unfold flI; rw [hf]
      have ep : flP (lx B z p) fw = nn w := by unfold flP; rw [hf]
      rw [ef, ep]
      have hst : (lx B z p).2.1 = p := by
        unfold lx
        repeat' split
        all_goals rfl
      have eu2 : u - 1 = (u - 2) + 1 ∨ u - 1 = 0 := by omega
      have T1 := ct_TC (n := nn (j + 1)) (fl := nn j) (fw := nn w) (k := upd k j (nn (lx B z p).1)) (s := upd s j (nn p)) (v := upd v j (lx B z p).2.2.1) TT T
      have hu0 : ¬ u - 1 = 0 := by omega
      have eu3 : u - 1 = (u - 2) + 1 := by omega
      have efin : f23_35 (u - 1) (ct c (nn (j + 1)) (nn j) (nn w) (upd k j (nn (lx B z p).1)) (upd s j (nn p)) (upd v j (lx B z p).2.2.1)) (nn nx) (nn (turn + 1)) = f23_111 (ct c (nn (j + 1)) (nn j) (nn w) (upd k j (nn (lx B z p).1)) (upd s j (nn p)) (upd v j (lx B z p).2.2.1)) (nn nx) := by
        rw [eu3, f23_35, zle T1 (by omega), zle T1 (by omega), ct_fl, if_neg (nn_m1 (show j < 2147483648 by omega))]
        by_cases h1 : z ≤ turn + 1
        · rw [if_pos h1]
        · rw [if_neg h1]
          by_cases h2 : z ≤ nx
          · rw [if_pos h2]
          · rw [if_neg h2]
      rw [efin, c_end TT (show j + 1 < L by omega)]
      refine ⟨j + 1 + 1, nn j, nn w, _, _, _, rfl, ?_, ⟨?_, ?_, ?_, trivial⟩, ?_, ?_, by omega⟩
      · intro i hi
        have hne : ¬ i = j + 1 := by omega
        unfold upd
        rw [if_neg hne, if_neg (by omega), if_neg hne, if_neg (by omega), if_neg hne, if_neg (by omega)]
        exact ⟨rfl, rfl, rfl⟩
      · unfold upd; rw [if_neg (by omega), if_pos rfl]
      · unfold upd; rw [if_neg (by omega), if_pos rfl, hst]
      · unfold upd; rw [if_neg (by omega), if_pos rfl]
      · intro h
        have : lastF [lx B z p] = some w := hf
        rw [this] at h
        cases h
      · intro w2 h
        have : lastF [lx B z p] = some w := hf
        rw [this] at h
        cases h
        refine ⟨rfl, rfl, rfl, ?_⟩
        unfold upd
        exact if_pos rfl
end LC
