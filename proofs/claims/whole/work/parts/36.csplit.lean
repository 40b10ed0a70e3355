/-! THE CLASS's splitToken adds the token lx. -/
section CP
variable {c : cS} {n fl fw x : Int32} {k s v : Nat → Int32} {B : Nat → Nat} {a z p L j : Nat}
theorem zle {q : Nat} (T : TC c B a z) (hq : q < 1000000) {α : Type} {A C : α} : (if c.1 11 10 ≤ nn q then A else C) = if z ≤ q then A else C := by
  have hz := T.2.2.2.1
  have hl := T.2.2.2.2.1
  rw [T.2.1]
  by_cases h : z ≤ q
  · rw [if_pos h, if_pos ((nn_le (by omega) (by omega)).mpr h)]
  · rw [if_neg h, if_neg (fun hh => h ((nn_le (by omega) (by omega)).mp hh))]
theorem c_nameloop (T : TC c B a z) : ∀ (u q : Nat), z - q < u → a ≤ q → q < 900000 → f29_2 u c (nn p) (nn q) = f29_27 c (nn p) (nn (scan (fun i => isN (B i)) z q)) := by
  have hB := T.2.2.2.2.2.2.1
  have hz0 := T.2.2.2.1
  have hl0 := T.2.2.2.2.1
  intro u
  induction u with
  | zero => intro q h; omega
  | succ u ih =>
    intro q h ha hq
    rw [f29_2, zle T (by omega), c_byte T ha (by omega), Option.bind_some, q_b (gc_name hB), nn_add1]
    by_cases hz : z ≤ q
    · rw [if_pos hz, scan_end hz]
    · rw [if_neg hz, gb_in (by omega)]
      by_cases hn : isN (B q) = true
      · rw [if_pos hn, ih (q + 1) (by omega) (by omega) (by omega), scan_go (P := fun i => isN (B i)) (by omega) hn]
      · rw [if_neg hn, scan_no (P := fun i => isN (B i)) hn]
theorem c_decloop (T : TC c B a z) : ∀ (u q : Nat) (w : Int32), z - q < u → a ≤ q → q < 900000 → f34_4 u c (nn p) w (nn q) = f34_43 c (nn p) (decV B (scan (fun i => isD (B i)) z q - q) q w) (nn (scan (fun i => isD (B i)) z q)) := by
  have hB := T.2.2.2.2.2.2.1
  have hz0 := T.2.2.2.1
  have hl0 := T.2.2.2.2.1
  intro u
  induction u with
  | zero => intro q w h; omega
  | succ u ih =>
    intro q w h ha hq
    rw [f34_4, zle T (by omega), c_byte T ha (by omega), Option.bind_some, Option.bind_some, q_b (gc_digit hB), nn_add1]
    by_cases hz : z ≤ q
    · rw [if_pos hz, scan_end hz, Nat.sub_self, decV]
    · rw [if_neg hz, gb_in (by omega)]
      by_cases hn : isD (B q) = true
      · have hge := scan_ge (fun i => isD (B i)) z (q + 1)
        have e2 : scan (fun i => isD (B i)) z (q + 1) - q = (scan (fun i => isD (B i)) z (q + 1) - (q + 1)) + 1 := by omega
        have eg : gc B z q = nn (B q) := by unfold gc; rw [if_pos (by omega)]
        rw [if_pos hn, eg, dec_step hn, ih (q + 1) _ (by omega) (by omega) (by omega), scan_go (P := fun i => isD (B i)) (by omega) hn, e2, decV]
      · rw [if_neg hn, scan_no (P := fun i => isD (B i)) hn, Nat.sub_self, decV]
theorem c_hexloop (T : TC c B a z) : ∀ (u q : Nat) (w : Int32), z - q < u → a ≤ q → q < 900000 → f32_6 u c (nn p) w (nn q) = f32_45 c (nn p) (hexV B (scan (fun i => isH (B i)) z q - q) q w) (nn (scan (fun i => isH (B i)) z q)) := by
  have hB := T.2.2.2.2.2.2.1
  have hz0 := T.2.2.2.1
  have hl0 := T.2.2.2.2.1
  intro u
  induction u with
  | zero => intro q w h; omega
  | succ u ih =>
    intro q w h ha hq
    rw [f32_6, zle T (by omega), c_byte T ha (by omega), Option.bind_some, Option.bind_some, gc_hex hB, nn_add1]
    by_cases hz : z ≤ q
    · rw [if_pos hz, scan_end hz, Nat.sub_self, hexV]
    · rw [if_neg hz, gb_in (by omega)]
      by_cases hn : isH (B q) = true
      · have hge := scan_ge (fun i => isH (B i)) z (q + 1)
        have e2 : scan (fun i => isH (B i)) z (q + 1) - q = (scan (fun i => isH (B i)) z (q + 1) - (q + 1)) + 1 := by omega
        have hd : hxd (B q) < 16 := by unfold isH at hn; simpa using hn
        rw [if_pos hn, if_neg (nn_m1 (by omega)), hex_step w hd, ih (q + 1) _ (by omega) (by omega) (by omega), scan_go (P := fun i => isH (B i)) (by omega) hn, e2, hexV]
      · rw [if_neg hn, if_pos rfl, scan_no (P := fun i => isH (B i)) hn, Nat.sub_self, hexV]
theorem wid_le (B : Nat → Nat) (z p : Nat) : 1 ≤ wid B z p ∧ wid B z p ≤ 2 := by
  unfold wid
  by_cases h : gb B z p = 92
  · rw [if_pos h]; omega
  · rw [if_neg h]; omega
theorem mean_wid {g : Nat} (hm : ¬ mean B z g p = 999) : p + wid B z p ≤ z := by
  have hpz : p < z := Nat.lt_of_not_le (fun hh => hm (mean_out hh))
  unfold wid
  by_cases h92 : gb B z p = 92
  · rw [if_pos h92]
    refine Nat.lt_of_not_le (fun hh => hm ?_)
    unfold mean
    rw [if_pos h92, gb_out (by omega)]
    rfl
  · rw [if_neg h92]; omega
theorem c_strloop (T : TC c B a z) : ∀ (h u q m : Nat), z - q ≤ h → h < u → a ≤ q → q ≤ z → f39_6 u c (nn p) (nn m) (nn q) = f39_39 c (nn p) (nn (m + (strL B z h q).length)) (nn (strE B z h q)) := by
  have hB := T.2.2.2.2.2.2.1
  have hz := T.2.2.2.1
  have hl := T.2.2.2.2.1
  intro h
  induction h with
  | zero =>
    intro u q m h1 h2 ha hq
    have eu : u = (u - 1) + 1 := by omega
    rw [eu, f39_6, zle T (by omega), if_pos (by omega)]
    rfl
  | succ h ih =>
    intro u q m h1 h2 ha hq
    have eu : u = (u - 1) + 1 := by omega
    have e34 : (34 : Int32) = nn 34 := rfl
    rw [eu, f39_6, zle T (by omega), e34, c_mean T ha (by omega) (by decide) (by decide), Option.bind_some, c_wid T ha (by omega), Option.bind_some, strL, strE]
    by_cases hzq : z ≤ q
    · have hm := mean_out (B := B) (q := 34) hzq
      rw [if_pos hzq, if_pos hm, if_pos hm]
      rfl
    · rw [if_neg hzq]
      by_cases hm : mean B z 34 q = 999
      · rw [if_pos hm, if_pos hm, if_pos hm, if_pos rfl]
        rfl
      · have hw := mean_wid hm
        have hw1 := wid_le B z q
        have hsm : mean B z 34 q < 128 := by
          rcases mean_or B z 34 q with hh | hh
          · exact absurd hh hm
          · exact hh
        rw [if_neg hm, if_neg hm, if_neg hm, if_neg (nn_m1 (by omega)), nn_add1, nn_add, ih (u - 1) (q + wid B z q) (m + 1) (by omega) (by omega) (by omega) hw, List.length_cons]
        have : m + 1 + (strL B z h (q + wid B z q)).length = m + ((strL B z h (q + wid B z q)).length + 1) := by omega
        rw [this]
theorem strE_le (B : Nat → Nat) (z : Nat) : ∀ (h q : Nat), q ≤ z → q ≤ strE B z h q ∧ strE B z h q ≤ z := by
  intro h
  induction h with
  | zero => intro q hq; exact ⟨Nat.le_refl _, hq⟩
  | succ h ih =>
    intro q hq
    rw [strE]
    by_cases hm : mean B z 34 q = 999
    · rw [if_pos hm]; omega
    · rw [if_neg hm]
      have := ih (q + wid B z q) (mean_wid hm)
      have := wid_le B z q
      omega
def flI (t : Tk) (j : Nat) : Int32 := match t.2.2.2.2 with
  | some _ => nn j
  | none => -1
def flP (t : Tk) (fw : Int32) : Int32 := match t.2.2.2.2 with
  | some w => nn w
  | none => fw
/-- what splitToken answers for the token t at p -/
def spl (c : cS) (j p : Nat) (fw : Int32) (k s v : Nat → Int32) (t : Tk) (r : Option (Int32 × cS)) : Prop :=
  ∃ nx, r = some (nn nx, ct c (nn (j + 1)) (flI t j) (flP t fw) (upd k j (nn t.1)) (upd s j (nn p)) (upd v j t.2.2.1)) ∧ p < nx ∧ nx < 70000 ∧ (t.2.2.2.2 = none → nx = t.2.2.2.1)
theorem c_tok (TT : TA c L) (T : TC c B a z) (ha : a ≤ p) (hpz : p < z) (hj : j < L) : spl c j p fw k s v (lx B z p) (f26 (ct c (nn j) (-1) fw k s v) (nn p) (nn (B p))) := by
  have hB := T.2.2.2.2.2.2.1
  have hz := T.2.2.2.1
  have hl := T.2.2.2.2.1
  have hL := TT.2.2.2.2.2.2.1
  have hU : (200000 : Nat) = mm_U := rfl
  have T0 := ct_TC (n := nn j) (fl := -1) (fw := fw) (k := k) (s := s) (v := v) TT T
  have hg := hB p
  have eg : gb B z p = B p := gb_in hpz
  have ej : j + 1 - 1 = j := by omega
  have e0 : ∀ q : Nat, q < 2147483648 → ¬ nn q = -1 := fun q h => nn_m1 h
  unfold lx
  rw [eg]
  unfold f26
  rw [q_b (cc_name hg), q_b (cc_digit hg), q_eq (x := 46) (k := 46) rfl hg (by decide), nn_add1, c_byte T0 (by omega) (by omega), Option.bind_some, q_b (gc_name hB)]
  by_cases hname : isB (B p) = true ∧ (¬ B p = 46 ∨ isN (gb B z (p + 1)) = true)
  · -- a name
    rw [if_pos hname]
    have hN : isN (B p) = true := by unfold isN; rw [hname.1]; rfl
    have hn := isB_not hname.1
    rw [if_pos hN, if_neg hn.1]
    have hge := scan_ge (fun i => isN (B i)) z p
    have hgo := scan_go (P := fun i => isN (B i)) hpz hN
    have hge1 := scan_ge (fun i => isN (B i)) z (p + 1)
    have hle := scan_le (P := fun i => isN (B i)) (Nat.le_of_lt hpz)
    have e32 : (32 : Int32) = nn 32 := rfl
    have key : f26_33 (ct c (nn j) (-1) fw k s v) (nn p) = some (nn (scan (fun i => isN (B i)) z p), if 32 < scan (fun i => isN (B i)) z p - p then ct c (nn (j + 1)) (nn j) (nn (p + 32)) (upd k j 1) (upd s j (nn p)) (upd v j (nn (scan (fun i => isN (B i)) z p - p))) else ct c (nn (j + 1)) (-1) fw (upd k j 1) (upd s j (nn p)) (upd v j (nn (scan (fun i => isN (B i)) z p - p)))) := by
      unfold f26_33 f29
      rw [c_nameloop T0 mm_U p (by rw [← hU]; omega) ha (by omega)]
      unfold f29_27
      rw [nn_sub hge, c_add TT hj, Option.bind_some, e32, nn_add, c_spoil (by omega), ej]
      by_cases h32 : scan (fun i => isN (B i)) z p - p ≤ 32
      · rw [if_pos ((nn_le (by omega) (by omega)).mpr h32), if_neg (by omega)]; rfl
      · rw [if_neg (fun hh => h32 ((nn_le (by omega) (by omega)).mp hh)), if_pos (by omega)]; rfl
    have e3 : ∀ A, (if B p = 46 then (if isN (gb B z (p + 1)) = true then f26_33 (ct c (nn j) (-1) fw k s v) (nn p) else A) else f26_33 (ct c (nn j) (-1) fw k s v) (nn p)) = f26_33 (ct c (nn j) (-1) fw k s v) (nn p) := by
      intro A
      by_cases h46 : B p = 46
      · rw [if_pos h46, if_pos (by rcases hname.2 with h | h; exact absurd h46 h; exact h)]
      · rw [if_neg h46]
    rw [e3, key]
    refine ⟨scan (fun i => isN (B i)) z p, ?_, by omega, by omega, fun _ => rfl⟩
    by_cases h32 : 32 < scan (fun i => isN (B i)) z p - p
    · simp only [if_pos h32]; rfl
    · simp only [if_neg h32]; rfl
  rw [if_neg hname]
  have e4 : (if isN (B p) = true then (if isD (B p) = true then f26_39 (ct c (nn j) (-1) fw k s v) (nn p) (nn (B p)) else (if B p = 46 then (if isN (gb B z (p + 1)) = true then f26_33 (ct c (nn j) (-1) fw k s v) (nn p) else f26_39 (ct c (nn j) (-1) fw k s v) (nn p) (nn (B p))) else f26_33 (ct c (nn j) (-1) fw k s v) (nn p))) else f26_39 (ct c (nn j) (-1) fw k s v) (nn p) (nn (B p))) = f26_39 (ct c (nn j) (-1) fw k s v) (nn p) (nn (B p)) := by
    by_cases hN : isN (B p) = true
    · rw [if_pos hN]
      by_cases hD : isD (B p) = true
      · rw [if_pos hD]
      · rw [if_neg hD]
        have hb : isB (B p) = true := by unfold isN at hN; simp only [Bool.or_eq_true] at hN; rcases hN with h | h; exact h; exact absurd h hD
        have h46 : B p = 46 := Decidable.byContradiction (fun h => hname ⟨hb, Or.inl h⟩)
        rw [if_pos h46, if_neg (fun h => hname ⟨hb, Or.inr h⟩)]
    · rw [if_neg hN]
  rw [e4]
  unfold f26_39
  rw [q_b (cc_digit hg), q_eq (x := 39) (k := 39) rfl hg (by decide), q_eq (x := 34) (k := 34) rfl hg (by decide), q_eq (x := 60) (k := 60) rfl hg (by decide), q_eq (x := 62) (k := 62) rfl hg (by decide), q_b (cc_sign hg), q_eq (x := 48) (k := 48) rfl hg (by decide), nn_add1, c_byte T0 (by omega) (by omega), Option.bind_some, gc_q (x := 120) (k2 := 120) hB rfl (by decide) (by decide)]
  by_cases hd : isD (B p) = true
  · rw [if_pos hd, if_pos hd]
    have hgeD := scan_ge (fun i => isD (B i)) z p
    have hgoD := scan_go (P := fun i => isD (B i)) hpz hd
    have hge1D := scan_ge (fun i => isD (B i)) z (p + 1)
    have hleD := scan_le (P := fun i => isD (B i)) (Nat.le_of_lt hpz)
    have plain : f26_72 (ct c (nn j) (-1) fw k s v) (nn p) = some (nn (scan (fun i => isD (B i)) z p), ct c (nn (j + 1)) (-1) fw (upd k j 2) (upd s j (nn p)) (upd v j (decV B (scan (fun i => isD (B i)) z p - p) p 0))) := by
      unfold f26_72 f34
      rw [c_decloop T0 mm_U p 0 (by rw [← hU]; omega) ha (by omega)]
      unfold f34_43
      rw [c_add TT hj]
      rfl
    by_cases hx : B p = 48 ∧ gb B z (p + 1) = 120
    · have hp1 : p + 1 < z := Nat.lt_of_not_le (fun hh => by have := hx.2; rw [gb_out hh] at this; omega)
      have hge := scan_ge (fun i => isH (B i)) z (p + 2)
      have hle := scan_le (P := fun i => isH (B i)) (show p + 2 ≤ z by omega)
      rw [if_pos hx, if_pos hx.1, if_pos hx.2]
      have key : f32 (ct c (nn j) (-1) fw k s v) (nn p) = some (nn (scan (fun i => isH (B i)) z (p + 2)), if scan (fun i => isH (B i)) z (p + 2) = p + 2 then ct c (nn (j + 1)) (nn j) (nn (scan (fun i => isH (B i)) z (p + 2))) (upd k j 2) (upd s j (nn p)) (upd v j (hexV B (scan (fun i => isH (B i)) z (p + 2) - (p + 2)) (p + 2) 0)) else ct c (nn (j + 1)) (-1) fw (upd k j 2) (upd s j (nn p)) (upd v j (hexV B (scan (fun i => isH (B i)) z (p + 2) - (p + 2)) (p + 2) 0))) := by
        unfold f32
        rw [nn_add2, c_hexloop T0 mm_U (p + 2) 0 (by rw [← hU]; omega) (by omega) (by omega)]
        unfold f32_45
        rw [c_add TT hj, Option.bind_some, nn_add2, c_spoil (by omega), ej]
        by_cases h32 : scan (fun i => isH (B i)) z (p + 2) = p + 2
        · rw [if_pos ((nn_eq (by omega) (by omega)).mpr h32), if_pos h32]
        · rw [if_neg (fun hh => h32 ((nn_eq (by omega) (by omega)).mp hh)), if_neg h32]
      rw [key, Option.bind_some]
      refine ⟨scan (fun i => isH (B i)) z (p + 2), ?_, by omega, by omega, fun _ => rfl⟩
      by_cases h32 : scan (fun i => isH (B i)) z (p + 2) = p + 2
      · simp only [if_pos h32]; rw [h32]; rfl
      · simp only [if_neg h32]; rfl
    · rw [if_neg hx]
      have e5 : ∀ A, (if B p = 48 then (if gb B z (p + 1) = 120 then A else f26_72 (ct c (nn j) (-1) fw k s v) (nn p)) else f26_72 (ct c (nn j) (-1) fw k s v) (nn p)) = f26_72 (ct c (nn j) (-1) fw k s v) (nn p) := by
        intro A
        by_cases h48 : B p = 48
        · rw [if_pos h48, if_neg (fun h => hx ⟨h48, h⟩)]
        · rw [if_neg h48]
      rw [e5, plain]
      exact ⟨scan (fun i => isD (B i)) z p, rfl, by omega, by omega, fun _ => rfl⟩
  rw [if_neg hd, if_neg hd]
  by_cases h39 : B p = 39
  · -- a character
    rw [if_pos h39, if_pos h39]
    have hw := wid_le B z (p + 1)
    have e39 : (39 : Int32) = nn 39 := rfl
    have e11 : (1 : Int32) = nn 1 := rfl
    unfold f35 f35_59
    rw [nn_add1, e39, c_mean T0 (by omega) (by omega) (by decide) (by decide), Option.bind_some, c_wid T0 (by omega) (by omega), Option.bind_some, c_add TT hj, Option.bind_some, nn_add, e11, nn_sub (by omega), c_spoil (by omega), c_spoil (by omega), ej, c_byte (ct_TC TT T) (by omega) (by omega), Option.bind_some, gc_q (x := nn 39) (k2 := 39) hB rfl (by decide) (by decide), ← e11, nn_add1]
    by_cases hm : mean B z 39 (p + 1) = 999
    · have e6 : p + 1 + wid B z (p + 1) - 1 = p + wid B z (p + 1) := by omega
      simp only [if_pos hm]
      rw [if_pos trivial, e6]
      exact ⟨p + 1 + wid B z (p + 1) + 1, rfl, by omega, by omega, fun h => by simp at h⟩
    · have hsm : mean B z 39 (p + 1) < 128 := by
        rcases mean_or B z 39 (p + 1) with hh | hh
        · exact absurd hh hm
        · exact hh
      simp only [if_neg hm]
      rw [if_neg (e0 _ (by omega))]
      by_cases hc : gb B z (p + 1 + wid B z (p + 1)) = 39
      · simp only [if_pos hc]
        exact ⟨p + 1 + wid B z (p + 1) + 1, rfl, by omega, by omega, fun _ => rfl⟩
      · simp only [if_neg hc]
        exact ⟨p + 1 + wid B z (p + 1) + 1, rfl, by omega, by omega, fun h => by simp at h⟩
  rw [if_neg h39, if_neg h39]
  by_cases h34 : B p = 34
  · -- a string
    rw [if_pos h34, if_pos h34]
    have hE := strE_le B z (z - p) (p + 1) (by omega)
    have hw := wid_le B z (strE B z (z - p) (p + 1))
    have e00 : (0 : Int32) = nn 0 := rfl
    have e11 : (1 : Int32) = nn 1 := rfl
    unfold f39
    rw [nn_add1, e00, c_strloop T0 (z - p) mm_U (p + 1) 0 (by omega) (by rw [← hU]; omega) (by omega) (by omega), Nat.zero_add]
    unfold f39_39 f39_69
    rw [c_add TT hj, Option.bind_some, c_byte (ct_TC TT T) (by omega) (by omega), Option.bind_some, gc_q (x := 34) (k2 := 34) hB rfl (by decide) (by decide), c_wid (ct_TC TT T) (by omega) (by omega), Option.bind_some, nn_add, e11, nn_sub (by omega), c_spoil (by omega), ej, ← e11, nn_add1]
    by_cases hc : gb B z (strE B z (z - p) (p + 1)) = 34
    · simp only [if_pos hc]
      exact ⟨strE B z (z - p) (p + 1) + 1, rfl, by omega, by omega, fun _ => rfl⟩
    · simp only [if_neg hc]
      exact ⟨strE B z (z - p) (p + 1) + 1, rfl, by omega, by omega, fun h => by simp at h⟩
  rw [if_neg h34, if_neg h34]
  have two : spl c j p fw k s v (B p, p, 0, p + 2, if gb B z (p + 1) = B p then none else some (p + 1)) (f26_114 (ct c (nn j) (-1) fw k s v) (nn p) (nn (B p))) ∨ B p = 0 := by
    by_cases hb0 : B p = 0
    · exact Or.inr hb0
    refine Or.inl ?_
    unfold f26_114 f26_139
    rw [c_add TT hj, Option.bind_some, nn_add1, c_byte (ct_TC TT T) (by omega) (by omega), Option.bind_some, gc_q (x := nn (B p)) (k2 := B p) hB rfl (by omega) (hB p), nn_add2, c_spoil (by omega), ej]
    by_cases hc : gb B z (p + 1) = B p
    · simp only [if_pos hc]
      exact ⟨p + 2, rfl, by omega, by omega, fun _ => rfl⟩
    · simp only [if_neg hc]
      exact ⟨p + 2, rfl, by omega, by omega, fun h => by simp at h⟩
  by_cases h60 : B p = 60 ∨ B p = 62
  · rw [if_pos h60]
    have e6 : ∀ A, (if B p = 60 then f26_114 (ct c (nn j) (-1) fw k s v) (nn p) (nn (B p)) else (if B p = 62 then f26_114 (ct c (nn j) (-1) fw k s v) (nn p) (nn (B p)) else A)) = f26_114 (ct c (nn j) (-1) fw k s v) (nn p) (nn (B p)) := by
      intro A
      rcases h60 with h | h
      · rw [if_pos h]
      · rw [if_neg (by omega), if_pos h]
    rw [e6]
    rcases two with h | h
    · exact h
    · omega
  rw [if_neg h60, if_neg (fun h => h60 (Or.inl h)), if_neg (fun h => h60 (Or.inr h))]
  unfold f26_156
  by_cases hs : sgn (B p) = true
  · rw [if_pos hs, if_pos hs, c_add TT hj, Option.bind_some, nn_add1]
    exact ⟨p + 1, rfl, by omega, by omega, fun _ => rfl⟩
  · rw [if_neg hs, if_neg hs, c_add TT hj, Option.bind_some, nn_add1]
    exact ⟨p + 1, rfl, by omega, by omega, fun _ => rfl⟩
end CP
