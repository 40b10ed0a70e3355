/-! REGISTERS by their names. -/
def rgL (b0 n : Nat) : Option Nat := if b0 = 120 then (if n ≤ 31 then some n else none) else if b0 = 97 then (if n ≤ 7 then some (10 + n) else none) else if b0 = 115 then (if n ≤ 1 then some (8 + n) else if n ≤ 11 then some (16 + n) else none) else if b0 = 116 then (if n ≤ 2 then some (5 + n) else if n ≤ 6 then some (25 + n) else none) else none
def rg (w : List Nat) : Option Nat := match w with
  | [b0, b1] => if isD b1 = true then rgL b0 (b1 - 48) else if b1 = 112 then (if b0 = 102 then some 8 else if b0 = 103 then some 3 else if b0 = 115 then some 2 else if b0 = 116 then some 4 else none) else if b0 = 114 ∧ b1 = 97 then some 1 else none
  | [b0, b1, b2] => if isD b1 = true ∧ isD b2 = true ∧ ¬ b1 = 48 then rgL b0 ((b1 - 48) * 10 + (b2 - 48)) else none
  | [b0, b1, b2, b3] => if b0 = 122 ∧ b1 = 101 ∧ b2 = 114 ∧ b3 = 111 then some 0 else none
  | _ => none
def rgI (w : List Nat) : Int32 := match rg w with
  | some r => nn r
  | none => -1
def rwd (k : Nat) : List Nat := ([[122, 101, 114, 111], [114, 97], [115, 112], [103, 112], [116, 112], [116, 48], [116, 49], [116, 50], [115, 48], [115, 49], [97, 48], [97, 49], [97, 50], [97, 51], [97, 52], [97, 53], [97, 54], [97, 55], [115, 50], [115, 51], [115, 52], [115, 53], [115, 54], [115, 55], [115, 56], [115, 57], [115, 49, 48], [115, 49, 49], [116, 51], [116, 52], [116, 53], [116, 54], [102, 112]] : List (List Nat)).getD k []
def ixR (w : List Nat) : Option Nat := (List.range 33).find? (fun k => rwd k == w)
def plR (w : List Nat) : Option Nat := match w with
  | [b0, b1] => if b0 = 120 ∧ isD b1 = true then some (b1 - 48) else none
  | [b0, b1, b2] => if b0 = 120 ∧ isD b1 = true ∧ isD b2 = true ∧ ¬ b1 = 48 ∧ (b1 - 48) * 10 + (b2 - 48) < 32 then some ((b1 - 48) * 10 + (b2 - 48)) else none
  | _ => none
theorem ixR_some {w : List Nat} {k : Nat} (h : ixR w = some k) : k < 33 ∧ rwd k = w := by
  have h1 := List.find?_some h
  have h2 := List.mem_of_find?_eq_some h
  exact ⟨List.mem_range.mp h2, by simpa using h1⟩
theorem ixR_none {w : List Nat} (h : ∀ k, k < 33 → ¬ rwd k = w) : ixR w = none := by
  unfold ixR
  rw [List.find?_eq_none]
  intro k hk
  simpa using h k (List.mem_range.mp hk)
theorem rwd_len : ∀ k, k < 33 → ((rwd k).length = 2 ∧ ((rwd k).getD 0 0 = 102 ∨ (rwd k).getD 0 0 = 103 ∨ (rwd k).getD 0 0 = 97 ∨ (rwd k).getD 0 0 = 114 ∨ (rwd k).getD 0 0 = 115 ∨ (rwd k).getD 0 0 = 116)) ∨ ((rwd k).length = 3 ∧ (rwd k).getD 0 0 = 115 ∧ isD ((rwd k).getD 1 0) = true ∧ isD ((rwd k).getD 2 0) = true ∧ ¬ (rwd k).getD 1 0 = 48) ∨ rwd k = [122, 101, 114, 111] := by decide +kernel
def rgX (w : List Nat) : Option Nat := match ixR w with
  | some k => some (if k = 32 then 8 else k)
  | none => plR w
theorem rg2 : ∀ b0, b0 = 102 ∨ b0 = 103 ∨ b0 = 97 ∨ b0 = 114 ∨ b0 = 115 ∨ b0 = 116 ∨ b0 = 120 → ∀ b1, b1 < 128 → rg [b0, b1] = rgX [b0, b1] := by
  intro b0 h
  rcases h with rfl | rfl | rfl | rfl | rfl | rfl | rfl
  all_goals decide +kernel
theorem rg3 : ∀ b0, b0 = 97 ∨ b0 = 115 ∨ b0 = 116 ∨ b0 = 120 → ∀ b1, b1 < 58 → ∀ b2, b2 < 58 → isD b1 = true ∧ isD b2 = true ∧ ¬ b1 = 48 → rg [b0, b1, b2] = rgX [b0, b1, b2] := by
  intro b0 h
  rcases h with rfl | rfl | rfl | rfl
  all_goals decide +kernel
theorem isD_rng {b : Nat} : isD b = true ↔ 48 ≤ b ∧ b ≤ 57 := by unfold isD; simp
/-- the reference's way comes to the same -/
theorem rg_rgX (w : List Nat) (hw : ∀ b ∈ w, b < 128) : rg w = rgX w := by
  match w, hw with
  | [], _ => decide +kernel
  | [b0], _ =>
    have : ixR [b0] = none := ixR_none (fun k hk h => by
      have := rwd_len k hk
      rw [h] at this
      simp at this)
    unfold rgX; rw [this]; rfl
  | [b0, b1], hw =>
    by_cases h : b0 = 102 ∨ b0 = 103 ∨ b0 = 97 ∨ b0 = 114 ∨ b0 = 115 ∨ b0 = 116 ∨ b0 = 120
    · exact rg2 b0 h b1 (hw b1 (by simp))
    · have : ixR [b0, b1] = none := ixR_none (fun k hk hh => by
        have := rwd_len k hk
        rw [hh] at this
        simp at this
        omega)
      unfold rgX
      rw [this]
      show (if isD b1 = true then rgL b0 (b1 - 48) else if b1 = 112 then (if b0 = 102 then some 8 else if b0 = 103 then some 3 else if b0 = 115 then some 2 else if b0 = 116 then some 4 else none) else if b0 = 114 ∧ b1 = 97 then some 1 else none) = (if b0 = 120 ∧ isD b1 = true then some (b1 - 48) else none)
      unfold rgL
      rw [if_neg (show ¬ b0 = 120 by omega), if_neg (show ¬ b0 = 97 by omega), if_neg (show ¬ b0 = 115 by omega), if_neg (show ¬ b0 = 116 by omega), if_neg (show ¬ b0 = 102 by omega), if_neg (show ¬ b0 = 103 by omega), if_neg (show ¬ b0 = 115 by omega), if_neg (show ¬ b0 = 116 by omega), if_neg (show ¬ (b0 = 114 ∧ b1 = 97) by omega), if_neg (show ¬ (b0 = 120 ∧ isD b1 = true) from fun hh => by omega)]
      by_cases q1 : isD b1 = true
      · rw [if_pos q1]
      · rw [if_neg q1]
        by_cases q2 : b1 = 112
        · rw [if_pos q2]
        · rw [if_neg q2]
  | [b0, b1, b2], hw =>
    by_cases hd : isD b1 = true ∧ isD b2 = true ∧ ¬ b1 = 48
    · have d1 := isD_rng.mp hd.1
      have d2 := isD_rng.mp hd.2.1
      by_cases h : b0 = 97 ∨ b0 = 115 ∨ b0 = 116 ∨ b0 = 120
      · exact rg3 b0 h b1 (by omega) b2 (by omega) hd
      · have : ixR [b0, b1, b2] = none := ixR_none (fun k hk hh => by
          have := rwd_len k hk
          rw [hh] at this
          simp at this
          omega)
        unfold rgX
        rw [this]
        show (if isD b1 = true ∧ isD b2 = true ∧ ¬ b1 = 48 then rgL b0 ((b1 - 48) * 10 + (b2 - 48)) else none) = (if b0 = 120 ∧ isD b1 = true ∧ isD b2 = true ∧ ¬ b1 = 48 ∧ (b1 - 48) * 10 + (b2 - 48) < 32 then some ((b1 - 48) * 10 + (b2 - 48)) else none)
        unfold rgL
        rw [if_pos hd, if_neg (show ¬ b0 = 120 by omega), if_neg (show ¬ b0 = 97 by omega), if_neg (show ¬ b0 = 115 by omega), if_neg (show ¬ b0 = 116 by omega), if_neg (fun hh => by have := hh.1; omega)]
    · have : ixR [b0, b1, b2] = none := ixR_none (fun k hk hh => by
        have := rwd_len k hk
        rw [hh] at this
        simp at this
        exact hd ⟨this.2.1, this.2.2.1, this.2.2.2⟩)
      unfold rgX
      rw [this]
      show (if isD b1 = true ∧ isD b2 = true ∧ ¬ b1 = 48 then rgL b0 ((b1 - 48) * 10 + (b2 - 48)) else none) = (if b0 = 120 ∧ isD b1 = true ∧ isD b2 = true ∧ ¬ b1 = 48 ∧ (b1 - 48) * 10 + (b2 - 48) < 32 then some ((b1 - 48) * 10 + (b2 - 48)) else none)
      rw [if_neg hd, if_neg (fun hh => hd ⟨hh.2.1, hh.2.2.1, hh.2.2.2.1⟩)]
  | [b0, b1, b2, b3], hw =>
    by_cases h : b0 = 122 ∧ b1 = 101 ∧ b2 = 114 ∧ b3 = 111
    · obtain ⟨rfl, rfl, rfl, rfl⟩ := h
      decide +kernel
    · have : ixR [b0, b1, b2, b3] = none := ixR_none (fun k hk hh => by
        have := rwd_len k hk
        rw [hh] at this
        simp at this
        exact h this)
      unfold rgX
      rw [this]
      show (if b0 = 122 ∧ b1 = 101 ∧ b2 = 114 ∧ b3 = 111 then some 0 else none) = none
      rw [if_neg h]
  | b0 :: b1 :: b2 :: b3 :: b4 :: r, hw =>
    have : ixR (b0 :: b1 :: b2 :: b3 :: b4 :: r) = none := ixR_none (fun k hk hh => by
      have := rwd_len k hk
      rw [hh] at this
      simp at this)
    unfold rgX
    rw [this]
    rfl
theorem rgL_same (b0 v : Nat) (hv : v < 100) : (if b0 = 97 then (if 7 < v then some (-1 : Int32) else some (10 + nn v)) else if b0 = 115 then (if 1 < v then (if 11 < v then some (-1 : Int32) else some (16 + nn v)) else some (8 + nn v)) else if b0 = 116 then (if 2 < v then (if 6 < v then some (-1 : Int32) else some (25 + nn v)) else some (5 + nn v)) else if b0 = 120 then (if 31 < v then some (-1 : Int32) else some (nn v)) else some (-1 : Int32)) = some (match (if b0 = 120 then (if v ≤ 31 then some v else none) else if b0 = 97 then (if v ≤ 7 then some (10 + v) else none) else if b0 = 115 then (if v ≤ 1 then some (8 + v) else if v ≤ 11 then some (16 + v) else none) else if b0 = 116 then (if v ≤ 2 then some (5 + v) else if v ≤ 6 then some (25 + v) else none) else none) with | some r => nn r | none => -1) := by
  by_cases h1 : b0 = 97
  · subst h1; revert v; decide +kernel
  by_cases h2 : b0 = 115
  · subst h2; clear h1; revert v; decide +kernel
  by_cases h3 : b0 = 116
  · subst h3; clear h1 h2; revert v; decide +kernel
  by_cases h4 : b0 = 120
  · subst h4; clear h1 h2 h3; revert v; decide +kernel
  simp only [if_neg h1, if_neg h2, if_neg h3, if_neg h4]
section RG
variable {c : cS} {m : mS} {B : Nat → Nat} {a z s l : Nat}
theorem c_ra (T : TC c B a z) (Y : BY c) (hn : NM B z s l) (hl : l < 100000) (k : Nat) (hk : k < 106) {α : Type} {A C : α} : ∃ x, f51 c (nn s) (nn l) k = some x ∧ (if x = 0 then A else C) = if nb B s l = sn k then A else C := by
  refine ⟨_, c_cmp T Y hn hl hk, ?_⟩
  have hcm := lcmp_sm _ _ (nb_sm hn) (sn_sm hk)
  have hy := ofInt_sm hcm.1 hcm.2
  by_cases h : nb B s l = sn k
  · rw [if_pos h, h, lcmp_self]; rfl
  · rw [if_neg h]
    have : ¬ Int32.ofInt (lcmp (nb B s l) (sn k)) = 0 := by
      intro hh
      rw [hh] at hy
      have e : (0 : Int32).toInt = 0 := rfl
      exact h (lcmp_eq _ _ (by omega))
    rw [if_neg this]
theorem c_reg (T : TC c B a z) (Y : BY c) (hn : NM B z s l) (ha : a ≤ s) (h0 : 0 < l) : f48 c (nn s) (nn l) = some (rgI (nb B s l)) := by
  have hB := T.2.2.2.2.2.2.1
  have hz := T.2.2.2.1
  have hl := T.2.2.2.2.1
  have hn1 := hn.1
  have e1 : (1 : Int32) = nn 1 := rfl
  have e2 : (2 : Int32) = nn 2 := rfl
  have e4 : (4 : Int32) = nn 4 := rfl
  have byt : ∀ i, i < l → f25 c (nn (s + i)) = some (nn (B (s + i))) := by
    intro i hi
    rw [c_byte T (by omega) (by omega)]
    unfold gc
    rw [if_pos (by omega)]
  have any1 : ∃ x, f25 c (nn (s + 1)) = some x := ⟨_, c_byte T (by omega) (by omega)⟩
  have ra : f50_39 c (nn s) (nn l) = some (if nb B s l = sn 2 then 1 else -1) := by
    unfold f50_39
    obtain ⟨x, q1, q2⟩ := c_ra (A := some (1 : Int32)) (C := some (-1 : Int32)) T Y hn (by omega) 2 (by decide)
    rw [q1, Option.bind_some, q2]
    by_cases h : nb B s l = sn 2
    · rw [if_pos h, if_pos h]
    · rw [if_neg h, if_neg h]
  have ra2 : ¬ l = 2 → f50_39 c (nn s) (nn l) = some (-1) := by
    intro h
    rw [ra, if_neg]
    intro hh
    have := congrArg List.length hh
    rw [nb_len] at this
    exact h this
  have e0 : nn l - 1 = nn (l - 1) := by rw [e1, nn_sub h0]
  unfold f48
  rw [nn_add1, e0]
  have nl : ∀ k : Nat, k < 100000 → ¬ l = k → ¬ nn l = nn k := fun k hk h hh => h ((nn_eq (by omega) (by omega)).mp hh)
  obtain ⟨x1, hx1⟩ := any1
  by_cases l1 : l = 1
  · subst l1
    unfold f49
    rw [hx1, Option.bind_some, if_pos (show nn (1 - 1) < (1 : Int32) by decide), Option.bind_some, if_pos rfl]
    unfold f50
    rw [if_neg (show ¬ nn 1 = (4 : Int32) by decide), if_neg (show ¬ nn 1 = (2 : Int32) by decide), ra2 (by omega)]
    rw [nb_succ]
    rfl
  by_cases l2 : l = 2
  · subst l2
    have hg1 := hB (s + 1)
    have hg0 := hB s
    have b0 := byt 0 (by omega)
    have b1 := byt 1 (by omega)
    rw [Nat.add_zero] at b0
    have ew : nb B s 2 = [B s, B (s + 1)] := rfl
    unfold f49
    rw [b1, Option.bind_some, if_neg (show ¬ nn (2 - 1) < (1 : Int32) by decide), if_neg (show ¬ (2 : Int32) < nn (2 - 1) by decide), q_b (cc_digit hg1), if_pos (show nn (2 - 1) = (1 : Int32) by decide)]
    rw [ew]
    by_cases hd : isD (B (s + 1)) = true
    · have dr := isD_rng.mp hd
      have e48 : (48 : Int32) = nn 48 := rfl
      have er : rg [B s, B (s + 1)] = rgL (B s) (B (s + 1) - 48) := by
        show (if isD (B (s + 1)) = true then _ else _) = _
        rw [if_pos hd]
      rw [if_pos hd, e48, nn_sub dr.1, Option.bind_some, if_neg (nn_m1 (by omega)), b0, Option.bind_some, q_eq (x := 97) (k := 97) rfl hg0 (by decide), q_eq (x := 115) (k := 115) rfl hg0 (by decide), q_eq (x := 116) (k := 116) rfl hg0 (by decide), q_eq (x := 120) (k := 120) rfl hg0 (by decide)]
      unfold rgI
      rw [er]
      generalize hv : B (s + 1) - 48 = v
      have hv9 : v ≤ 9 := by omega
      unfold rgL
      rw [q_gt (x := 7) (k := 7) rfl (by omega) (by decide), q_gt (x := 1) (k := 1) rfl (by omega) (by decide), q_gt (x := 11) (k := 11) rfl (by omega) (by decide), q_gt (x := 2) (k := 2) rfl (by omega) (by decide), q_gt (x := 6) (k := 6) rfl (by omega) (by decide), q_gt (x := 31) (k := 31) rfl (by omega) (by decide)]
      exact rgL_same (B s) v (by omega)
    · rw [if_neg hd, Option.bind_some, if_pos rfl]
      unfold f50
      rw [if_neg (show ¬ nn 2 = (4 : Int32) by decide), if_pos (show nn 2 = (2 : Int32) by decide), nn_add1, b1, Option.bind_some, b0, Option.bind_some, q_eq (x := 112) (k := 112) rfl hg1 (by decide), q_eq (x := 102) (k := 102) rfl hg0 (by decide), q_eq (x := 103) (k := 103) rfl hg0 (by decide), q_eq (x := 115) (k := 115) rfl hg0 (by decide), q_eq (x := 116) (k := 116) rfl hg0 (by decide), ra, ew]
      unfold rgI
      show _ = some (match (if isD (B (s + 1)) = true then _ else _ : Option Nat) with | some r => nn r | none => -1)
      rw [if_neg hd]
      have es : sn 2 = [114, 97] := rfl
      rw [es]
      by_cases p1 : B (s + 1) = 112
      · rw [if_pos p1, if_pos p1]
        by_cases q1 : B s = 102
        · rw [if_pos q1, if_pos q1]; rfl
        rw [if_neg q1, if_neg q1]
        by_cases q2 : B s = 103
        · rw [if_pos q2, if_pos q2]; rfl
        rw [if_neg q2, if_neg q2]
        by_cases q3 : B s = 115
        · rw [if_pos q3, if_pos q3]; rfl
        rw [if_neg q3, if_neg q3]
        by_cases q4 : B s = 116
        · rw [if_pos q4, if_pos q4]; rfl
        rw [if_neg q4, if_neg q4]; rfl
      · rw [if_neg p1, if_neg p1]
        by_cases q1 : B s = 114 ∧ B (s + 1) = 97
        · rw [if_pos q1, if_pos (by rw [q1.1, q1.2])]; rfl
        · rw [if_neg q1, if_neg (fun hh => q1 (by simpa using hh))]; rfl
  have n2 : ¬ nn l = (2 : Int32) := nl 2 (by omega) l2
  have rr : ¬ l = 4 → f50 c (nn s) (nn l) = some (-1) := by
    intro h4
    unfold f50
    rw [if_neg (show ¬ nn l = (4 : Int32) from nl 4 (by omega) h4), if_neg n2, ra2 l2]
  by_cases l3 : l = 3
  · subst l3
    have hg1 := hB (s + 1)
    have hg2 := hB (s + 2)
    have hg0 := hB s
    have b0 := byt 0 (by omega)
    have b1 := byt 1 (by omega)
    have b2 := byt 2 (by omega)
    rw [Nat.add_zero] at b0
    have ew : nb B s 3 = [B s, B (s + 1), B (s + 2)] := rfl
    have e12 : s + 1 + 1 = s + 2 := by omega
    unfold f49
    rw [b1, Option.bind_some, if_neg (show ¬ nn (3 - 1) < (1 : Int32) by decide), if_neg (show ¬ (2 : Int32) < nn (3 - 1) by decide), q_b (cc_digit hg1), if_neg (show ¬ nn (3 - 1) = (1 : Int32) by decide), nn_add1, e12, b2, Option.bind_some, q_eq (x := 48) (k := 48) rfl hg1 (by decide), q_b (cc_digit hg2), ew]
    unfold rgI
    show _ = some (match (if isD (B (s + 1)) = true ∧ isD (B (s + 2)) = true ∧ ¬ B (s + 1) = 48 then _ else _ : Option Nat) with | some r => nn r | none => -1)
    by_cases hd : isD (B (s + 1)) = true ∧ isD (B (s + 2)) = true ∧ ¬ B (s + 1) = 48
    · have d1 := isD_rng.mp hd.1
      have d2 := isD_rng.mp hd.2.1
      have e48 : (48 : Int32) = nn 48 := rfl
      have e10 : ∀ v : Nat, v < 10 → nn v * 10 = nn (v * 10) := by decide +kernel
      rw [if_pos hd, if_pos hd.1, if_neg hd.2.2, if_pos hd.2.1, e48, nn_sub d1.1, nn_sub d2.1, e10 _ (by omega), nn_add, Option.bind_some, if_neg (nn_m1 (by omega)), b0, Option.bind_some, q_eq (x := 97) (k := 97) rfl hg0 (by decide), q_eq (x := 115) (k := 115) rfl hg0 (by decide), q_eq (x := 116) (k := 116) rfl hg0 (by decide), q_eq (x := 120) (k := 120) rfl hg0 (by decide)]
      generalize hv : (B (s + 1) - 48) * 10 + (B (s + 2) - 48) = v
      have hv9 : v ≤ 99 := by omega
      unfold rgL
      rw [q_gt (x := 7) (k := 7) rfl (by omega) (by decide), q_gt (x := 1) (k := 1) rfl (by omega) (by decide), q_gt (x := 11) (k := 11) rfl (by omega) (by decide), q_gt (x := 2) (k := 2) rfl (by omega) (by decide), q_gt (x := 6) (k := 6) rfl (by omega) (by decide), q_gt (x := 31) (k := 31) rfl (by omega) (by decide)]
      exact rgL_same (B s) v (by omega)
    · rw [if_neg hd]
      have e9 : (if isD (B (s + 1)) = true then (if B (s + 1) = 48 then some (-1 : Int32) else if isD (B (s + 2)) = true then some ((nn (B (s + 1)) - 48) * 10 + (nn (B (s + 2)) - 48)) else some (-1 : Int32)) else some (-1 : Int32)) = some (-1 : Int32) := by
        by_cases q1 : isD (B (s + 1)) = true
        · rw [if_pos q1]
          by_cases q2 : B (s + 1) = 48
          · rw [if_pos q2]
          · rw [if_neg q2, if_neg (fun q3 => hd ⟨q1, q3, q2⟩)]
        · rw [if_neg q1]
      rw [e9, Option.bind_some, if_pos rfl, rr (by omega)]
      rfl
  have h49 : f49 c (nn (s + 1)) (nn (l - 1)) = some (-1) := by
    unfold f49
    have c1 : ¬ nn (l - 1) < (1 : Int32) := fun hh => by
      have : nn (l - 1) < nn 1 := hh
      have := (nn_lt (by omega) (by omega)).mp this
      omega
    have c2 : (2 : Int32) < nn (l - 1) := by
      rw [e2]
      exact (nn_lt (by omega) (by omega)).mpr (by omega)
    rw [hx1, Option.bind_some, if_neg c1, if_pos c2]
  rw [h49, Option.bind_some, if_pos rfl]
  by_cases l4 : l = 4
  · subst l4
    have ew : nb B s 4 = [B s, B (s + 1), B (s + 2), B (s + 3)] := rfl
    unfold f50
    obtain ⟨x, q1, q2⟩ := c_ra (A := some (0 : Int32)) (C := some (-1 : Int32)) T Y hn (by omega) 1 (by decide)
    rw [if_pos (show nn 4 = (4 : Int32) by decide), q1, Option.bind_some, q2, ew]
    have es : sn 1 = [122, 101, 114, 111] := rfl
    rw [es]
    unfold rgI
    show _ = some (match (if B s = 122 ∧ B (s + 1) = 101 ∧ B (s + 2) = 114 ∧ B (s + 3) = 111 then _ else _ : Option Nat) with | some r => nn r | none => -1)
    by_cases q : B s = 122 ∧ B (s + 1) = 101 ∧ B (s + 2) = 114 ∧ B (s + 3) = 111
    · rw [if_pos q, if_pos (by rw [q.1, q.2.1, q.2.2.1, q.2.2.2])]; rfl
    · rw [if_neg q, if_neg (fun hh => q (by simpa using hh))]; rfl
  · rw [rr l4]
    obtain ⟨k, rfl⟩ : ∃ k, l = k + 5 := ⟨l - 5, by omega⟩
    rw [nb_succ, nb_succ, nb_succ, nb_succ, nb_succ]
    rfl
end RG
