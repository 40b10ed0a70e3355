/-! THE TOKENS of a line, as both programs read them: B the text's bytes, z the line's end. A token: (kind, start, value, where the next may begin, its flaw). -/
def gb (B : Nat → Nat) (z p : Nat) : Nat := if p < z then B p else 0
def isD (b : Nat) : Bool := decide (48 ≤ b ∧ b ≤ 57)
def isB (b : Nat) : Bool := decide ((97 ≤ b ∧ b ≤ 122) ∨ (65 ≤ b ∧ b ≤ 90) ∨ b = 95 ∨ b = 46)
def isN (b : Nat) : Bool := isB b || isD b
def blk (b : Nat) : Bool := decide (b = 32 ∨ b = 9 ∨ b = 13)
def hxd (b : Nat) : Nat := if 48 ≤ b ∧ b ≤ 57 then b - 48 else if 97 ≤ b ∧ b ≤ 102 then b - 87 else if 65 ≤ b ∧ b ≤ 70 then b - 55 else 16
def isH (b : Nat) : Bool := decide (hxd b < 16)
def sgn (b : Nat) : Bool := decide (b = 44 ∨ b = 58 ∨ b = 40 ∨ b = 41 ∨ b = 43 ∨ b = 45 ∨ b = 42 ∨ b = 47 ∨ b = 37 ∨ b = 38 ∨ b = 124 ∨ b = 94 ∨ b = 126 ∨ b = 46)
def esc (b : Nat) : Nat := if b = 110 then 10 else if b = 116 then 9 else if b = 48 then 0 else if b = 92 then 92 else if b = 39 then 39 else if b = 34 then 34 else 999
def mean (B : Nat → Nat) (z q p : Nat) : Nat := if gb B z p = 92 then esc (gb B z (p + 1)) else if 32 ≤ gb B z p ∧ gb B z p ≤ 126 ∧ ¬ gb B z p = q then gb B z p else 999
def wid (B : Nat → Nat) (z p : Nat) : Nat := if gb B z p = 92 then 2 else 1
def strE (B : Nat → Nat) (z : Nat) : Nat → Nat → Nat
  | 0, p => p
  | u + 1, p => if mean B z 34 p = 999 then p else strE B z u (p + wid B z p)
def strL (B : Nat → Nat) (z : Nat) : Nat → Nat → List Nat
  | 0, _ => []
  | u + 1, p => if mean B z 34 p = 999 then [] else mean B z 34 p :: strL B z u (p + wid B z p)
def decV (B : Nat → Nat) : Nat → Nat → Int32 → Int32
  | 0, _, v => v
  | u + 1, p, v => decV B u (p + 1) (v * 10 + nn (hxd (B p)))
def hexV (B : Nat → Nat) : Nat → Nat → Int32 → Int32
  | 0, _, v => v
  | u + 1, p, v => hexV B u (p + 1) (v * 16 + nn (hxd (B p)))
abbrev Tk := Nat × Nat × Int32 × Nat × Option Nat
def sk (B : Nat → Nat) (z p : Nat) : Nat := scan (fun i => blk (B i)) z p
def lx (B : Nat → Nat) (z p : Nat) : Tk :=
  if isB (gb B z p) = true ∧ (¬ gb B z p = 46 ∨ isN (gb B z (p + 1)) = true) then
    (1, p, nn (scan (fun i => isN (B i)) z p - p), scan (fun i => isN (B i)) z p, if 32 < scan (fun i => isN (B i)) z p - p then some (p + 32) else none)
  else if isD (gb B z p) = true then
    if gb B z p = 48 ∧ gb B z (p + 1) = 120 then
      (2, p, hexV B (scan (fun i => isH (B i)) z (p + 2) - (p + 2)) (p + 2) 0, scan (fun i => isH (B i)) z (p + 2), if scan (fun i => isH (B i)) z (p + 2) = p + 2 then some (p + 2) else none)
    else (2, p, decV B (scan (fun i => isD (B i)) z p - p) p 0, scan (fun i => isD (B i)) z p, none)
  else if gb B z p = 39 then
    (2, p, if mean B z 39 (p + 1) = 999 then -1 else nn (mean B z 39 (p + 1)), p + 1 + wid B z (p + 1) + 1, if mean B z 39 (p + 1) = 999 then some (p + wid B z (p + 1)) else if gb B z (p + 1 + wid B z (p + 1)) = 39 then none else some (p + 1 + wid B z (p + 1)))
  else if gb B z p = 34 then
    (3, p, nn (strL B z (z - p) (p + 1)).length, if gb B z (strE B z (z - p) (p + 1)) = 34 then strE B z (z - p) (p + 1) + 1 else strE B z (z - p) (p + 1) + wid B z (strE B z (z - p) (p + 1)) + 1, if gb B z (strE B z (z - p) (p + 1)) = 34 then none else some (strE B z (z - p) (p + 1) + wid B z (strE B z (z - p) (p + 1)) - 1))
  else if gb B z p = 60 ∨ gb B z p = 62 then (gb B z p, p, 0, p + 2, if gb B z (p + 1) = gb B z p then none else some (p + 1))
  else if sgn (gb B z p) = true then (gb B z p, p, 0, p + 1, none)
  else (4, p, 0, p + 1, none)
def tk (B : Nat → Nat) (z p : Nat) : Tk := if sk B z p = z ∨ gb B z (sk B z p) = 35 then (0, sk B z p, 0, sk B z p, none) else lx B z (sk B z p)
theorem gb_lt {B : Nat → Nat} (hB : ∀ i, B i < 256) (z p : Nat) : gb B z p < 256 := by
  unfold gb
  by_cases h : p < z
  · rw [if_pos h]; exact hB p
  · rw [if_neg h]; omega
theorem gb_in {B : Nat → Nat} {z p : Nat} (h : p < z) : gb B z p = B p := by unfold gb; rw [if_pos h]
theorem gb_out {B : Nat → Nat} {z p : Nat} (h : z ≤ p) : gb B z p = 0 := by unfold gb; rw [if_neg (by omega)]
theorem hxd_le (b : Nat) : hxd b ≤ 16 := by
  unfold hxd
  by_cases h1 : 48 ≤ b ∧ b ≤ 57
  · rw [if_pos h1]; omega
  · rw [if_neg h1]
    by_cases h2 : 97 ≤ b ∧ b ≤ 102
    · rw [if_pos h2]; omega
    · rw [if_neg h2]
      by_cases h3 : 65 ≤ b ∧ b ≤ 70
      · rw [if_pos h3]; omega
      · rw [if_neg h3]; omega
theorem mean_out {B : Nat → Nat} {z q p : Nat} (h : z ≤ p) : mean B z q p = 999 := by
  unfold mean
  rw [gb_out h]
  rfl
theorem esc_or (b : Nat) : esc b = 999 ∨ esc b < 128 := by
  unfold esc
  by_cases h1 : b = 110
  · rw [if_pos h1]; omega
  rw [if_neg h1]
  by_cases h2 : b = 116
  · rw [if_pos h2]; omega
  rw [if_neg h2]
  by_cases h3 : b = 48
  · rw [if_pos h3]; omega
  rw [if_neg h3]
  by_cases h4 : b = 92
  · rw [if_pos h4]; omega
  rw [if_neg h4]
  by_cases h5 : b = 39
  · rw [if_pos h5]; omega
  rw [if_neg h5]
  by_cases h6 : b = 34
  · rw [if_pos h6]; omega
  rw [if_neg h6]; omega
theorem mean_or (B : Nat → Nat) (z q p : Nat) : mean B z q p = 999 ∨ mean B z q p < 128 := by
  unfold mean
  by_cases h : gb B z p = 92
  · rw [if_pos h]; exact esc_or _
  · rw [if_neg h]
    by_cases h2 : 32 ≤ gb B z p ∧ gb B z p ≤ 126 ∧ ¬ gb B z p = q
    · rw [if_pos h2]; omega
    · rw [if_neg h2]; omega
/-! Characters, as the two programs ask about them. -/
theorem c_le {b k : Nat} (hb : b < 256) (hk : k < 256) : (nn b ≤ nn k) = (b ≤ k) := propext (nn_le (by omega) (by omega))
theorem c_lt {b k : Nat} (hb : b < 256) (hk : k < 256) : (nn b < nn k) = (b < k) := propext (nn_lt (by omega) (by omega))
theorem c_eq {b k : Nat} (hb : b < 256) (hk : k < 256) : (nn b = nn k) = (b = k) := propext (nn_eq (by omega) (by omega))
theorem ch_begins {b : Nat} (hb : b < 256) : f120 (nn b) = if isB b = true then 1 else 0 := by
  have key : ∀ b : Nat, b < 256 → f120 (nn b) = if isB b = true then 1 else 0 := by decide +kernel
  exact key b hb
theorem ch_digit {b : Nat} (hb : b < 256) : f122 (nn b) = if isD b = true then 1 else 0 := by
  have key : ∀ b : Nat, b < 256 → f122 (nn b) = if isD b = true then 1 else 0 := by decide +kernel
  exact key b hb
theorem ch_name {b : Nat} (hb : b < 256) : f121 (nn b) = if isN b = true then 1 else 0 := by
  have key : ∀ b : Nat, b < 256 → f121 (nn b) = if isN b = true then 1 else 0 := by decide +kernel
  exact key b hb
theorem ch_hex {b : Nat} (hb : b < 256) : f125 (nn b) = if isH b = true then nn (hxd b) else -1 := by
  have key : ∀ b : Nat, b < 256 → f125 (nn b) = if isH b = true then nn (hxd b) else -1 := by decide +kernel
  exact key b hb
theorem cc_digit {b : Nat} (hb : b < 256) : f28 (nn b) = if isD b = true then 1 else 0 := by
  have key : ∀ b : Nat, b < 256 → f28 (nn b) = if isD b = true then 1 else 0 := by decide +kernel
  exact key b hb
theorem cc_name {b : Nat} (hb : b < 256) : f27 (nn b) = if isN b = true then 1 else 0 := by
  have key : ∀ b : Nat, b < 256 → f27 (nn b) = if isN b = true then 1 else 0 := by decide +kernel
  exact key b hb
theorem cc_hex {b : Nat} (hb : b < 256) : f33 (nn b) = if isH b = true then nn (hxd b) else -1 := by
  have key : ∀ b : Nat, b < 256 → f33 (nn b) = if isH b = true then nn (hxd b) else -1 := by decide +kernel
  exact key b hb
theorem cc_sign {b : Nat} (hb : b < 256) : f40 (nn b) = if sgn b = true then 1 else 0 := by
  have key : ∀ b : Nat, b < 256 → f40 (nn b) = if sgn b = true then 1 else 0 := by decide +kernel
  exact key b hb
theorem cc_esc {b : Nat} (hb : b < 256) : f37 (nn b) = if esc b = 999 then -1 else nn (esc b) := by
  have key : ∀ b : Nat, b < 256 → f37 (nn b) = if esc b = 999 then -1 else nn (esc b) := by decide +kernel
  exact key b hb
/-! THE REFERENCE's token fields: mx m with p, token, start, value, flaw, many, string. -/
def mx (m : mS) (p tk st vl fl mn : Int32) (str : Nat → Int32) : mS := (fun k => if k = 18 then p else if k = 20 then tk else if k = 21 then st else if k = 22 then vl else if k = 23 then fl else if k = 24 then mn else m.1 k, fun k => if k = 25 then str else m.2 k)
section MX
variable {m : mS} {p tk st vl fl mn x : Int32} {str : Nat → Int32}
theorem mx_18 : mg (mx m p tk st vl fl mn str) 18 x = mx m x tk st vl fl mn str := by
  refine Prod.ext (funext fun k => ?_) rfl
  show upd _ 18 x k = _
  unfold upd mx
  by_cases h : k = 18 <;> simp [h]
theorem mx_20 : mg (mx m p tk st vl fl mn str) 20 x = mx m p x st vl fl mn str := by
  refine Prod.ext (funext fun k => ?_) rfl
  show upd _ 20 x k = _
  unfold upd mx
  by_cases h : k = 20 <;> simp [h]
theorem mx_21 : mg (mx m p tk st vl fl mn str) 21 x = mx m p tk x vl fl mn str := by
  refine Prod.ext (funext fun k => ?_) rfl
  show upd _ 21 x k = _
  unfold upd mx
  by_cases h : k = 21 <;> simp [h]
theorem mx_22 : mg (mx m p tk st vl fl mn str) 22 x = mx m p tk st x fl mn str := by
  refine Prod.ext (funext fun k => ?_) rfl
  show upd _ 22 x k = _
  unfold upd mx
  by_cases h : k = 22 <;> simp [h]
theorem mx_23 : mg (mx m p tk st vl fl mn str) 23 x = mx m p tk st vl x mn str := by
  refine Prod.ext (funext fun k => ?_) rfl
  show upd _ 23 x k = _
  unfold upd mx
  by_cases h : k = 23 <;> simp [h]
theorem mx_24 : mg (mx m p tk st vl fl mn str) 24 x = mx m p tk st vl fl x str := by
  refine Prod.ext (funext fun k => ?_) rfl
  show upd _ 24 x k = _
  unfold upd mx
  by_cases h : k = 24 <;> simp [h]
theorem mx_25 {j : Int32} : mb (mx m p tk st vl fl mn str) 25 j x = mx m p tk st vl fl mn (upd str j.toNatClampNeg x) := by
  refine Prod.ext rfl (funext fun k => ?_)
  show mm_bu _ 25 _ k = _
  unfold mm_bu mx
  by_cases h : k = 25 <;> simp [h]
theorem mx_id : mx m (m.1 18) (m.1 20) (m.1 21) (m.1 22) (m.1 23) (m.1 24) (m.2 25) = m := by
  refine Prod.ext (funext fun k => ?_) (funext fun k => ?_)
  · unfold mx
    by_cases h1 : k = 18
    · simp [h1]
    by_cases h2 : k = 20
    · simp [h2]
    by_cases h3 : k = 21
    · simp [h3]
    by_cases h4 : k = 22
    · simp [h4]
    by_cases h5 : k = 23
    · simp [h5]
    by_cases h6 : k = 24
    · simp [h6]
    simp [h1, h2, h3, h4, h5, h6]
  · unfold mx
    by_cases h1 : k = 25 <;> simp [h1]
theorem mx_p : (mx m p tk st vl fl mn str).1 18 = p := rfl
theorem mx_tk : (mx m p tk st vl fl mn str).1 20 = tk := rfl
theorem mx_st : (mx m p tk st vl fl mn str).1 21 = st := rfl
theorem mx_vl : (mx m p tk st vl fl mn str).1 22 = vl := rfl
theorem mx_fl : (mx m p tk st vl fl mn str).1 23 = fl := rfl
theorem mx_mn : (mx m p tk st vl fl mn str).1 24 = mn := rfl
theorem mx_to : (mx m p tk st vl fl mn str).1 17 = m.1 17 := rfl
theorem mx_kd : (mx m p tk st vl fl mn str).1 11 = m.1 11 := rfl
end MX
/-- the text that the reference reads -/
def TX (m : mS) (B : Nat → Nat) (z : Nat) : Prop := m.1 17 = nn z ∧ z ≤ 65536 ∧ (∀ i, B i < 256) ∧ ∀ i, i < z → b8 (m.2 4 i) = B i
theorem m_here {m : mS} {B : Nat → Nat} {z p : Nat} (T : TX m B z) (k : Nat) (hp : m.1 18 = nn p) (hpk : p + k < 1000000) : f119 m (nn k) = some (nn (gb B z (p + k))) := by
  obtain ⟨h1, h2, h3, h4⟩ := T
  unfold f119
  rw [h1, hp, nn_add]
  by_cases h : z ≤ p + k
  · rw [if_pos ((nn_le (by omega) (by omega)).mpr h), gb_out h]; rfl
  · rw [if_neg (fun hh => h ((nn_le (by omega) (by omega)).mp hh)), if_pos ((nn_ib (by omega)).mpr (by omega)), nn_tn (by omega), and255, h4 _ (by omega), gb_in (by omega)]
theorem q_eq {α : Type} {g k : Nat} {x : Int32} {A C : α} (hx : nn k = x) (hg : g < 256) (hk : k < 256) : (if nn g = x then A else C) = if g = k then A else C := by
  subst hx
  by_cases h : g = k
  · rw [if_pos h, if_pos (by rw [h])]
  · rw [if_neg h, if_neg (fun hh => h ((nn_eq (by omega) (by omega)).mp hh))]
theorem q_lt {α : Type} {g k : Nat} {x : Int32} {A C : α} (hx : nn k = x) (hg : g < 256) (hk : k < 256) : (if nn g < x then A else C) = if g < k then A else C := by
  subst hx
  by_cases h : g < k
  · rw [if_pos h, if_pos ((nn_lt (by omega) (by omega)).mpr h)]
  · rw [if_neg h, if_neg (fun hh => h ((nn_lt (by omega) (by omega)).mp hh))]
theorem q_gt {α : Type} {g k : Nat} {x : Int32} {A C : α} (hx : nn k = x) (hg : g < 256) (hk : k < 256) : (if x < nn g then A else C) = if k < g then A else C := by
  subst hx
  by_cases h : k < g
  · rw [if_pos h, if_pos ((nn_lt (by omega) (by omega)).mpr h)]
  · rw [if_neg h, if_neg (fun hh => h ((nn_lt (by omega) (by omega)).mp hh))]
/-- a question that a function of the character answers with 0 or 1 -/
theorem q_b {α : Type} {x : Int32} {b : Bool} {A C : α} (h : x = if b = true then 1 else 0) : (if x = 0 then A else C) = if b = true then C else A := by
  rw [h]
  cases b <;> rfl
