/-! EXPRESSIONS: what both programs reckon. An environment: (bytes, symbols, line, data address, here, mode: 0 early 1 form 2 full). -/
abbrev Ev := (Nat → Nat) × List Sy × Nat × Int32 × Int32 × Nat
abbrev Rx (α : Type) := α ⊕ (Nat × Nat)
abbrev Xv := Int32 × Bool × List Tk
def xb {α β : Type} (x : Option (Rx α)) (g : α → Option (Rx β)) : Option (Rx β) := match x with
  | none => none
  | some (.inl q) => g q
  | some (.inr e) => some (.inr e)
def xExp (k : Nat) (ts : List Tk) : Option (Rx (List Tk)) := match ts with
  | [] => none
  | t :: r => if t.1 = k then (match t.2.2.2.2 with | some w => some (.inr (w, 1)) | none => some (.inl r)) else some (.inr (t.2.1, 1))
def tname (B : Nat → Nat) (t : Tk) : List Nat := nb B t.2.1 (t.2.2.2.1 - t.2.1)
def cBf (tb : List Sy) (ln : Nat) (o : Option Nat) : Bool := match o with
  | some k => decide ((tb.getD k sy0).2.2.1 = 2 ∧ (tb.getD k sy0).2.2.2.2 < ln)
  | none => false
def sVal (tb : List Sy) (base : Int32) (o : Option Nat) : Int32 := match o with
  | some k => if (tb.getD k sy0).2.2.1 = 1 then base + (tb.getD k sy0).2.2.2.1 else (tb.getD k sy0).2.2.2.1
  | none => 0
def xName (E : Ev) (e : Bool) (ts : List Tk) : Option (Rx Xv) := match ts with
  | [] => none
  | t :: _ => xb (xExp 1 ts) fun r => if cBf E.2.1 E.2.2.1 (sfind E.1 E.2.1 (tname E.1 t)) = false ∧ E.2.2.2.2.2 = 0 then some (.inr (t.2.1, 4)) else if sfind E.1 E.2.1 (tname E.1 t) = none ∧ E.2.2.2.2.2 = 2 then some (.inr (t.2.1, 8)) else some (.inl (sVal E.2.1 E.2.2.2.1 (sfind E.1 E.2.1 (tname E.1 t)), e && cBf E.2.1 E.2.2.1 (sfind E.1 E.2.1 (tname E.1 t)), r))
def xHere (E : Ev) (ts : List Tk) : Option (Rx Xv) := match ts with
  | [] => none
  | t :: _ => if E.2.2.2.2.2 = 0 then some (.inr (t.2.1, 4)) else xb (xExp 46 ts) fun r => some (.inl (E.2.2.2.2.1, false, r))
def xHiLo (B : Nat → Nat) (ts : List Tk) : Option (Rx (Bool × List Tk)) := xb (xExp 37 ts) fun r => match r with
  | [] => none
  | t :: _ => xb (xExp 1 r) fun r2 => if tname B t = [104, 105] then some (.inl (true, r2)) else if tname B t = [108, 111] then some (.inl (false, r2)) else some (.inr (t.2.1, 1))
def xBr (X : Nat → Nat → Bool → List Tk → Option (Rx Xv)) (d : Nat) (e : Bool) (ts : List Tk) : Option (Rx Xv) := match ts with
  | [] => none
  | t :: _ => if 16 ≤ d then some (.inr (t.2.1, 1)) else xb (xExp 40 ts) fun r => xb (X 1 (d + 1) e r) fun q => xb (xExp 41 q.2.2) fun r3 => some (.inl (q.1, q.2.1, r3))
def xAtom (E : Ev) (X : Nat → Nat → Bool → List Tk → Option (Rx Xv)) (d : Nat) (e : Bool) (ts : List Tk) : Option (Rx Xv) := match ts with
  | [] => none
  | t :: _ => if t.1 = 1 then xName E e ts else if t.1 = 37 then xb (xHiLo E.1 ts) fun h => xb (xBr X d e h.2) fun q => some (.inl (if h.1 = true then f77 q.1 else f78 q.1, q.2.1, q.2.2)) else if t.1 = 40 then xBr X d e ts else if t.1 = 46 then xHere E ts else xb (xExp 2 ts) fun r => some (.inl (t.2.2.1, e, r))
def xPfx : List Tk → Int32 → Int32 → Int32 × Int32 × List Tk
  | [], f, a => (f, a, [])
  | t :: r, f, a => if t.1 = 45 ∨ t.1 = 43 ∨ t.1 = 126 then xPfx r (if t.1 = 43 then f else -f) (if t.1 = 126 then a - f else a) else (f, a, t :: r)
def xOpd (E : Ev) (X : Nat → Nat → Bool → List Tk → Option (Rx Xv)) (d : Nat) (e : Bool) (ts : List Tk) : Option (Rx Xv) := xb (xAtom E X d e (xPfx ts 1 0).2.2) fun q => some (.inl ((xPfx ts 1 0).1 * q.1 + (xPfx ts 1 0).2.1, q.2.1, q.2.2))
def lev (k : Nat) : Nat := if k = 37 then 6 else if k = 38 then 3 else if k = 42 then 6 else if k = 43 then 5 else if k = 45 then 5 else if k = 47 then 6 else if k = 60 then 4 else if k = 62 then 4 else if k = 94 then 2 else if k = 124 then 1 else 0
def xJoin (mode k : Nat) (l r : Int32) (pl : Nat) (e : Bool) : Rx (Int32 × Bool) := if k = 38 then .inl (l &&& r, e) else if k = 42 then .inl (l * r, e) else if k = 43 then .inl (l + r, e) else if k = 45 then .inl (l - r, e) else if k = 60 then .inl (l <<< ((r &&& (31 : Int32)) &&& 31), e) else if k = 62 then .inl (l >>> ((r &&& (31 : Int32)) &&& 31), e) else if k = 94 then .inl (l ^^^ r, e) else if k = 124 then .inl (l ||| r, e)
  else if r = 0 then (if mode = 0 then .inr (pl, 5) else if mode = 2 then .inr (pl, 9) else .inl (0, false)) else if k = 47 then .inl (l / r, e) else .inl (l - l / r * r, e)
def xLp (X : Nat → Nat → Bool → List Tk → Option (Rx Xv)) (mode least d : Nat) : Nat → Int32 → Bool → List Tk → Option (Rx Xv)
  | 0, _, _, _ => none
  | u + 1, left, e, ts => match ts with
    | [] => none
    | t :: _ => if least ≤ lev t.1 then xb (xExp t.1 ts) fun r => xb (X (lev t.1 + 1) d e r) fun q => xb (some (xJoin mode t.1 left q.1 t.2.1 q.2.1)) fun w => xLp X mode least d u w.1 w.2 q.2.2 else some (.inl (left, e, ts))
def xE (E : Ev) : Nat → Nat → Nat → Bool → List Tk → Option (Rx Xv)
  | 0, _, _, _, _ => none
  | v + 1, least, d, e, ts => xb (xOpd E (xE E v) d e ts) fun q => xLp (xE E v) E.2.2.2.2.2 least d (ts.length + 1) q.1 q.2.1 q.2.2
/-- a line's tokens: only the last may be flawed, and if it isn't, it is the end -/
def WFT : List Tk → Prop
  | [] => False
  | [t] => (t.1 = 0 ∧ t.2.2.2.2 = none) ∨ (¬ t.1 = 0 ∧ ¬ t.2.2.2.2 = none)
  | t :: r => ¬ t.1 = 0 ∧ t.2.2.2.2 = none ∧ WFT r
/-- what every token of a line keeps -/
def TOK (B : Nat → Nat) (a z : Nat) (t : Tk) : Prop := t.1 < 256 ∧ a ≤ t.2.1 ∧ t.2.1 ≤ z ∧ (t.1 = 1 → t.2.2.1 = nn (t.2.2.2.1 - t.2.1) ∧ t.2.1 < t.2.2.2.1 ∧ NM B z t.2.1 (t.2.2.2.1 - t.2.1)) ∧ (4 < t.1 → ¬ t.1 = 60 → ¬ t.1 = 62 → t.2.2.2.2 = none) ∧ ∀ w, t.2.2.2.2 = some w → w < 70000
theorem lx_tok {B : Nat → Nat} {a z p : Nat} (hB : ∀ i, B i < 256) (ha : a ≤ p) (hpz : p < z) (hz : z ≤ 65536) : TOK B a z (lx B z p) := by
  have hg := gb_lt hB z p
  unfold lx
  by_cases h1 : isB (gb B z p) = true ∧ (¬ gb B z p = 46 ∨ isN (gb B z (p + 1)) = true)
  · rw [if_pos h1]
    have hN : isN (B p) = true := by unfold isN; rw [← gb_in (B := B) hpz, h1.1]; rfl
    have q1 := scan_go (P := fun i => isN (B i)) hpz hN
    have q2 := scan_ge (fun i => isN (B i)) z (p + 1)
    have q3 := scan_le (P := fun i => isN (B i)) (Nat.le_of_lt hpz)
    have q4 := scan_ge (fun i => isN (B i)) z p
    have hin : ∀ i, i < scan (fun i => isN (B i)) z p - p → isN (B (p + i)) = true := fun i hi => scan_in (P := fun i => isN (B i)) (p := p) (z := z) (by omega) (by omega)
    refine ⟨by show 1 < 256; omega, ha, by show p ≤ z; omega, fun _ => ⟨rfl, by show p < scan _ _ _; omega, by show p + (scan _ _ _ - p) ≤ z; omega, hin⟩, fun h => absurd h (by show ¬ 4 < 1; omega), ?_⟩
    intro w hw
    by_cases h32 : 32 < scan (fun i => isN (B i)) z p - p
    · simp only [if_pos h32, Option.some.injEq] at hw; omega
    · simp only [if_neg h32, reduceCtorEq] at hw
  rw [if_neg h1]
  by_cases h2 : isD (gb B z p) = true
  · rw [if_pos h2]
    by_cases h3 : gb B z p = 48 ∧ gb B z (p + 1) = 120
    · rw [if_pos h3]
      refine ⟨by show 2 < 256; omega, ha, by show p ≤ z; omega, fun h => absurd h (by show ¬ 2 = 1; omega), fun h => absurd h (by show ¬ 4 < 2; omega), ?_⟩
      intro w hw
      by_cases h32 : scan (fun i => isH (B i)) z (p + 2) = p + 2
      · simp only [if_pos h32, Option.some.injEq] at hw; omega
      · simp only [if_neg h32, reduceCtorEq] at hw
    · rw [if_neg h3]
      exact ⟨by show 2 < 256; omega, ha, by show p ≤ z; omega, fun h => absurd h (by show ¬ 2 = 1; omega), fun h => absurd h (by show ¬ 4 < 2; omega), fun w hw => by cases hw⟩
  rw [if_neg h2]
  by_cases h4 : gb B z p = 39
  · rw [if_pos h4]
    have hw9 := wid_le B z (p + 1)
    refine ⟨by show 2 < 256; omega, ha, by show p ≤ z; omega, fun h => absurd h (by show ¬ 2 = 1; omega), fun h => absurd h (by show ¬ 4 < 2; omega), ?_⟩
    intro w hw
    by_cases hm : mean B z 39 (p + 1) = 999
    · simp only [if_pos hm, Option.some.injEq] at hw; omega
    · simp only [if_neg hm] at hw
      by_cases hc : gb B z (p + 1 + wid B z (p + 1)) = 39
      · simp only [if_pos hc, reduceCtorEq] at hw
      · simp only [if_neg hc, Option.some.injEq] at hw; omega
  rw [if_neg h4]
  by_cases h5 : gb B z p = 34
  · rw [if_pos h5]
    have hE := strE_le B z (z - p) (p + 1) (by omega)
    have hw9 := wid_le B z (strE B z (z - p) (p + 1))
    refine ⟨by show 3 < 256; omega, ha, by show p ≤ z; omega, fun h => absurd h (by show ¬ 3 = 1; omega), fun h => absurd h (by show ¬ 4 < 3; omega), ?_⟩
    intro w hw
    by_cases hc : gb B z (strE B z (z - p) (p + 1)) = 34
    · simp only [if_pos hc, reduceCtorEq] at hw
    · simp only [if_neg hc, Option.some.injEq] at hw; omega
  rw [if_neg h5]
  by_cases h6 : gb B z p = 60 ∨ gb B z p = 62
  · rw [if_pos h6]
    refine ⟨hg, ha, by show p ≤ z; omega, fun h => absurd h (by show ¬ gb B z p = 1; omega), fun _ n1 n2 => ?_, ?_⟩
    · have n1 : ¬ gb B z p = 60 := n1
      have n2 : ¬ gb B z p = 62 := n2
      omega
    · intro w hw
      by_cases hc : gb B z (p + 1) = gb B z p
      · simp only [if_pos hc, reduceCtorEq] at hw
      · simp only [if_neg hc, Option.some.injEq] at hw; omega
  rw [if_neg h6]
  by_cases h7 : sgn (gb B z p) = true
  · rw [if_pos h7]
    refine ⟨hg, ha, by show p ≤ z; omega, fun h => ?_, fun _ _ _ => rfl, fun w hw => by cases hw⟩
    have h : gb B z p = 1 := h
    rw [h] at h7
    exact absurd h7 (by decide)
  · rw [if_neg h7]
    exact ⟨by show 4 < 256; omega, ha, by show p ≤ z; omega, fun h => absurd h (by show ¬ 4 = 1; omega), fun h => absurd h (by show ¬ 4 < 4; omega), fun w hw => by cases hw⟩
theorem tk_tok {B : Nat → Nat} {a z p : Nat} (hB : ∀ i, B i < 256) (ha : a ≤ p) (hpz : p ≤ z) (hz : z ≤ 65536) : TOK B a z (tk B z p) := by
  have hs := sk_le (B := B) hpz
  unfold tk
  by_cases he : sk B z p = z ∨ gb B z (sk B z p) = 35
  · rw [if_pos he]
    exact ⟨by show 0 < 256; omega, by show a ≤ sk B z p; omega, hs.2, fun h => absurd h (by show ¬ 0 = 1; omega), fun h => absurd h (by show ¬ 4 < 0; omega), fun w hw => by cases hw⟩
  · rw [if_neg he]
    exact lx_tok hB (by omega) (Nat.lt_of_le_of_ne hs.2 (fun hh => he (Or.inl hh))) hz
theorem tks_wf {B : Nat → Nat} {a z : Nat} (hB : ∀ i, B i < 256) (hz : z ≤ 65536) : ∀ (d p : Nat), z - p = d → a ≤ p → p ≤ z → WFT (tks B z p) ∧ ∀ t ∈ tks B z p, TOK B a z t := by
  intro d
  induction d using Nat.strongRecOn with
  | _ d ih =>
    intro p hd ha hp
    have ht := tk_tok hB ha hp hz
    rw [tks_un hp]
    by_cases h0 : (tk B z p).1 = 0
    · rw [if_pos h0]
      have hf : (tk B z p).2.2.2.2 = none := by
        unfold tk at h0 ⊢
        by_cases he : sk B z p = z ∨ gb B z (sk B z p) = 35
        · rw [if_pos he]
        · rw [if_neg he] at h0
          exact absurd h0 (lx_kind (Nat.lt_of_le_of_ne (sk_le (B := B) hp).2 (fun hh => he (Or.inl hh))))
      exact ⟨Or.inl ⟨h0, hf⟩, fun t hh => by rw [List.mem_singleton] at hh; rw [hh]; exact ht⟩
    · rw [if_neg h0]
      by_cases hf : (tk B z p).2.2.2.2 = none
      · rw [if_pos hf]
        have hn := tk_next hp h0 hf
        obtain ⟨r1, r2⟩ := ih (z - (tk B z p).2.2.2.1) (by omega) _ rfl (by omega) hn.2
        obtain ⟨x, r, hx⟩ := tks_ne B z _ hn.2
        rw [hx] at r1 r2 ⊢
        refine ⟨⟨h0, hf, r1⟩, fun t hh => ?_⟩
        rcases List.mem_cons.mp hh with rfl | hh
        · exact ht
        · exact r2 t hh
      · rw [if_neg hf]
        exact ⟨Or.inr ⟨h0, hf⟩, fun t hh => by rw [List.mem_singleton] at hh; rw [hh]; exact ht⟩
