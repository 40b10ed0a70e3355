/-! THE REFERENCE's symbols. -/
def skd (sec : Nat) : Nat := if sec = 2 then 1 else 2 + sec
def fstE (B : Nat → Nat) (tb : List Sy) (w : List Nat) : Nat → Nat → Option Nat
  | 0, _ => none
  | d + 1, k => if syn B tb k = w then some k else fstE B tb w d (k + 1)
theorem fstE_some {B : Nat → Nat} {tb : List Sy} {w : List Nat} : ∀ {d k j : Nat}, fstE B tb w d k = some j → k ≤ j ∧ j < k + d ∧ syn B tb j = w := by
  intro d
  induction d with
  | zero => intro k j h; cases h
  | succ d ih =>
    intro k j h
    rw [fstE] at h
    by_cases e : syn B tb k = w
    · rw [if_pos e] at h
      cases h
      exact ⟨by omega, by omega, e⟩
    · rw [if_neg e] at h
      obtain ⟨a, b, c⟩ := ih h
      exact ⟨by omega, by omega, c⟩
theorem fstE_none {B : Nat → Nat} {tb : List Sy} {w : List Nat} : ∀ {d k : Nat}, fstE B tb w d k = none → ∀ i, k ≤ i → i < k + d → ¬ syn B tb i = w := by
  intro d
  induction d with
  | zero => intro k h i h1 h2; omega
  | succ d ih =>
    intro k h i h1 h2
    rw [fstE] at h
    by_cases e : syn B tb k = w
    · rw [if_pos e] at h; cases h
    · rw [if_neg e] at h
      by_cases hi : i = k
      · rw [hi]; exact e
      · exact ih h i (by omega) (by omega)
theorem lastE_some {B : Nat → Nat} {tb : List Sy} {w : List Nat} : ∀ {n j : Nat}, lastE B tb w n = some j → j < n ∧ syn B tb j = w := by
  intro n
  induction n with
  | zero => intro j h; cases h
  | succ n ih =>
    intro j h
    rw [lastE] at h
    by_cases e : syn B tb n = w
    · rw [if_pos e] at h
      cases h
      exact ⟨by omega, e⟩
    · rw [if_neg e] at h
      obtain ⟨a, b⟩ := ih h
      exact ⟨by omega, b⟩
theorem lastE_none {B : Nat → Nat} {tb : List Sy} {w : List Nat} : ∀ {n : Nat}, lastE B tb w n = none → ∀ i, i < n → ¬ syn B tb i = w := by
  intro n
  induction n with
  | zero => intro h i hi; omega
  | succ n ih =>
    intro h i hi
    rw [lastE] at h
    by_cases e : syn B tb n = w
    · rw [if_pos e] at h; cases h
    · rw [if_neg e] at h
      by_cases hin : i = n
      · rw [hin]; exact e
      · exact ih h i (by omega)
/-- no name stands twice -/
def SDN (B : Nat → Nat) (tb : List Sy) : Prop := ∀ i j, i < tb.length → j < tb.length → syn B tb i = syn B tb j → i = j
theorem fst_last {B : Nat → Nat} {tb : List Sy} (hd : SDN B tb) (w : List Nat) : fstE B tb w tb.length 0 = sfind B tb w := by
  unfold sfind
  cases h1 : fstE B tb w tb.length 0 with
  | none =>
    have h2 := fstE_none h1
    cases h3 : lastE B tb w tb.length with
    | none => rfl
    | some j =>
      obtain ⟨a, b⟩ := lastE_some h3
      exact absurd b (h2 j (by omega) (by omega))
  | some i =>
    obtain ⟨_, a2, a3⟩ := fstE_some h1
    cases h3 : lastE B tb w tb.length with
    | none => exact absurd a3 (lastE_none h3 i (by omega))
    | some j =>
      obtain ⟨b1, b2⟩ := lastE_some h3
      rw [hd i j (by omega) b1 (by rw [a3, b2])]
/-- the reference's tape -/
def MXT (m : mS) (B : Nat → Nat) (tl : Nat) : Prop := tl ≤ 65536 ∧ (∀ i, i < tl → b8 (m.2 4 i) = B i) ∧ (∀ i, (m.2 4 i).toInt8.toInt32 = m.2 4 i) ∧ ∀ i, B i < 256
def SYMm (m : mS) (B : Nat → Nat) (tl : Nat) (tb : List Sy) : Prop :=
  m.1 26 = nn tb.length ∧ tb.length ≤ 17500 ∧ ∀ i, i < tb.length → SEN B tl (tb.getD i sy0) ∧ m.2 27 i = nn (tb.getD i sy0).1 ∧ m.2 28 i = nn (tb.getD i sy0).2.1 ∧ m.2 29 i = nn (skd (tb.getD i sy0).2.2.1) ∧ m.2 30 i = (tb.getD i sy0).2.2.2.1 ∧ m.2 31 i = nn (tb.getD i sy0).2.2.2.2
section MS
variable {m : mS} {B : Nat → Nat} {tl s l : Nat} {tb : List Sy}
theorem mx_raw (X : MXT m B tl) {i : Nat} (hi : i < tl) (hN : isN (B i) = true) : m.2 4 i = nn (B i) := by
  have e := X.2.1 i hi
  have hb := isN_lt hN
  have := byte_nn (X.2.2.1 i) (by rw [e]; omega)
  rw [e] at this
  exact this
theorem m_sameF (X : MXT m B tl) (q5 : mS → Int32 → Int32 → Int32 → Int32 → Option Int32) {s2 k : Nat} (hn : NM B tl s l) (hn2 : NM B tl s2 l) (hk : k < 17500) (hs : m.2 27 k = nn s2) : ∀ (d i u : Nat), l - i = d → d + 1 < u → i ≤ l → f133_39 q5 u m (nn s) (nn l) (nn k) 1 (nn i) = f133_90 q5 m (nn s) (nn l) (nn k) (if nb B (s2 + i) (l - i) = nb B (s + i) (l - i) then 1 else 0) := by
  have hz := X.1
  have hn1 := hn.1
  have hn21 := hn2.1
  intro d
  induction d with
  | zero =>
    intro i u hd hu hi
    have eu : u = (u - 1) + 1 := by omega
    rw [eu, f133_39, if_pos ((nn_le (by omega) (by omega)).mpr (by omega)), hd]
    rfl
  | succ d ih =>
    intro i u hd hu hi
    have eu : u = (u - 1) + 1 := by omega
    have h1 := mx_raw X (show s + i < tl by omega) (hn.2 i (by omega))
    have h2 := mx_raw X (show s2 + i < tl by omega) (hn2.2 i (by omega))
    have b1 := isN_lt (hn.2 i (by omega))
    have b2 := isN_lt (hn2.2 i (by omega))
    have el : l - i = (l - (i + 1)) + 1 := by omega
    have f1 : s + (i + 1) = s + i + 1 := by omega
    have f2 : s2 + (i + 1) = s2 + i + 1 := by omega
    have g1 : m.2 4 (nn s + nn i).toNatClampNeg = nn (B (s + i)) := by rw [nn_add, nn_tn (by omega), h1]
    have g2 : m.2 4 (nn s2 + nn i).toNatClampNeg = nn (B (s2 + i)) := by rw [nn_add, nn_tn (by omega), h2]
    have i1 : ib (nn s + nn i) 65536 := by rw [nn_add]; exact (nn_ib (by omega)).mpr (by omega)
    have i2 : ib (nn s2 + nn i) 65536 := by rw [nn_add]; exact (nn_ib (by omega)).mpr (by omega)
    have hk2 : m.2 27 (nn k).toNatClampNeg = nn s2 := by rw [nn_tn (by omega), hs]
    rw [eu, f133_39, if_neg (fun hh => by have := (nn_le (by omega) (by omega)).mp hh; omega), if_neg (by decide), if_pos ((nn_ib (by omega)).mpr hk)]
    simp only [hk2, if_pos i1, if_pos i2, g1, g2]
    rw [el, nb_succ, nb_succ]
    unfold f133_82
    rw [nn_add1]
    by_cases hq : B (s2 + i) = B (s + i)
    · rw [if_pos (by rw [hq]), ih (i + 1) (u - 1) (by omega) (by omega) (by omega), f1, f2, hq]
      by_cases hr : nb B (s2 + i + 1) (l - (i + 1)) = nb B (s + i + 1) (l - (i + 1))
      · rw [if_pos hr, if_pos (by rw [hr])]
      · rw [if_neg hr, if_neg (fun hh => hr (List.cons.inj hh).2)]
    · have eu2 : u - 1 = (u - 2) + 1 := by omega
      rw [if_neg (fun hh => hq ((nn_eq (by omega) (by omega)).mp hh)), if_neg (fun hh => hq (List.cons.inj hh).1), eu2, f133_39]
      by_cases q : l ≤ i + 1
      · rw [if_pos ((nn_le (by omega) (by omega)).mpr q)]
      · rw [if_neg (fun hh => q ((nn_le (by omega) (by omega)).mp hh)), if_pos rfl]
theorem m_findF (X : MXT m B tl) (S : SYMm m B tl tb) (hn : NM B tl s l) : ∀ (d k u : Nat), tb.length - k = d → k ≤ tb.length → d + 1 < u → f133_5 u m (nn s) (nn l) (-1) (nn k) = some (jI (fstE B tb (nb B s l) d k)) := by
  obtain ⟨y1, y2, y3⟩ := S
  have hz := X.1
  have hn1 := hn.1
  have hU : (200000 : Nat) = mm_U := rfl
  intro d
  induction d with
  | zero =>
    intro k u hd hk hu
    have eu : u = (u - 1) + 1 := by omega
    rw [eu, f133_5, y1, if_pos ((nn_le (by omega) (by omega)).mpr (by omega))]
    rfl
  | succ d ih =>
    intro k u hd hk hu
    have eu : u = (u - 1) + 1 := by omega
    have hkn : k < tb.length := by omega
    obtain ⟨⟨e0, e1, e2, e3, e4⟩, z1, z2, z3, z4, z5⟩ := y3 k hkn
    have g : m.2 28 (nn k).toNatClampNeg = nn (tb.getD k sy0).2.1 := by rw [nn_tn (by omega), z2]
    have next : f133_101 (f133_5 (u - 1)) m (nn s) (nn l) (nn k) (-1) = some (jI (fstE B tb (nb B s l) d (k + 1))) := by
      unfold f133_101
      rw [nn_add1]
      exact ih (k + 1) (u - 1) (by omega) (by omega) (by omega)
    have found : f133_101 (f133_5 (u - 1)) m (nn s) (nn l) (nn k) (nn k) = some (nn k) := by
      unfold f133_101
      have eu2 : u - 1 = (u - 2) + 1 := by omega
      rw [nn_add1, eu2, f133_5, y1]
      by_cases q : tb.length ≤ k + 1
      · rw [if_pos ((nn_le (by omega) (by omega)).mpr q)]
      · rw [if_neg (fun hh => q ((nn_le (by omega) (by omega)).mp hh)), if_pos (nn_pos (by omega))]
    rw [eu, f133_5, y1, if_neg (fun hh => by have := (nn_le (by omega) (by omega)).mp hh; omega), if_neg (by decide), if_pos ((nn_ib (by omega)).mpr (by omega))]
    simp only [g]
    unfold f133_34
    rw [fstE]
    by_cases hl : (tb.getD k sy0).2.1 = l
    · have hn2 : NM B tl (tb.getD k sy0).1 l := ⟨by rw [← hl]; exact e1, by rw [← hl]; exact e2⟩
      have es : syn B tb k = nb B (tb.getD k sy0).1 l := by unfold syn; rw [hl]
      have key := m_sameF X (f133_5 (u - 1)) hn hn2 (show k < 17500 by omega) z1 l 0 mm_U (by omega) (by rw [← hU]; omega) (by omega)
      rw [Nat.add_zero, Nat.add_zero, Nat.sub_zero] at key
      have e00 : (0 : Int32) = nn 0 := rfl
      rw [if_pos (by rw [hl])]
      show f133_39 (f133_5 (u - 1)) mm_U m (nn s) (nn l) (nn k) 1 (nn 0) = _
      rw [key, es]
      unfold f133_90
      by_cases hq : nb B (tb.getD k sy0).1 l = nb B s l
      · rw [if_pos hq, if_neg (by decide), if_pos hq, found]; rfl
      · rw [if_neg hq, if_pos rfl, if_neg hq, next]
    · have hne : ¬ syn B tb k = nb B s l := by
        intro hh
        have := congrArg List.length hh
        unfold syn at this
        rw [nb_len, nb_len] at this
        exact hl this
      rw [if_neg (fun hh => hl ((nn_eq (by omega) (by omega)).mp hh)), if_neg hne, show mm_U = 199999 + 1 from rfl, f133_39]
      have e9 : f133_90 (f133_5 (u - 1)) m (nn s) (nn l) (nn k) 0 = some (jI (fstE B tb (nb B s l) d (k + 1))) := by
        unfold f133_90
        rw [if_pos rfl, next]
      by_cases q : nn l ≤ 0
      · rw [if_pos q, e9]
      · rw [if_neg q, if_pos rfl, e9]
theorem m_find (X : MXT m B tl) (S : SYMm m B tl tb) (hd : SDN B tb) (hn : NM B tl s l) : f133 m (nn s) (nn l) = some (jI (sfind B tb (nb B s l))) := by
  have y2 := S.2.1
  unfold f133
  rw [← fst_last hd]
  exact m_findF X S hn tb.length 0 mm_U (by omega) (by omega) (by show tb.length + 1 < 200000; omega)
end MS
