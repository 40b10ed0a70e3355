/-! SYMBOLS: a list of (start, length, where: 0 text 1 data 2 constant, value, line). -/
abbrev Sy := Nat × Nat × Nat × Int32 × Nat
def sy0 : Sy := (0, 0, 0, 0, 0)
def jI (o : Option Nat) : Int32 := match o with
  | some j => nn j
  | none => -1
def lastJ (hf : Nat → Nat) (h : Nat) : Nat → Option Nat
  | 0 => none
  | n + 1 => if hf n = h then some n else lastJ hf h n
/-- the hash of a name -/
def hw (w : List Nat) : Int32 := w.foldl (fun h b => h * 31 + nn b) 0
def hb (w : List Nat) : Nat := b8 (hw w ^^^ ((hw w).toUInt32 >>> ((8 : Int32).toUInt32 &&& Int32.toUInt32 31)).toInt32)
def syn (B : Nat → Nat) (tb : List Sy) (i : Nat) : List Nat := nb B (tb.getD i sy0).1 (tb.getD i sy0).2.1
def hfn (B : Nat → Nat) (tb : List Sy) (i : Nat) : Nat := hb (syn B tb i)
/-- the last symbol of that name among the first n -/
def lastE (B : Nat → Nat) (tb : List Sy) (w : List Nat) : Nat → Option Nat
  | 0 => none
  | n + 1 => if syn B tb n = w then some n else lastE B tb w n
def sfind (B : Nat → Nat) (tb : List Sy) (w : List Nat) : Option Nat := lastE B tb w tb.length
/-- the names' text -/
def SXT (c : cS) (B : Nat → Nat) (tl : Nat) : Prop := cA c 0 (c.2.1 2 1) ∧ tl ≤ cl c (c.2.1 2 1) ∧ cl c (c.2.1 2 1) ≤ 65536 ∧ (∀ i, i < tl → b8 ((c.2.2.1 (c.2.1 2 1)).2.2 i) = B i) ∧ ∀ i, ((c.2.2.1 (c.2.1 2 1)).2.2 i).toInt8.toInt32 = (c.2.2.1 (c.2.1 2 1)).2.2 i
def SEN (B : Nat → Nat) (tl : Nat) (e : Sy) : Prop := 0 < e.2.1 ∧ e.1 + e.2.1 ≤ tl ∧ (∀ j, j < e.2.1 → isN (B (e.1 + j)) = true) ∧ e.2.2.1 ≤ 2 ∧ e.2.2.2.2 < 100000
def SYM (c : cS) (B : Nat → Nat) (tl : Nat) (tb : List Sy) (Ls : Nat) : Prop :=
  c.1 2 0 = nn tb.length ∧ tb.length ≤ Ls ∧ Ls ≤ 100000 ∧ cA c 1 (c.2.1 2 2) ∧ cl c (c.2.1 2 2) = 256 ∧ (∀ k, 3 ≤ k → k ≤ 8 → cA c 1 (c.2.1 2 k) ∧ cl c (c.2.1 2 k) = Ls) ∧
  (∀ i, i < tb.length → SEN B tl (tb.getD i sy0) ∧ (c.2.2.1 (c.2.1 2 4)).2.2 i = nn (tb.getD i sy0).1 ∧ (c.2.2.1 (c.2.1 2 5)).2.2 i = nn (tb.getD i sy0).2.1 ∧ (c.2.2.1 (c.2.1 2 6)).2.2 i = nn (tb.getD i sy0).2.2.1 ∧ (c.2.2.1 (c.2.1 2 7)).2.2 i = (tb.getD i sy0).2.2.2.1 ∧ (c.2.2.1 (c.2.1 2 8)).2.2 i = nn (tb.getD i sy0).2.2.2.2) ∧
  (∀ h, h < 256 → (c.2.2.1 (c.2.1 2 2)).2.2 h = jI (lastJ (hfn B tb) h tb.length)) ∧
  (∀ i, i < tb.length → (c.2.2.1 (c.2.1 2 3)).2.2 i = jI (lastJ (hfn B tb) (hfn B tb i) i))
theorem lastJ_lt {hf : Nat → Nat} {h : Nat} : ∀ {n j : Nat}, lastJ hf h n = some j → j < n ∧ hf j = h ∧ ∀ i, j < i → i < n → ¬ hf i = h := by
  intro n
  induction n with
  | zero => intro j e; cases e
  | succ n ih =>
    intro j e
    rw [lastJ] at e
    by_cases hn : hf n = h
    · rw [if_pos hn] at e
      cases e
      exact ⟨by omega, hn, fun i h1 h2 => by omega⟩
    · rw [if_neg hn] at e
      obtain ⟨a1, a2, a3⟩ := ih e
      refine ⟨by omega, a2, fun i h1 h2 => ?_⟩
      by_cases hi : i = n
      · rw [hi]; exact hn
      · exact a3 i h1 (by omega)
theorem lastJ_none {hf : Nat → Nat} {h : Nat} : ∀ {n : Nat}, lastJ hf h n = none → ∀ i, i < n → ¬ hf i = h := by
  intro n
  induction n with
  | zero => intro e i hi; omega
  | succ n ih =>
    intro e i hi
    rw [lastJ] at e
    by_cases hn : hf n = h
    · rw [if_pos hn] at e; cases e
    · rw [if_neg hn] at e
      by_cases hin : i = n
      · rw [hin]; exact hn
      · exact ih e i (by omega)
theorem lastE_cut {B : Nat → Nat} {tb : List Sy} {w : List Nat} : ∀ {n j : Nat}, j ≤ n → (∀ i, j ≤ i → i < n → ¬ syn B tb i = w) → lastE B tb w n = lastE B tb w j := by
  intro n
  induction n with
  | zero => intro j h1 h2; have : j = 0 := by omega
            rw [this]
  | succ n ih =>
    intro j h1 h2
    by_cases hj : j = n + 1
    · rw [hj]
    · rw [lastE, if_neg (h2 n (by omega) (by omega))]
      exact ih (by omega) (fun i h3 h4 => h2 i h3 (by omega))
section SY
variable {c : cS} {B : Nat → Nat} {tl s l Ls : Nat} {tb : List Sy}
theorem sx_raw (X : SXT c B tl) {i : Nat} (hi : i < tl) (hN : isN (B i) = true) : (c.2.2.1 (c.2.1 2 1)).2.2 i = nn (B i) := by
  have e := X.2.2.2.1 i hi
  have hb := isN_lt hN
  have := byte_nn (X.2.2.2.2 i) (by rw [e]; omega)
  rw [e] at this
  exact this
theorem foldl_range (B : Nat → Nat) (s : Nat) (n : Nat) (f : Int32 → Nat → Int32) (x : Int32) : (nb B s (n + 1)).foldl f x = f ((nb B s n).foldl f x) (B (s + n)) := by
  unfold nb
  rw [List.range_succ, List.map_append, List.foldl_append]
  rfl
theorem c_hashF (X : SXT c B tl) (hn : NM B tl s l) : ∀ (d i u : Nat), l - i = d → d < u → i ≤ l → f59_5 u c (nn s) (nn l) (hw (nb B s i)) (nn (s + i)) = some (nn (hb (nb B s l))) := by
  obtain ⟨x1, x2, x3, x4, x5⟩ := X
  have X : SXT c B tl := ⟨x1, x2, x3, x4, x5⟩
  have hn1 := hn.1
  intro d
  induction d with
  | zero =>
    intro i u hd hu hi
    have eu : u = (u - 1) + 1 := by omega
    have ei : i = l := by omega
    subst ei
    rw [eu, f59_5, nn_add, if_pos ((nn_le (by omega) (by omega)).mpr (Nat.le_refl _))]
    unfold f59_47
    rw [and255]
    rfl
  | succ d ih =>
    intro i u hd hu hi
    have eu : u = (u - 1) + 1 := by omega
    have hr := sx_raw X (show s + i < tl by omega) (hn.2 i (by omega))
    have ec : ce c (c.2.1 2 1) (nn (s + i)) = nn (B (s + i)) := by unfold ce; rw [nn_tn (by omega), hr]
    have e9 : hw (nb B s (i + 1)) = hw (nb B s i) * 31 + nn (B (s + i)) := foldl_range B s i _ 0
    rw [eu, f59_5, nn_add, if_neg (fun hh => by have := (nn_le (by omega) (by omega)).mp hh; omega), if_neg (nn_neg (by omega)), if_pos x1, if_neg (fun hh => by have := (nn_le (by omega) (by omega)).mp hh; omega), if_pos ⟨x1, (nn_ib (by omega)).mpr (by omega)⟩, ec, nn_add1, ← e9]
    exact ih (i + 1) (u - 1) (by omega) (by omega) (by omega)
theorem c_hash (X : SXT c B tl) (hn : NM B tl s l) : f59 c (nn s) (nn l) = some (nn (hb (nb B s l))) := by
  have := X.2.2.1
  have := X.2.1
  have := hn.1
  unfold f59
  exact c_hashF X hn l 0 mm_U (by omega) (by show l < 200000; omega) (by omega)
theorem hb_lt (w : List Nat) : hb w < 256 := b8_lt _
theorem c_sameF (X : SXT c B tl) {s2 : Nat} (hn : NM B tl s l) (hn2 : NM B tl s2 l) : ∀ (d i u : Nat), l - i = d → d < u → i ≤ l → f60_35 u c (nn s) (nn s2) (nn l) (nn i) = some (if nb B (s + i) (l - i) = nb B (s2 + i) (l - i) then 1 else 0) := by
  obtain ⟨x1, x2, x3, x4, x5⟩ := X
  have X : SXT c B tl := ⟨x1, x2, x3, x4, x5⟩
  have hn1 := hn.1
  have hn21 := hn2.1
  intro d
  induction d with
  | zero =>
    intro i u hd hu hi
    have eu : u = (u - 1) + 1 := by omega
    rw [eu, f60_35, if_pos ((nn_le (by omega) (by omega)).mpr (by omega)), hd]
    rfl
  | succ d ih =>
    intro i u hd hu hi
    have eu : u = (u - 1) + 1 := by omega
    have h1 := sx_raw X (show s + i < tl by omega) (hn.2 i (by omega))
    have h2 := sx_raw X (show s2 + i < tl by omega) (hn2.2 i (by omega))
    have b1 := isN_lt (hn.2 i (by omega))
    have b2 := isN_lt (hn2.2 i (by omega))
    have e1 : ce c (c.2.1 2 1) (nn (s + i)) = nn (B (s + i)) := by unfold ce; rw [nn_tn (by omega), h1]
    have e2 : ce c (c.2.1 2 1) (nn (s2 + i)) = nn (B (s2 + i)) := by unfold ce; rw [nn_tn (by omega), h2]
    have el : l - i = (l - (i + 1)) + 1 := by omega
    rw [eu, f60_35, if_neg (fun hh => by have := (nn_le (by omega) (by omega)).mp hh; omega), nn_add, nn_add, if_pos ⟨x1, (nn_ib (by omega)).mpr (by omega)⟩, if_pos ⟨x1, (nn_ib (by omega)).mpr (by omega)⟩, e1, e2, nn_add1, ih (i + 1) (u - 1) (by omega) (by omega) (by omega), el, nb_succ, nb_succ]
    have f1 : s + (i + 1) = s + i + 1 := by omega
    have f2 : s2 + (i + 1) = s2 + i + 1 := by omega
    rw [f1, f2]
    by_cases hq : B (s + i) = B (s2 + i)
    · rw [if_pos (by rw [hq]), hq]
      by_cases hr : nb B (s + i + 1) (l - (i + 1)) = nb B (s2 + i + 1) (l - (i + 1))
      · rw [if_pos hr, if_pos (by rw [hr])]
      · rw [if_neg hr, if_neg (fun hh => hr (List.cons.inj hh).2)]
    · rw [if_neg (fun hh => hq ((nn_eq (by omega) (by omega)).mp hh)), if_neg (fun hh => hq (List.cons.inj hh).1)]
theorem c_same (X : SXT c B tl) {s2 : Nat} (hn : NM B tl s l) (hn2 : NM B tl s2 l) : f60 c (nn s) (nn s2) (nn l) = some (if nb B s l = nb B s2 l then 1 else 0) := by
  have hn1 := hn.1
  have hn21 := hn2.1
  have x1 := X.1
  have x2 := X.2.1
  have x3 := X.2.2.1
  unfold f60
  rw [if_neg (nn_neg (by omega)), if_neg (nn_neg (by omega)), if_pos x1, nn_add, if_neg (fun hh => by have := (nn_lt (by omega) (by omega)).mp hh; omega), if_pos x1, nn_add, if_pos ((nn_le (by omega) (by omega)).mpr (by omega))]
  exact c_sameF X hn hn2 l 0 mm_U (by omega) (by show l < 200000; omega) (by omega)
theorem c_findF (X : SXT c B tl) (S : SYM c B tl tb Ls) (hn : NM B tl s l) : ∀ (k u t : Nat), k ≤ tb.length → t + k ≤ tb.length → k < u → f58_15 u c (nn s) (nn l) (jI (lastJ (hfn B tb) (hb (nb B s l)) k)) (nn t) = some (jI (lastE B tb (nb B s l) k)) := by
  obtain ⟨y1, y2, y3, y4, y5, y6, y7, y8, y9⟩ := S
  have xl := X.2.1
  have xl2 := X.2.2.1
  have hn1 := hn.1
  intro k
  induction k using Nat.strongRecOn with
  | _ k ih =>
    intro u t h1 h2 h3
    have eu : u = (u - 1) + 1 := by omega
    rw [eu, f58_15, y1]
    cases hJ : lastJ (hfn B tb) (hb (nb B s l)) k with
    | none =>
      have hN := lastJ_none hJ
      have hE : lastE B tb (nb B s l) k = none := by
        rw [lastE_cut (j := 0) (by omega) (fun i _ hi hh => hN i hi (by unfold hfn; rw [hh]))]
        rfl
      rw [hE]
      by_cases q : tb.length ≤ t
      · rw [if_pos ((nn_le (by omega) (by omega)).mpr q)]; rfl
      · rw [if_neg (fun hh => q ((nn_le (by omega) (by omega)).mp hh)), if_pos (show jI none < 0 by decide)]; rfl
    | some j =>
      obtain ⟨j1, j2, j3⟩ := lastJ_lt hJ
      have hj : j < tb.length := by omega
      obtain ⟨⟨e0, e1, e2, e3, e4⟩, z1, z2, z3, z4, z5⟩ := y7 j hj
      have hcut : lastE B tb (nb B s l) k = lastE B tb (nb B s l) (j + 1) := lastE_cut (by omega) (fun i hi1 hi2 hh => j3 i (by omega) hi2 (by unfold hfn; rw [hh]))
      have a4 := y6 4 (by omega) (by omega)
      have a5 := y6 5 (by omega) (by omega)
      have a3 := y6 3 (by omega) (by omega)
      have ibj : ∀ q : Nat, cl c (c.2.1 2 q) = Ls → ib (nn j) (cl c (c.2.1 2 q)) := fun q hq => by rw [hq]; exact (nn_ib (by omega)).mpr (by omega)
      have c5 : ce c (c.2.1 2 5) (nn j) = nn (tb.getD j sy0).2.1 := by unfold ce; rw [nn_tn (by omega), z2]
      have c4 : ce c (c.2.1 2 4) (nn j) = nn (tb.getD j sy0).1 := by unfold ce; rw [nn_tn (by omega), z1]
      have c3 : ce c (c.2.1 2 3) (nn j) = jI (lastJ (hfn B tb) (hb (nb B s l)) j) := by unfold ce; rw [nn_tn (by omega), y9 j hj, j2]
      have go : f58_63 (f58_15 (u - 1)) c (nn s) (nn l) (nn j) (nn t) = some (jI (lastE B tb (nb B s l) j)) := by
        unfold f58_63
        rw [if_pos ⟨a3.1, ibj 3 a3.2⟩, c3, nn_add1]
        exact ih j (by omega) (u - 1) (t + 1) (by omega) (by omega) (by omega)
      have ejj : jI (some j) = nn j := rfl
      simp only [ejj]
      rw [if_neg (fun hh => by have := (nn_le (by omega) (by omega)).mp hh; omega), if_neg (nn_neg (by omega)), if_neg (fun hh => by have := (nn_le (by omega) (by omega)).mp hh; omega), if_pos ⟨a5.1, ibj 5 a5.2⟩, c5, hcut, lastE]
      by_cases hl : (tb.getD j sy0).2.1 = l
      · rw [if_pos (by rw [hl]), if_pos ⟨a4.1, ibj 4 a4.2⟩, c4]
        have hn2 : NM B tl (tb.getD j sy0).1 l := ⟨by rw [← hl]; exact e1, by rw [← hl]; exact e2⟩
        have es : syn B tb j = nb B (tb.getD j sy0).1 l := by unfold syn; rw [hl]
        rw [c_same X hn2 hn, Option.bind_some, es]
        by_cases hq : nb B (tb.getD j sy0).1 l = nb B s l
        · rw [if_pos hq, if_neg (by decide), if_pos hq]; rfl
        · rw [if_neg hq, if_pos rfl, if_neg hq, go]
      · have hne : ¬ syn B tb j = nb B s l := by
          intro hh
          have := congrArg List.length hh
          unfold syn at this
          rw [nb_len, nb_len] at this
          exact hl this
        rw [if_neg (fun hh => hl ((nn_eq (by omega) (by omega)).mp hh)), if_neg hne, go]
theorem c_find (X : SXT c B tl) (S : SYM c B tl tb Ls) (hn : NM B tl s l) : f58 c (nn s) (nn l) = some (jI (sfind B tb (nb B s l))) := by
  have y1 := S.2.1
  have y2 := S.2.2.1
  have hh := hb_lt (nb B s l)
  unfold f58
  have ec : ce c (c.2.1 2 2) (nn (hb (nb B s l))) = jI (lastJ (hfn B tb) (hb (nb B s l)) tb.length) := by
    unfold ce
    rw [nn_tn (by omega), S.2.2.2.2.2.2.2.1 _ hh]
  rw [c_hash X hn, Option.bind_some, if_pos ⟨S.2.2.2.1, by rw [S.2.2.2.2.1]; exact (nn_ib (by omega)).mpr hh⟩, ec]
  exact c_findF X S hn tb.length mm_U 0 (Nat.le_refl _) (by omega) (by show tb.length < 200000; omega)
end SY
