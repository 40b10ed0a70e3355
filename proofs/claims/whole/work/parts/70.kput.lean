/-! THE CLASS puts bytes into the image. -/
def WF (I : List (Nat × Nat)) (Q : List Nat) (c c' : cS) : Prop := (∀ i j, ¬ (i, j) ∈ I → c'.1 i j = c.1 i j) ∧ c'.2.1 = c.2.1 ∧ c'.2.2.2 = c.2.2.2 ∧ (∀ q, (c'.2.2.1 q).1 = (c.2.2.1 q).1 ∧ (c'.2.2.1 q).2.1 = (c.2.2.1 q).2.1) ∧ ∀ q, ¬ q ∈ Q → c'.2.2.1 q = c.2.2.1 q
theorem WF_refl (I : List (Nat × Nat)) (Q : List Nat) (c : cS) : WF I Q c c := ⟨fun _ _ _ => rfl, rfl, rfl, fun _ => ⟨rfl, rfl⟩, fun _ _ => rfl⟩
theorem WF_trans {I : List (Nat × Nat)} {Q : List Nat} {c c1 c2 : cS} (h1 : WF I Q c c1) (h2 : WF I Q c1 c2) : WF I Q c c2 := ⟨fun i j h => (h2.1 i j h).trans (h1.1 i j h), h2.2.1.trans h1.2.1, h2.2.2.1.trans h1.2.2.1, fun q => ⟨(h2.2.2.2.1 q).1.trans (h1.2.2.2.1 q).1, (h2.2.2.2.1 q).2.trans (h1.2.2.2.1 q).2⟩, fun q h => (h2.2.2.2.2 q h).trans (h1.2.2.2.2 q h)⟩
theorem WF_mono {I J : List (Nat × Nat)} {Q R : List Nat} {c c1 : cS} (h : WF I Q c c1) (hi : ∀ x, x ∈ I → x ∈ J) (hq : ∀ x, x ∈ Q → x ∈ R) : WF J R c c1 := ⟨fun i j hj => h.1 i j (fun hh => hj (hi _ hh)), h.2.1, h.2.2.1, h.2.2.2.1, fun q h9 => h.2.2.2.2 q (fun hh => h9 (hq _ hh))⟩
theorem WF_cf {I : List (Nat × Nat)} {Q : List Nat} {c c1 : cS} (h : CF I c c1) : WF I Q c c1 := by
  obtain ⟨f, s2⟩ := c
  obtain ⟨f', s2'⟩ := c1
  have e2 : s2' = s2 := h.2
  subst e2
  exact ⟨h.1, rfl, rfl, fun _ => ⟨rfl, rfl⟩, fun _ _ => rfl⟩
theorem cw_ne {s : cS} {q q' : Nat} {j v : Int32} (h : ¬ q' = q) : (cw s q j v).2.2.1 q' = s.2.2.1 q' := by
  show (if q' = q then _ else s.2.2.1 q') = _
  rw [if_neg h]
theorem cw_eq {s : cS} {q : Nat} {j v : Int32} : (cw s q j v).2.2.1 q = ((s.2.2.1 q).1, (s.2.2.1 q).2.1, upd (s.2.2.1 q).2.2 j.toNatClampNeg v) := by
  show (if q = q then _ else s.2.2.1 q) = _
  rw [if_pos rfl]
theorem WF_w {I : List (Nat × Nat)} {Q : List Nat} {c c1 : cS} (h : WF I Q c c1) {q : Nat} (hq : q ∈ Q) (j v : Int32) : WF I Q c (cw c1 q j v) := by
  refine ⟨h.1, h.2.1, h.2.2.1, fun p => ?_, fun p hp => ?_⟩
  · by_cases hh : p = q
    · subst hh; rw [cw_eq]; exact h.2.2.2.1 p
    · rw [cw_ne hh]; exact h.2.2.2.1 p
  · rw [cw_ne (fun hh => hp (by rw [hh]; exact hq))]; exact h.2.2.2.2 p hp
section KP
variable {s : cS} {L a z tl Ls : Nat} {T0 ts : List Tk} {E : Ev} {e : Bool}
theorem CTX_wf {I : List (Nat × Nat)} {Q : List Nat} {s' : cS} (F : WF I Q s s') (hI : ∀ x ∈ ICX, ¬ x ∈ I) (hQ : ∀ p ∈ [(11, 7), (11, 11), (11, 12), (11, 13), (2, 1), (2, 2), (2, 3), (2, 4), (2, 5), (2, 6), (2, 7), (2, 8)], ¬ s.2.1 p.1 p.2 ∈ Q) (X : CTX s L a z tl Ls T0 E) : CTX s' L a z tl Ls T0 E := by
  obtain ⟨f, r, ar, n⟩ := s
  obtain ⟨f', r', ar', n'⟩ := s'
  obtain ⟨F1, F2, F3, F4, F5⟩ := F
  have F2 : r' = r := F2
  have F3 : n' = n := F3
  subst F2 F3
  have g1 : f' 11 9 = f 11 9 := F1 11 9 (hI _ (by decide))
  have g2 : f' 11 10 = f 11 10 := F1 11 10 (hI _ (by decide))
  have g3 : f' 11 14 = f 11 14 := F1 11 14 (hI _ (by decide))
  have g4 : f' 11 16 = f 11 16 := F1 11 16 (hI _ (by decide))
  have g5 : f' 11 17 = f 11 17 := F1 11 17 (hI _ (by decide))
  have g6 : f' 11 6 = f 11 6 := F1 11 6 (hI _ (by decide))
  have g7 : f' 2 0 = f 2 0 := F1 2 0 (hI _ (by decide))
  have g8 : f' 17 0 = f 17 0 := F1 17 0 (hI _ (by decide))
  have g9 : f' 17 1 = f 17 1 := F1 17 1 (hI _ (by decide))
  have g10 : f' 17 2 = f 17 2 := F1 17 2 (hI _ (by decide))
  have a1 : ar' (r' 11 7) = ar (r' 11 7) := F5 _ (hQ (11, 7) (by decide))
  have a2 : ar' (r' 11 11) = ar (r' 11 11) := F5 _ (hQ (11, 11) (by decide))
  have a3 : ar' (r' 11 12) = ar (r' 11 12) := F5 _ (hQ (11, 12) (by decide))
  have a4 : ar' (r' 11 13) = ar (r' 11 13) := F5 _ (hQ (11, 13) (by decide))
  have a5 : ar' (r' 2 1) = ar (r' 2 1) := F5 _ (hQ (2, 1) (by decide))
  have a6 : ar' (r' 2 2) = ar (r' 2 2) := F5 _ (hQ (2, 2) (by decide))
  have a7 : ar' (r' 2 3) = ar (r' 2 3) := F5 _ (hQ (2, 3) (by decide))
  have a8 : ar' (r' 2 4) = ar (r' 2 4) := F5 _ (hQ (2, 4) (by decide))
  have a9 : ar' (r' 2 5) = ar (r' 2 5) := F5 _ (hQ (2, 5) (by decide))
  have a10 : ar' (r' 2 6) = ar (r' 2 6) := F5 _ (hQ (2, 6) (by decide))
  have a11 : ar' (r' 2 7) = ar (r' 2 7) := F5 _ (hQ (2, 7) (by decide))
  have a12 : ar' (r' 2 8) = ar (r' 2 8) := F5 _ (hQ (2, 8) (by decide))
  have X2 := X
  unfold CTX CLN TA TC BY SXT SYM at X2
  simp only [cA, cl] at X2
  unfold CTX CLN TA TC BY SXT SYM
  simp only [cA, cl]
  simp only [g1, g2, g3, g4, g5, g6, g7, g8, g9, g10, a1, a2, a3, a4, a5, a6, a8, a9, a10, a11, a12, a7]
  obtain ⟨x1, x2, x3, x4, x5, x6, x7⟩ := X2
  refine ⟨x1, x2, x3, x4, x5, ⟨x6.1, x6.2.1, x6.2.2.1, x6.2.2.2.1, x6.2.2.2.2.1, fun k h3 h8 => ?_, x6.2.2.2.2.2.2⟩, x7⟩
  have := x6.2.2.2.2.2.1 k h3 h8
  have ek : ar' (r' 2 k) = ar (r' 2 k) := by
    have : k = 3 ∨ k = 4 ∨ k = 5 ∨ k = 6 ∨ k = 7 ∨ k = 8 := by omega
    rcases this with rfl | rfl | rfl | rfl | rfl | rfl
    · exact a7
    · exact a8
    · exact a9
    · exact a10
    · exact a11
    · exact a12
  rw [ek]
  exact this
end KP
/-- how long the head and the whole image are -/
def hdl (dd : Nat) : Nat := 52 + 32 * (if 0 < dd then 2 else 1)
/-- the image that is being made: the totals of the sections, the bytes so far -/
def IMG (s : cS) (tt dd : Nat) (mt md : List Int32) : Prop := cQ (s.2.1 16 1) ∧ s.1 (s.2.1 16 1) 1 = nn tt ∧ s.1 (s.2.1 16 1) 2 = nn dd ∧ s.1 (s.2.1 16 1) 0 = nn (hdl dd + tt + dd) ∧ cA s 0 (s.2.1 (s.2.1 16 1) 4) ∧ hdl dd + tt + dd ≤ cl s (s.2.1 (s.2.1 16 1) 4) ∧ cl s (s.2.1 (s.2.1 16 1) 4) ≤ 65536 ∧ mt.length ≤ tt ∧ md.length ≤ dd ∧ (∀ o, o < tt → (s.2.2.1 (s.2.1 (s.2.1 16 1) 4)).2.2 (hdl dd + o) = mt.getD o 0) ∧ (∀ o, o < dd → (s.2.2.1 (s.2.1 (s.2.1 16 1) 4)).2.2 (hdl dd + tt + o) = md.getD o 0) ∧ ∀ i, i < hdl dd → (s.2.2.1 (s.2.1 (s.2.1 16 1) 4)).2.2 i = 0
theorem i8_i8 (x : Int32) : x.toInt8.toInt32.toInt8.toInt32 = x.toInt8.toInt32 := by rw [Int8.toInt8_toInt32]
/-- bytes that lie in the image are put -/
theorem k_84 {s : cS} {q : Nat} {W : Nat} (hW : s.1 q 0 = nn W) (hW2 : W ≤ cl s (s.2.1 q 4)) (hc : cl s (s.2.1 q 4) ≤ 65536) (hA : cA s 0 (s.2.1 q 4)) (v : Int32) (n : Nat) (hn : n ≤ 4) : ∀ (d k p u : Nat) (s1 : cS), n - k = d → k ≤ n → d < u → p + n ≤ W → WF [] [s.2.1 q 4] s s1 → ∃ s', f84_3 q u s1 (nn p) v (nn n) (nn k) = some s' ∧ WF [] [s.2.1 q 4] s s' ∧ (∀ i, (i < p + k ∨ p + n ≤ i) → (s'.2.2.1 (s.2.1 q 4)).2.2 i = (s1.2.2.1 (s.2.1 q 4)).2.2 i) ∧ ∀ i, i < d → (s'.2.2.1 (s.2.1 q 4)).2.2 (p + k + i) = (le v d k).getD i 0 := by
  intro d
  induction d with
  | zero =>
    intro k p u s1 hd hk hu hp F
    have eu : u = (u - 1) + 1 := by omega
    rw [eu, f84_3, nn_le2 (by omega) (by omega), if_pos (by omega)]
    exact ⟨s1, rfl, F, fun _ _ => rfl, fun i hi => by omega⟩
  | succ d ih =>
    intro k p u s1 hd hk hu hp F
    have eu : u = (u - 1) + 1 := by omega
    have e1 : s1.1 q 0 = nn W := by rw [F.1 q 0 (by simp)]; exact hW
    have e2 : s1.2.1 q 4 = s.2.1 q 4 := by rw [F.2.1]
    have e3 : cl s1 (s.2.1 q 4) = cl s (s.2.1 q 4) := (F.2.2.2.1 _).2
    have hA1 : cA s1 0 (s.2.1 q 4) := ⟨hA.1, by rw [F.2.2.1]; exact hA.2.1, by rw [(F.2.2.2.1 _).1]; exact hA.2.2⟩
    have e8 : (8 : Int32) * nn k = nn (8 * k) := (Int32.ofNat_mul 8 k).symm
    have hlt : ¬ Int32.ofNat (cl s1 (s.2.1 q 4)) ≤ nn (p + k) := by
      rw [e3]
      show ¬ nn (cl s (s.2.1 q 4)) ≤ nn (p + k)
      rw [nn_le (by omega) (by omega)]
      omega
    rw [eu, f84_3, nn_le2 (by omega) (by omega), if_neg (by omega), if_neg (nn_neg (by omega)), e1, nn_add, nn_le2 (by omega) (by omega), if_neg (by omega), e2, if_pos hA1, if_neg hlt, if_pos ⟨hA1, by rw [e3]; exact (nn_ib (by omega)).mpr (by omega)⟩, e8, i8_i8, nn_add1]
    obtain ⟨s', r1, r2, r3, r4⟩ := ih (k + 1) p (u - 1) (cw s1 (s.2.1 q 4) (nn (p + k)) ((v >>> (nn (8 * k) &&& 31)).toInt8.toInt32)) (by omega) (by omega) (by omega) hp (WF_w F (List.mem_singleton.mpr rfl) _ _)
    refine ⟨s', r1, r2, fun i hi => ?_, fun i hi => ?_⟩
    · rw [r3 i (by omega), cw_eq, nn_tn (by omega)]
      show upd _ _ _ _ = _
      unfold upd
      rw [if_neg (by omega)]
    · cases i with
      | zero =>
        rw [r3 (p + k + 0) (by omega), cw_eq, nn_tn (by omega)]
        show upd _ _ _ _ = _
        unfold upd
        rw [if_pos (by omega)]
        rfl
      | succ i =>
        have := r4 i (by omega)
        rw [show p + k + (i + 1) = p + (k + 1) + i by omega, this]
        rfl
/-- a pass of the class at a line: its flags and sizes -/
def KPS (s : cS) (ag : Bool) (P : Ps) : Prop := s.1 16 5 = eb ag ∧ P.2.1 ≤ 1 ∧ s.1 16 6 = nn P.2.1 ∧ s.1 16 7 = nn P.2.2.1.length ∧ s.1 16 8 = nn P.2.2.2.length ∧ P.2.2.1.length ≤ 65536 ∧ P.2.2.2.length ≤ 65536
/-- the bytes of the statement so far -/
def JB (s : cS) (ag : Bool) (tt dd : Nat) (P : Ps) (bs : List Int32) : Prop := s.1 16 15 = nn bs.length ∧ bs.length ≤ 300000 ∧ (ag = true → IMG s tt dd (sAdd P bs).2.2.1 (sAdd P bs).2.2.2)
theorem f61_at {s : cS} {ag : Bool} {P : Ps} (K : KPS s ag P) : f61 s = nn (sEnd P) := by
  obtain ⟨k1, k2, k3, k4, k5, _⟩ := K
  unfold f61 sEnd
  rw [k3]
  by_cases h : P.2.1 = 0
  · rw [h, if_pos (show nn 0 = 0 from rfl), if_pos rfl]; exact k4
  · rw [if_neg (by rw [show (0 : Int32) = nn 0 from rfl, nn_eq (by omega) (by omega)]; exact h), if_neg h]; exact k5
theorem getD_app (l r : List Int32) (i : Nat) : (l ++ r).getD i 0 = if i < l.length then l.getD i 0 else r.getD (i - l.length) 0 := by
  rw [List.getD_eq_getElem?_getD, List.getD_eq_getElem?_getD, List.getD_eq_getElem?_getD, List.getElem?_append]
  split <;> rfl
theorem gD_out {l : List Int32} {i : Nat} (h : l.length ≤ i) : l.getD i 0 = 0 := by
  rw [List.getD_eq_getElem?_getD, List.getElem?_eq_none h]; rfl
theorem hdl_le (dd : Nat) : hdl dd = 84 ∨ hdl dd = 116 := by
  unfold hdl
  split
  · exact Or.inr rfl
  · exact Or.inl rfl
theorem k_put {s : cS} {ag : Bool} {tt dd : Nat} {P : Ps} {bs : List Int32} (K : KPS s ag P) (J : JB s ag tt dd P bs) (v : Int32) (w : Nat) (hw : w ≤ 4) (hb : bs.length + w ≤ 300000) (hroom : ag = true → sEnd P + bs.length + w ≤ if P.2.1 = 0 then tt else dd) : ∃ s', f82 s v (nn w) = some s' ∧ JB s' ag tt dd P (bs ++ le v w 0) ∧ WF [(16, 15)] [s.2.1 (s.2.1 16 1) 4] s s' := by
  have hf := f61_at K
  obtain ⟨k1, k2, k3, k4, k5, k6, k7⟩ := K
  obtain ⟨j1, j2, j3⟩ := J
  have hl : (bs ++ le v w 0).length = bs.length + w := by rw [List.length_append, le_len]
  cases ag with
  | false =>
    refine ⟨cg s 16 15 (nn (bs.length + w)), ?_, ⟨?_, by rw [hl]; omega, fun h => by cases h⟩, WF_cf (CF_g (CF_refl _ _) (by decide) _)⟩
    · unfold f82
      rw [k1, if_pos (show eb false = 0 from rfl)]
      unfold f82_37
      rw [j1, nn_add]
    · rw [hl]; rfl
  | true =>
    obtain ⟨i1, i2, i3, i4, i5, i6, i7, i8, i9, i10, i11, i12⟩ := j3 rfl
    have hr := hroom rfl
    have hh := hdl_le dd
    have h83 : f83 (s.2.1 16 1) s (s.1 16 6) = nn (hdl dd + if P.2.1 = 0 then 0 else tt) := by
      unfold f83 f83_12
      have h9 : nn dd ≤ 0 ↔ dd ≤ 0 := nn_le (b := 0) (by omega) (by decide)
      rw [k3, i2, i3, q_eq (x := 0) (k := 0) rfl (by omega) (by decide), q_eq (x := 0) (k := 0) rfl (by omega) (by decide)]
      unfold hdl
      by_cases d0 : dd = 0
      · rw [if_pos (h9.mpr (by omega)), if_neg (show ¬ 0 < dd by omega)]
        by_cases p0 : P.2.1 = 0
        · rw [if_pos p0, if_pos p0]; rfl
        · rw [if_neg p0, if_neg p0, show (52 : Int32) + 1 * 32 = nn 84 from rfl, nn_add]
      · rw [if_neg (fun h => by rw [h9] at h; omega), if_pos (show 0 < dd by omega)]
        by_cases p0 : P.2.1 = 0
        · rw [if_pos p0, if_pos p0]; rfl
        · rw [if_neg p0, if_neg p0, show (52 : Int32) + 2 * 32 = nn 116 from rfl, nn_add]
    have hse : sEnd P = if P.2.1 = 0 then P.2.2.1.length else P.2.2.2.length := rfl
    have hsa : sAdd P bs = if P.2.1 = 0 then (P.1, P.2.1, P.2.2.1 ++ bs, P.2.2.2) else (P.1, P.2.1, P.2.2.1, P.2.2.2 ++ bs) := rfl
    have hsb : sAdd P (bs ++ le v w 0) = if P.2.1 = 0 then (P.1, P.2.1, P.2.2.1 ++ (bs ++ le v w 0), P.2.2.2) else (P.1, P.2.1, P.2.2.1, P.2.2.2 ++ (bs ++ le v w 0)) := rfl
    obtain ⟨s', r1, r2, r3, r4⟩ := k_84 i4 i6 i7 i5 v w hw w 0 (hdl dd + (if P.2.1 = 0 then 0 else tt) + sEnd P + bs.length) mm_U s (by omega) (by omega) (by show w < 200000; omega) (by split at hr <;> rename_i p0 <;> simp only [p0, if_true, if_false] at * <;> omega) (WF_refl _ _ _)
    have eq1 : s'.2.1 = s.2.1 := r2.2.1
    have eq2 : s'.2.1 (s'.2.1 16 1) 4 = s.2.1 (s.2.1 16 1) 4 := by rw [eq1]
    refine ⟨cg s' 16 15 (nn (bs.length + w)), ?_, ⟨by rw [hl]; rfl, by rw [hl]; omega, fun _ => ?_⟩, WF_trans (WF_mono r2 (by decide) (fun _ h => h)) (WF_cf (CF_g (CF_refl _ _) (by decide) _))⟩
    · unfold f82
      rw [k1, if_neg (by decide), if_pos i1, if_pos i1, h83, hf, j1, nn_add, nn_add]
      unfold f84
      rw [show (0 : Int32) = nn 0 from rfl, r1, Option.bind_some]
      unfold f82_37
      rw [r2.1 16 15 (by decide), j1, nn_add]
    · have q18 : ¬ s.2.1 16 1 = 16 := by rcases i1 with h | h <;> omega
      have hcell : ∀ j, (cg s' 16 15 (nn (bs.length + w))).1 (s.2.1 16 1) j = s.1 (s.2.1 16 1) j := by
        intro j
        show (if j = 15 ∧ s.2.1 16 1 = 16 then _ else s'.1 (s.2.1 16 1) j) = _
        rw [if_neg (fun h => q18 h.2)]
        exact r2.1 _ _ (by simp)
      unfold IMG
      show cQ (s'.2.1 16 1) ∧ (cg s' 16 15 (nn (bs.length + w))).1 (s'.2.1 16 1) 1 = nn tt ∧ (cg s' 16 15 (nn (bs.length + w))).1 (s'.2.1 16 1) 2 = nn dd ∧ (cg s' 16 15 (nn (bs.length + w))).1 (s'.2.1 16 1) 0 = nn (hdl dd + tt + dd) ∧ cA s' 0 (s'.2.1 (s'.2.1 16 1) 4) ∧ hdl dd + tt + dd ≤ cl s' (s'.2.1 (s'.2.1 16 1) 4) ∧ cl s' (s'.2.1 (s'.2.1 16 1) 4) ≤ 65536 ∧ (sAdd P (bs ++ le v w 0)).2.2.1.length ≤ tt ∧ (sAdd P (bs ++ le v w 0)).2.2.2.length ≤ dd ∧ (∀ o, o < tt → (s'.2.2.1 (s'.2.1 (s'.2.1 16 1) 4)).2.2 (hdl dd + o) = (sAdd P (bs ++ le v w 0)).2.2.1.getD o 0) ∧ (∀ o, o < dd → (s'.2.2.1 (s'.2.1 (s'.2.1 16 1) 4)).2.2 (hdl dd + tt + o) = (sAdd P (bs ++ le v w 0)).2.2.2.getD o 0) ∧ ∀ i, i < hdl dd → (s'.2.2.1 (s'.2.1 (s'.2.1 16 1) 4)).2.2 i = 0
      rw [eq1, hcell 1, hcell 2, hcell 0]
      refine ⟨i1, i2, i3, i4, ⟨i5.1, by rw [r2.2.2.1]; exact i5.2.1, by rw [(r2.2.2.2.1 _).1]; exact i5.2.2⟩, by show _ ≤ (s'.2.2.1 _).2.1; rw [(r2.2.2.2.1 _).2]; exact i6, by show (s'.2.2.1 _).2.1 ≤ _; rw [(r2.2.2.2.1 _).2]; exact i7, ?_⟩
      rw [Nat.add_zero] at r3 r4
      by_cases p0 : P.2.1 = 0
      · rw [if_pos p0] at hse hsa hsb hr
        simp only [if_pos p0, Nat.add_zero] at r3 r4
        rw [hsa] at i8 i9 i10 i11
        rw [hsb]
        have i8 : (P.2.2.1 ++ bs).length ≤ tt := i8
        rw [List.length_append] at i8
        refine ⟨?_, i9, ?_, ?_, ?_⟩
        · show (P.2.2.1 ++ (bs ++ le v w 0)).length ≤ tt
          rw [List.length_append, hl]; omega
        · intro o ho
          show _ = (P.2.2.1 ++ (bs ++ le v w 0)).getD o 0
          rw [← List.append_assoc, getD_app, List.length_append]
          by_cases hin : o < P.2.2.1.length + bs.length
          · rw [if_pos hin, r3 _ (by omega)]
            exact i10 o ho
          · rw [if_neg hin]
            by_cases hin2 : o < P.2.2.1.length + bs.length + w
            · have := r4 (o - (P.2.2.1.length + bs.length)) (by omega)
              rw [show hdl dd + sEnd P + bs.length + (o - (P.2.2.1.length + bs.length)) = hdl dd + o by omega] at this
              exact this
            · rw [r3 _ (by omega), i10 o ho]
              exact (gD_out (by show (P.2.2.1 ++ bs).length ≤ o; rw [List.length_append]; omega)).trans (gD_out (by rw [le_len]; omega)).symm
        · intro o ho
          rw [r3 _ (by omega)]
          exact i11 o ho
        · intro i hi
          rw [r3 _ (by omega)]
          exact i12 i hi
      · rw [if_neg p0] at hse hsa hsb hr
        simp only [if_neg p0] at r3 r4
        rw [hsa] at i8 i9 i10 i11
        rw [hsb]
        have i9 : (P.2.2.2 ++ bs).length ≤ dd := i9
        rw [List.length_append] at i9
        refine ⟨i8, ?_, ?_, ?_, ?_⟩
        · show (P.2.2.2 ++ (bs ++ le v w 0)).length ≤ dd
          rw [List.length_append, hl]; omega
        · intro o ho
          rw [r3 _ (by omega)]
          exact i10 o ho
        · intro o ho
          show _ = (P.2.2.2 ++ (bs ++ le v w 0)).getD o 0
          rw [← List.append_assoc, getD_app, List.length_append]
          by_cases hin : o < P.2.2.2.length + bs.length
          · rw [if_pos hin, r3 _ (by omega)]
            exact i11 o ho
          · rw [if_neg hin]
            by_cases hin2 : o < P.2.2.2.length + bs.length + w
            · have := r4 (o - (P.2.2.2.length + bs.length)) (by omega)
              rw [show hdl dd + tt + sEnd P + bs.length + (o - (P.2.2.2.length + bs.length)) = hdl dd + tt + o by omega] at this
              exact this
            · rw [r3 _ (by omega), i11 o ho]
              exact (gD_out (by show (P.2.2.2 ++ bs).length ≤ o; rw [List.length_append]; omega)).trans (gD_out (by rw [le_len]; omega)).symm
        · intro i hi
          rw [r3 _ (by omega)]
          exact i12 i hi
