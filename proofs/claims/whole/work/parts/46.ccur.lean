/-! THE CLASS's cursor over the tokens of a line, and its expressions. -/
def cu (c : cS) (kd st vl ax er : Int32) : cS := (fun i j => if j = 3 ∧ i = 11 then kd else if j = 4 ∧ i = 11 then st else if j = 5 ∧ i = 11 then vl else if j = 15 ∧ i = 11 then ax else if j = 3 ∧ i = 17 then er else c.1 i j, c.2)
def cz (c : cS) (i : Nat) (t : Tk) (er : Int32) : cS := cu c (nn t.1) (nn t.2.1) t.2.2.1 (nn i) er
section CU
variable {c : cS} {kd st vl ax er x : Int32}
theorem cu_3 : cg (cu c kd st vl ax er) 11 3 x = cu c x st vl ax er := by
  refine Prod.ext (funext fun i => funext fun j => ?_) rfl
  show (if j = 3 ∧ i = 11 then x else (cu c kd st vl ax er).1 i j) = _
  unfold cu
  by_cases h : j = 3 ∧ i = 11 <;> simp [h]
theorem cu_4 : cg (cu c kd st vl ax er) 11 4 x = cu c kd x vl ax er := by
  refine Prod.ext (funext fun i => funext fun j => ?_) rfl
  show (if j = 4 ∧ i = 11 then x else (cu c kd st vl ax er).1 i j) = _
  unfold cu
  by_cases h : j = 4 ∧ i = 11 <;> simp [h]
theorem cu_5 : cg (cu c kd st vl ax er) 11 5 x = cu c kd st x ax er := by
  refine Prod.ext (funext fun i => funext fun j => ?_) rfl
  show (if j = 5 ∧ i = 11 then x else (cu c kd st vl ax er).1 i j) = _
  unfold cu
  by_cases h : j = 5 ∧ i = 11 <;> simp [h]
theorem cu_15 : cg (cu c kd st vl ax er) 11 15 x = cu c kd st vl x er := by
  refine Prod.ext (funext fun i => funext fun j => ?_) rfl
  show (if j = 15 ∧ i = 11 then x else (cu c kd st vl ax er).1 i j) = _
  unfold cu
  by_cases h : j = 15 ∧ i = 11 <;> simp [h]
theorem cu_e : cg (cu c kd st vl ax er) 17 3 x = cu c kd st vl ax x := by
  refine Prod.ext (funext fun i => funext fun j => ?_) rfl
  show (if j = 3 ∧ i = 17 then x else (cu c kd st vl ax er).1 i j) = _
  unfold cu
  by_cases h : j = 3 ∧ i = 17
  · simp [h]
  · simp [h]
end CU
/-- the class's view of a line's tokens -/
def CLN (c : cS) (L : Nat) (T0 : List Tk) : Prop := TA c L ∧ TKL (c.2.2.1 (c.2.1 11 11)).2.2 (c.2.2.1 (c.2.1 11 12)).2.2 (c.2.2.1 (c.2.1 11 13)).2.2 0 T0 ∧ WFT T0 ∧ T0.length + 1 ≤ L + 1 ∧ (lastF T0 = none → c.1 11 16 = -1 ∧ c.1 11 14 = nn T0.length) ∧ ∀ w, lastF T0 = some w → c.1 11 16 = nn (T0.length - 1) ∧ c.1 11 17 = nn w ∧ c.1 11 14 = nn (T0.length + 1) ∧ (c.2.2.1 (c.2.1 11 11)).2.2 T0.length = 0 ∧ T0.length < L
theorem TKL_drop {k s v : Nat → Int32} : ∀ {T : List Tk} {j i : Nat} {t : Tk} {r : List Tk}, TKL k s v j T → T.drop i = t :: r → k (j + i) = nn t.1 ∧ s (j + i) = nn t.2.1 ∧ v (j + i) = t.2.2.1 := by
  intro T
  induction T with
  | nil => intro j i t r _ h; simp at h
  | cons x q ih =>
    intro j i t r h1 h2
    cases i with
    | zero =>
      rw [List.drop_zero] at h2
      cases h2
      exact ⟨h1.1, h1.2.1, h1.2.2.1⟩
    | succ i =>
      rw [List.drop_succ_cons] at h2
      have := ih h1.2.2.2 h2
      have e : j + (i + 1) = j + 1 + i := by omega
      rw [e]
      exact this
theorem WFT_drop : ∀ {T : List Tk} {i : Nat} {t : Tk} {r : List Tk}, WFT T → T.drop i = t :: r → WFT (t :: r) ∧ lastF T = lastF (t :: r) := by
  intro T
  induction T with
  | nil => intro i t r h _; exact absurd h id
  | cons x q ih =>
    intro i t r h1 h2
    cases i with
    | zero =>
      rw [List.drop_zero] at h2
      cases h2
      exact ⟨h1, rfl⟩
    | succ i =>
      rw [List.drop_succ_cons] at h2
      cases q with
      | nil => simp at h2
      | cons y ys =>
        obtain ⟨a, b⟩ := ih h1.2.2 h2
        exact ⟨a, b⟩
theorem WFT_next {t : Tk} {r : List Tk} (h : WFT (t :: r)) (hf : t.2.2.2.2 = none) (h0 : ¬ t.1 = 0) : ∃ t' r', r = t' :: r' := by
  cases r with
  | nil =>
    rcases h with h | h
    · exact absurd h.1 h0
    · exact absurd hf h.2
  | cons t' r' => exact ⟨t', r', rfl⟩
theorem WFT_flaw {t : Tk} {r : List Tk} {w : Nat} (h : WFT (t :: r)) (hf : t.2.2.2.2 = some w) : r = [] ∧ lastF (t :: r) = some w := by
  cases r with
  | nil => exact ⟨rfl, hf⟩
  | cons t' r' => rw [h.2.1] at hf; cases hf
theorem drop_len {T : List Tk} {i : Nat} {t : Tk} {r : List Tk} (h : T.drop i = t :: r) : i + r.length + 1 = T.length := by
  have := congrArg List.length h
  rw [List.length_drop, List.length_cons] at this
  omega
theorem drop_next {T : List Tk} {i : Nat} {t : Tk} {r : List Tk} (h : T.drop i = t :: r) : T.drop (i + 1) = r := by
  have h2 := congrArg (List.drop 1) h
  rw [List.drop_drop] at h2
  exact h2
section CQ
variable {c : cS} {L i : Nat} {T0 r : List Tk} {t : Tk} {er : Int32}
theorem c_adv (C : CLN c L T0) {t' : Tk} {r' : List Tk} (hd : T0.drop i = t :: t' :: r') : f41 (cz c i t er) = some (cz c (i + 1) t' er) := by
  obtain ⟨⟨a1, a2, a3, l1, l2, l3, hL, n1, n2, n3⟩, hT, hW, hl, h0, h1⟩ := C
  have hd2 := drop_next hd
  have hlen := drop_len hd
  rw [List.length_cons] at hlen
  obtain ⟨k1, k2, k3⟩ := TKL_drop hT hd2
  rw [Nat.zero_add] at k1 k2 k3
  have hc : ∃ n : Nat, c.1 11 14 = nn n ∧ i + 1 < n ∧ n < 2000000 := by
    cases hf : lastF T0 with
    | none => exact ⟨_, (h0 hf).2, by omega, by omega⟩
    | some w => exact ⟨_, (h1 w hf).2.2.1, by omega, by omega⟩
  obtain ⟨n, hn1, hn2, hn3⟩ := hc
  have ibj : ∀ q : Nat, cl c (c.2.1 11 q) = L → ib (nn (i + 1)) (cl c (c.2.1 11 q)) := fun q hq => by rw [hq]; exact (nn_ib (by omega)).mpr (by omega)
  unfold f41
  have e15 : (cz c i t er).1 11 15 = nn i := rfl
  have e14 : (cz c i t er).1 11 14 = nn n := hn1
  have eR : (cz c i t er).2.1 = c.2.1 := rfl
  rw [e15, e14, nn_add1, eR, if_neg (nn_neg (by omega)), if_neg (fun hh => by have := (nn_le (by omega) (by omega)).mp hh; omega)]
  unfold cz
  rw [cu_15]
  have g1 : ∀ kd st vl ax, ce (cu c kd st vl ax er) (c.2.1 11 11) (nn (i + 1)) = nn t'.1 := by
    intro kd st vl ax
    show (c.2.2.1 (c.2.1 11 11)).2.2 (nn (i + 1)).toNatClampNeg = _
    rw [nn_tn (by omega), k1]
  have g2 : ∀ kd st vl ax, ce (cu c kd st vl ax er) (c.2.1 11 12) (nn (i + 1)) = nn t'.2.1 := by
    intro kd st vl ax
    show (c.2.2.1 (c.2.1 11 12)).2.2 (nn (i + 1)).toNatClampNeg = _
    rw [nn_tn (by omega), k2]
  have g3 : ∀ kd st vl ax, ce (cu c kd st vl ax er) (c.2.1 11 13) (nn (i + 1)) = t'.2.2.1 := by
    intro kd st vl ax
    show (c.2.2.1 (c.2.1 11 13)).2.2 (nn (i + 1)).toNatClampNeg = _
    rw [nn_tn (by omega), k3]
  rw [g1, if_pos (show cB (cu c _ _ _ _ _) 1 (c.2.1 11 11) (nn (i + 1)) from ⟨a1, ibj 11 l1⟩), cu_3, g2, if_pos (show cB (cu c _ _ _ _ _) 1 (c.2.1 11 12) (nn (i + 1)) from ⟨a2, ibj 12 l2⟩), cu_4, g3, if_pos (show cB (cu c _ _ _ _ _) 1 (c.2.1 11 13) (nn (i + 1)) from ⟨a3, ibj 13 l3⟩), cu_5]
/-- the class's expect does what the spec's does -/
def ME (c : cS) (T0 : List Tk) (er : Int32) (x : Option (Rx (List Tk))) (y : Option (cS ⊕ cS)) : Prop := match x with
  | none => True
  | some (.inl r) => ∃ i t r', r = t :: r' ∧ T0.drop i = t :: r' ∧ y = some (.inl (cz c i t er))
  | some (.inr e) => ∃ i t er', y = some (.inr (f46 (cz c i t er') (nn e.1) (nn e.2)))
theorem c_exp (C : CLN c L T0) (hd : T0.drop i = t :: r) (ht : t.1 < 256) {k : Nat} (hk : k < 256) (hk0 : 0 < k) : ME c T0 er (xExp k (t :: r)) (f45 (cz c i t er) (nn k)) := by
  have hlen := drop_len hd
  obtain ⟨hW, hF⟩ := WFT_drop C.2.2.1 hd
  have hL := C.1.2.2.2.2.2.2.1
  have hl := C.2.2.2.1
  unfold xExp f45
  have e3 : (cz c i t er).1 11 3 = nn t.1 := rfl
  have e4 : (cz c i t er).1 11 4 = nn t.2.1 := rfl
  have e15 : (cz c i t er).1 11 15 = nn i := rfl
  have e16 : (cz c i t er).1 11 16 = c.1 11 16 := rfl
  have e17 : (cz c i t er).1 11 17 = c.1 11 17 := rfl
  rw [e3, e4, e15, e16, e17, q_eq (x := nn k) (k := k) rfl ht hk]
  by_cases hq : t.1 = k
  · simp only [if_pos hq]
    cases hf : t.2.2.2.2 with
    | some w =>
      obtain ⟨h1, h2⟩ := WFT_flaw hW hf
      rw [h2] at hF
      obtain ⟨f1, f2, _⟩ := C.2.2.2.2.2 w hF
      rw [h1] at hlen
      simp at hlen
      have ei : T0.length - 1 = i := by omega
      rw [f1, f2, ei, if_pos rfl]
      exact ⟨i, t, er, rfl⟩
    | none =>
      obtain ⟨t', r', hr⟩ := WFT_next hW hf (by omega)
      subst hr
      rw [List.length_cons] at hlen
      have hne : ¬ nn i = c.1 11 16 := by
        cases hfl : lastF T0 with
        | none => rw [(C.2.2.2.2.1 hfl).1]; exact nn_m1 (by omega)
        | some w =>
          rw [(C.2.2.2.2.2 w hfl).1]
          intro hh
          have := (nn_eq (by omega) (by omega)).mp hh
          omega
      rw [if_neg hne, c_adv C hd]
      exact ⟨i + 1, t', r', rfl, drop_next hd, rfl⟩
  · simp only [if_neg hq]
    exact ⟨i, t, er, rfl⟩
end CQ
