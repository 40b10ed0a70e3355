/-! THE REFERENCE's OBJECT as a state: s.1 its ints by their fields' numbers, s.2 its arrays (but the three tables) by theirs. -/
abbrev mS := (Nat → Int32) × (Nat → Nat → Int32)
def mm_f (G : Nat → Int32) : List Value := [.ref 23, .ref 24, .ref 25, .int (G 3), .ref 26, .int (G 5), .ref 27, .int (G 7), .int (G 8), .int (G 9), .int (G 10), .int (G 11), .int (G 12), .int (G 13), .int (G 14), .int (G 15), .int (G 16), .int (G 17), .int (G 18), .int (G 19), .int (G 20), .int (G 21), .int (G 22), .int (G 23), .int (G 24), .ref 28, .int (G 26), .ref 29, .ref 30, .ref 31, .ref 32, .ref 33, .int (G 32), .int (G 33), .int (G 34), .ref 34, .ref 35, .int (G 37), .int (G 38), .int (G 39), .int (G 40), .int (G 41), .ref 36, .ref 37, .ref 38, .ref 39, .ref 40, .int (G 47)]
def mm_regL : List Int64 := [2053468783, 29281, 29552, 26480, 29808, 29744, 29745, 29746, 29488, 29489, 24880, 24881, 24882, 24883, 24884, 24885, 24886, 24887, 29490, 29491, 29492, 29493, 29494, 29495, 29496, 29497, 7549232, 7549233, 29747, 29748, 29749, 29750, 26224]
def mm_stmL : List Int64 := [6382692, 7566690, 7564396, 7564404, 1936487541, 7892850, 7565932, 7565921, 28530, 6385252, 7173484, 1836412008, 120351097385845, 470121474165, 6580598, 1684633205, 7497069, 1919249781, 1633969257, 1936487529, 495740807541, 2020569705, 7303785, 1634624617, 1936485481, 1936878697, 1936875881, 27746, 27752, 27767, 7103093, 7104629, 29538, 29544, 29559, 6448497, 6450789, 6450292, 6448997, 1651274869, 1650943349, 6449012, 6450277, 1650947189, 1651271029, 1650815354, 1651402106, 1651274874, 1650943354, 1650947194, 1651271034, 7107945, 418581672035, 6971756, 1784769650, 439788397413, 435459026028, 111473500447083, 7237488, 7497076, 28022, 7237492, 7234919, 1936028026, 1936614778, 1936487546, 1936159866, 106, 1667329132, 27250, 27745, 27753, 199521302644, 199252604001, 199220622437, 199319710822, 199572288100, 50996082600297, 50996082600314, 51073341547365, 50995965552494, 778400117, 51021735748204]
def mm_prtL : List Int32 := [0, 0, 1, 2, 3, 4, 5, 5, 6, 7, 0, 1, 2, 3, 4, 5, 6, 7, 0, 2, 3, 4, 6, 7, 1, 5, 5, 0, 1, 2, 4, 5, 0, 1, 2, 0, 1, 4, 5, 6, 7, 4, 5, 6, 7, 0, 1, 4, 5, 4, 5]
def mm_reg (i : Nat) : Int64 := mm_regL.getD i 0
def mm_stm (i : Nat) : Int64 := mm_stmL.getD i 0
def mm_prt (i : Nat) : Int32 := mm_prtL.getD i 0
def mm_F (s : mS) (Z : Nat → ab_C) : Nat → ab_C := fun i => match i with
  | 22 => .inr (6, mm_f s.1)
  | 23 => .inl (2, 33, .inr (.inl mm_reg))
  | 24 => .inl (2, 83, .inr (.inl mm_stm))
  | 25 => .inl (1, 51, .inl mm_prt)
  | 26 => .inl (0, 65536, .inl (s.2 4))
  | 27 => .inl (0, 65536, .inl (s.2 6))
  | 28 => .inl (0, 65536, .inl (s.2 25))
  | 29 => .inl (1, 17500, .inl (s.2 27))
  | 30 => .inl (1, 17500, .inl (s.2 28))
  | 31 => .inl (1, 17500, .inl (s.2 29))
  | 32 => .inl (1, 17500, .inl (s.2 30))
  | 33 => .inl (1, 17500, .inl (s.2 31))
  | 34 => .inl (1, 2, .inl (s.2 35))
  | 35 => .inl (0, 130840, .inl (s.2 36))
  | 36 => .inl (1, 160, .inl (s.2 42))
  | 37 => .inl (1, 160, .inl (s.2 43))
  | 38 => .inl (1, 160, .inl (s.2 44))
  | 39 => .inl (1, 160, .inl (s.2 45))
  | 40 => .inl (1, 160, .inl (s.2 46))
  | i => Z i
def mm_bu (B : Nat → Nat → Int32) (k : Nat) (f : Nat → Int32) : Nat → Nat → Int32 := fun j => if j = k then f else B j
def mg (s : mS) (k : Nat) (v : Int32) : mS := (upd s.1 k v, s.2)
def mb (s : mS) (k : Nat) (j : Int32) (v : Int32) : mS := (s.1, mm_bu s.2 k (upd (s.2 k) j.toNatClampNeg v))
theorem mm_obj (s : mS) (G : Nat → Int32) (Z : Nat → ab_C) : ab_fu (mm_F s Z) 22 (.inr (6, mm_f G)) = mm_F (G, s.2) Z := by
  funext i
  unfold ab_fu
  by_cases h : i = 22
  · subst h; rfl
  · rw [if_neg h]
    unfold mm_F
    split <;> first | rfl | (exact absurd rfl h)
theorem mm_arr4 (s : mS) (Z : Nat → ab_C) (f : Nat → Int32) : ab_fu (mm_F s Z) 26 (.inl (0, 65536, .inl f)) = mm_F (s.1, mm_bu s.2 4 f) Z := by
  funext i
  unfold ab_fu
  by_cases h : i = 26
  · subst h; rfl
  · rw [if_neg h]
    unfold mm_F
    split <;> first | rfl | (exact absurd rfl h)
theorem mm_arr6 (s : mS) (Z : Nat → ab_C) (f : Nat → Int32) : ab_fu (mm_F s Z) 27 (.inl (0, 65536, .inl f)) = mm_F (s.1, mm_bu s.2 6 f) Z := by
  funext i
  unfold ab_fu
  by_cases h : i = 27
  · subst h; rfl
  · rw [if_neg h]
    unfold mm_F
    split <;> first | rfl | (exact absurd rfl h)
theorem mm_arr25 (s : mS) (Z : Nat → ab_C) (f : Nat → Int32) : ab_fu (mm_F s Z) 28 (.inl (0, 65536, .inl f)) = mm_F (s.1, mm_bu s.2 25 f) Z := by
  funext i
  unfold ab_fu
  by_cases h : i = 28
  · subst h; rfl
  · rw [if_neg h]
    unfold mm_F
    split <;> first | rfl | (exact absurd rfl h)
theorem mm_arr27 (s : mS) (Z : Nat → ab_C) (f : Nat → Int32) : ab_fu (mm_F s Z) 29 (.inl (1, 17500, .inl f)) = mm_F (s.1, mm_bu s.2 27 f) Z := by
  funext i
  unfold ab_fu
  by_cases h : i = 29
  · subst h; rfl
  · rw [if_neg h]
    unfold mm_F
    split <;> first | rfl | (exact absurd rfl h)
theorem mm_arr28 (s : mS) (Z : Nat → ab_C) (f : Nat → Int32) : ab_fu (mm_F s Z) 30 (.inl (1, 17500, .inl f)) = mm_F (s.1, mm_bu s.2 28 f) Z := by
  funext i
  unfold ab_fu
  by_cases h : i = 30
  · subst h; rfl
  · rw [if_neg h]
    unfold mm_F
    split <;> first | rfl | (exact absurd rfl h)
theorem mm_arr29 (s : mS) (Z : Nat → ab_C) (f : Nat → Int32) : ab_fu (mm_F s Z) 31 (.inl (1, 17500, .inl f)) = mm_F (s.1, mm_bu s.2 29 f) Z := by
  funext i
  unfold ab_fu
  by_cases h : i = 31
  · subst h; rfl
  · rw [if_neg h]
    unfold mm_F
    split <;> first | rfl | (exact absurd rfl h)
theorem mm_arr30 (s : mS) (Z : Nat → ab_C) (f : Nat → Int32) : ab_fu (mm_F s Z) 32 (.inl (1, 17500, .inl f)) = mm_F (s.1, mm_bu s.2 30 f) Z := by
  funext i
  unfold ab_fu
  by_cases h : i = 32
  · subst h; rfl
  · rw [if_neg h]
    unfold mm_F
    split <;> first | rfl | (exact absurd rfl h)
theorem mm_arr31 (s : mS) (Z : Nat → ab_C) (f : Nat → Int32) : ab_fu (mm_F s Z) 33 (.inl (1, 17500, .inl f)) = mm_F (s.1, mm_bu s.2 31 f) Z := by
  funext i
  unfold ab_fu
  by_cases h : i = 33
  · subst h; rfl
  · rw [if_neg h]
    unfold mm_F
    split <;> first | rfl | (exact absurd rfl h)
theorem mm_arr35 (s : mS) (Z : Nat → ab_C) (f : Nat → Int32) : ab_fu (mm_F s Z) 34 (.inl (1, 2, .inl f)) = mm_F (s.1, mm_bu s.2 35 f) Z := by
  funext i
  unfold ab_fu
  by_cases h : i = 34
  · subst h; rfl
  · rw [if_neg h]
    unfold mm_F
    split <;> first | rfl | (exact absurd rfl h)
theorem mm_arr36 (s : mS) (Z : Nat → ab_C) (f : Nat → Int32) : ab_fu (mm_F s Z) 35 (.inl (0, 130840, .inl f)) = mm_F (s.1, mm_bu s.2 36 f) Z := by
  funext i
  unfold ab_fu
  by_cases h : i = 35
  · subst h; rfl
  · rw [if_neg h]
    unfold mm_F
    split <;> first | rfl | (exact absurd rfl h)
theorem mm_arr42 (s : mS) (Z : Nat → ab_C) (f : Nat → Int32) : ab_fu (mm_F s Z) 36 (.inl (1, 160, .inl f)) = mm_F (s.1, mm_bu s.2 42 f) Z := by
  funext i
  unfold ab_fu
  by_cases h : i = 36
  · subst h; rfl
  · rw [if_neg h]
    unfold mm_F
    split <;> first | rfl | (exact absurd rfl h)
theorem mm_arr43 (s : mS) (Z : Nat → ab_C) (f : Nat → Int32) : ab_fu (mm_F s Z) 37 (.inl (1, 160, .inl f)) = mm_F (s.1, mm_bu s.2 43 f) Z := by
  funext i
  unfold ab_fu
  by_cases h : i = 37
  · subst h; rfl
  · rw [if_neg h]
    unfold mm_F
    split <;> first | rfl | (exact absurd rfl h)
theorem mm_arr44 (s : mS) (Z : Nat → ab_C) (f : Nat → Int32) : ab_fu (mm_F s Z) 38 (.inl (1, 160, .inl f)) = mm_F (s.1, mm_bu s.2 44 f) Z := by
  funext i
  unfold ab_fu
  by_cases h : i = 38
  · subst h; rfl
  · rw [if_neg h]
    unfold mm_F
    split <;> first | rfl | (exact absurd rfl h)
theorem mm_arr45 (s : mS) (Z : Nat → ab_C) (f : Nat → Int32) : ab_fu (mm_F s Z) 39 (.inl (1, 160, .inl f)) = mm_F (s.1, mm_bu s.2 45 f) Z := by
  funext i
  unfold ab_fu
  by_cases h : i = 39
  · subst h; rfl
  · rw [if_neg h]
    unfold mm_F
    split <;> first | rfl | (exact absurd rfl h)
theorem mm_arr46 (s : mS) (Z : Nat → ab_C) (f : Nat → Int32) : ab_fu (mm_F s Z) 40 (.inl (1, 160, .inl f)) = mm_F (s.1, mm_bu s.2 46 f) Z := by
  funext i
  unfold ab_fu
  by_cases h : i = 40
  · subst h; rfl
  · rw [if_neg h]
    unfold mm_F
    split <;> first | rfl | (exact absurd rfl h)
theorem of_if {α : Type} {c : Prop} [Decidable c] {A : Option α} {r : α} (e : (if c then A else none) = some r) : c ∧ A = some r := by
  by_cases h : c
  · rw [if_pos h] at e; exact ⟨h, e⟩
  · rw [if_neg h] at e; cases e
theorem of_bind {α β : Type} {x : Option α} {g : α → Option β} {r : β} (e : x.bind g = some r) : ∃ q, x = some q ∧ g q = some r := by
  cases x with
  | none => cases e
  | some q => exact ⟨q, rfl, e⟩
abbrev bz (v : Int32) : Prop := v = 0 ∨ v = 1
theorem bz_fit {v : Int32} (h : bz v) : (v == 0 || v == 1) = true := by rcases h with h | h <;> rw [h] <;> rfl
def mm_U : Nat := 200000
section MM
variable {d mi pc len a b n : Nat} {l : ab_L} {r st : List Value} {h h1 h' : ab_H} {o : Option Value ⊕ Unit} {P P2 : ab_M × List ab_I} {s : mS} {Z : Nat → ab_C}
theorem r_retI {x : Int32} (hP : ab_prog[mi]? = some P) (hf : ab_fetch P.2 pc = some (.ireturn, len, a, b)) (hr : P.1.2.2.2.2.1 = some .int) : ab_Rn d mi pc l [.int x] h (.inl (some (.int x))) h := r_ret hP hf rfl (by rw [hr]; rfl)
theorem r_retZ {x : Int32} (hP : ab_prog[mi]? = some P) (hf : ab_fetch P.2 pc = some (.ireturn, len, a, b)) (hr : P.1.2.2.2.2.1 = some .boolean) (hx : bz x) : ab_Rn d mi pc l [.int x] h (.inl (some (.int x))) h := r_ret hP hf rfl (by rw [hr]; simp only [ab_ret, ab_nar, bz_fit hx, if_true])
theorem r_retJ {x : Int64} (hP : ab_prog[mi]? = some P) (hf : ab_fetch P.2 pc = some (.lreturn, len, a, b)) (hr : P.1.2.2.2.2.1 = some .long) : ab_Rn d mi pc l [.long x] h (.inl (some (.long x))) h := r_ret hP hf rfl (by rw [hr]; rfl)
theorem r_retV (hP : ab_prog[mi]? = some P) (hf : ab_fetch P.2 pc = some (.return_, len, a, b)) (hr : P.1.2.2.2.2.1 = none) : ab_Rn d mi pc l [] h (.inl none) h := r_ret hP hf rfl (by rw [hr]; rfl)
theorem r_csv {idx : Nat} {v : Option Value} {w : List Value} (hP : ab_prog[mi]? = some P) (hf : ab_fetch P.2 pc = some (.invokestatic idx, len, a, b)) (hna : ab_nat (.invokestatic idx) a h st = none) (ht : ab_thr mi pc st = false) (hP2 : ab_prog[a]? = some P2) (hst : st.drop P2.1.2.2.2.2.2.1 = r) (hlen : (st.take P2.1.2.2.2.2.2.1).length = P2.1.2.2.2.2.2.1) (hcat : Nat.ble (ab_cat r) 8 = true) (hl : Nat.ble (lg_sl (st.take P2.1.2.2.2.2.2.1).reverse).length P2.1.2.2.2.1 = true)
    (hc : ab_Rn d a 0 (lv_args 0 (st.take P2.1.2.2.2.2.2.1).reverse) [] h (.inl v) h1) (hw : v.toList ++ r = w) (K : ab_Rn (d + 1) mi (pc + 3) l w h1 o h') : ab_Rn (d + 1) mi pc l st h o h' := by
  subst hst; subst hw
  exact r_cs hP hf hna ht hP2 hlen (Nat.le_of_ble_eq_true hcat) (Nat.le_of_ble_eq_true hl) hc K
theorem m_cv {idx : Nat} {v : Option Value} {w : List Value} (hn : 42 ≤ n) (hP : ab_prog[mi]? = some P) (hf : ab_fetch P.2 pc = some (.invokevirtual idx, len, a, b)) (ht : ab_thr mi pc st = false) (hP2 : ab_prog[a]? = some P2) (hst : st.drop P2.1.2.2.2.2.2.1 = .ref 22 :: r) (hlen : (st.take P2.1.2.2.2.2.2.1).length = P2.1.2.2.2.2.2.1) (hcat : Nat.ble (ab_cat r) 8 = true) (hcn : ab_cn 6 = P2.1.2.1.cls) (hl : Nat.ble (lg_sl (.ref 22 :: (st.take P2.1.2.2.2.2.2.1).reverse)).length P2.1.2.2.2.1 = true)
    (hc : ab_Rn d a 0 (lv_args 0 (.ref 22 :: (st.take P2.1.2.2.2.2.2.1).reverse)) [] (ab_hl n (mm_F s Z)) (.inl v) h1) (hw : v.toList ++ r = w) (K : ab_Rn (d + 1) mi (pc + 3) l w h1 o h') : ab_Rn (d + 1) mi pc l st (ab_hl n (mm_F s Z)) o h' := by
  subst hw
  exact r_cv hP hf ht hP2 hst hlen (Nat.le_of_ble_eq_true hcat) (by omega) rfl hcn (Nat.le_of_ble_eq_true hl) hc K
theorem m_get {k idx : Nat} {v : Value} (hn : 42 ≤ n) (hP : ab_prog[mi]? = some P) (hf : ab_fetch P.2 pc = some (.getfield idx, len, 6, k)) (hv : (mm_f s.1)[k]? = some v) (K : ab_Rn d mi (pc + 3) l (v :: r) (ab_hl n (mm_F s Z)) o h') : ab_Rn d mi pc l (.ref 22 :: r) (ab_hl n (mm_F s Z)) o h' := r_getf hP hf (by omega) rfl (by decide) hv K
theorem m_put {k idx : Nat} {v : Int32} (hn : 42 ≤ n) (hP : ab_prog[mi]? = some P) (hf : ab_fetch P.2 pc = some (.putfield idx, len, 6, k)) (hk : Nat.blt k 48 = true) (hs : (mm_f s.1).set k (.int v) = mm_f (upd s.1 k v)) (hv : ab_fit (ab_ty 6 k) (.int v) = true) (hfin : ab_fin 6 k = false) (K : ab_Rn d mi (pc + 3) l r (ab_hl n (mm_F (mg s k v) Z)) o h') : ab_Rn d mi pc l (.int v :: .ref 22 :: r) (ab_hl n (mm_F s Z)) o h' := by
  refine r_putf hP hf (by omega) rfl (by decide) (by show k < 48; simpa using hk) hv (Or.inl hfin) ?_
  rw [hs, mm_obj]
  exact K
theorem m_ast {i m k : Nat} {j x : Int32} (hn : 42 ≤ n) (hi : Nat.blt i 42 = true) (hP : ab_prog[mi]? = some P) (hf : ab_fetch P.2 pc = some (.iastore, len, a, b)) (hF : mm_F s Z i = .inl (1, m, .inl (s.2 k))) (hA : ∀ f, ab_fu (mm_F s Z) i (.inl (1, m, .inl f)) = mm_F (s.1, mm_bu s.2 k f) Z) (hj : ib j m) (K : ab_Rn d mi (pc + 1) l r (ab_hl n (mm_F (mb s k j x) Z)) o h') : ab_Rn d mi pc l (.int x :: .int j :: .ref i :: r) (ab_hl n (mm_F s Z)) o h' := by
  refine r_iast hP hf (by simp at hi; omega) hF hj ?_
  rw [hA]
  exact K
theorem m_bst {i m k : Nat} {j x : Int32} (hn : 42 ≤ n) (hi : Nat.blt i 42 = true) (hP : ab_prog[mi]? = some P) (hf : ab_fetch P.2 pc = some (.bastore, len, a, b)) (hF : mm_F s Z i = .inl (0, m, .inl (s.2 k))) (hA : ∀ f, ab_fu (mm_F s Z) i (.inl (0, m, .inl f)) = mm_F (s.1, mm_bu s.2 k f) Z) (hj : ib j m) (K : ab_Rn d mi (pc + 1) l r (ab_hl n (mm_F (mb s k j x.toInt8.toInt32) Z)) o h') : ab_Rn d mi pc l (.int x :: .int j :: .ref i :: r) (ab_hl n (mm_F s Z)) o h' := by
  refine r_bast hP hf (by simp at hi; omega) hF hj ?_
  rw [hA]
  exact K
theorem m_lt {i n : Nat} (hn : 42 ≤ n) (hi : Nat.blt i 42 = true) : i < n := by
  have : i < 42 := by simpa using hi
  omega
end MM
theorem ab_get_set2 {l : ab_L} {k j : Nat} {v w : Value} (hj : j ≠ k) (hj1 : j ≠ k + 1) (e : ab_get l j = some w) (hc : w.category = 1 ∨ j + 1 ≠ k) : ab_get (ab_set2 l k v) j = some w := by
  unfold ab_get at e
  cases hf : l.find? (fun q => q.1 == j) with
  | none => rw [hf] at e; cases e
  | some z =>
    rw [hf] at e
    have h1 : z.1 = j := by simpa using List.find?_some hf
    cases e
    unfold ab_get ab_set2
    rw [List.find?_cons_of_neg (by simpa using Ne.symm hj), List.find?_filter]
    have : l.find? (fun a => decide ((!(a.1 == k) && (!(a.1 == k + 1) && !(a.1 + 1 == k && a.2.category == 2))) = true ∧ (a.1 == j) = true)) = some z := by
      rw [List.find?_eq_some_iff_append] at hf ⊢
      obtain ⟨h2, as, bs, h3, h4⟩ := hf
      refine ⟨?_, as, bs, h3, fun a ha => ?_⟩
      · rcases hc with hc | hc
        · simp [h1, hj, hj1, hc]
        · simp [h1, hj, hj1, hc]
      · have := h4 a ha
        simp only [Bool.not_eq_true', beq_eq_false_iff_ne] at this ⊢
        simp [this]
    simp only [this]
    rfl
theorem ab_get_set2_self (l : ab_L) (k : Nat) (v : Value) : ab_get (ab_set2 l k v) k = some v := by
  unfold ab_get ab_set2
  simp
section ML
variable {d mi pc len a b k : Nat} {l : ab_L} {r st : List Value} {h h' : ab_H} {o : Option Value ⊕ Unit} {P : ab_M × List ab_I}
theorem r_lstore {x : Int64} (hP : ab_prog[mi]? = some P) (hf : ab_fetch P.2 pc = some (.lstore k, len, a, b)) (hk : k + 1 < P.1.2.2.2.1) (K : ∀ l' : ab_L, (∀ (j : Nat) (w : Value), j ≠ k → j ≠ k + 1 → ab_get l j = some w → w.category = 1 ∨ j + 1 ≠ k → ab_get l' j = some w) → ab_get l' k = some (.long x) → ab_Rn d mi (pc + 2) l' r h o h') : ab_Rn d mi pc l (.long x :: r) h o h' := r_sto (l' := ab_set2 l k (.long x)) (st' := r) hP hf rfl rfl (by simp only [ab_sto, ab_st2, if_pos hk]) (K _ (fun _ _ hj hj1 e hc => ab_get_set2 hj hj1 e hc) (ab_get_set2_self _ _ _))
theorem r_lstore_n {k4 : Fin 4} {x : Int64} (hP : ab_prog[mi]? = some P) (hf : ab_fetch P.2 pc = some (.lstore_n k4, len, a, b)) (hk : (k4 : Nat) + 1 < P.1.2.2.2.1) (K : ∀ l' : ab_L, (∀ (j : Nat) (w : Value), j ≠ (k4 : Nat) → j ≠ (k4 : Nat) + 1 → ab_get l j = some w → w.category = 1 ∨ j + 1 ≠ (k4 : Nat) → ab_get l' j = some w) → ab_get l' (k4 : Nat) = some (.long x) → ab_Rn d mi (pc + 1) l' r h o h') : ab_Rn d mi pc l (.long x :: r) h o h' := r_sto (l' := ab_set2 l (k4 : Nat) (.long x)) (st' := r) hP hf rfl rfl (by simp only [ab_sto, ab_st2, if_pos hk]) (K _ (fun _ _ hj hj1 e hc => ab_get_set2 hj hj1 e hc) (ab_get_set2_self _ _ _))
end ML
