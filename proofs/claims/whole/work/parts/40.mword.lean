/-! THE REFERENCE's words: packed names. -/
def pkN (w : List Nat) : Nat := w.foldl (fun v b => v * 256 + b) 0
def unF : Nat → Nat → List Nat
  | 0, _ => []
  | u + 1, n => if n = 0 then [] else unF u (n / 256) ++ [n % 256]
theorem pkN_snoc (w : List Nat) (b : Nat) : pkN (w ++ [b]) = pkN w * 256 + b := by unfold pkN; rw [List.foldl_append]; rfl
theorem unF_pk : ∀ (u : Nat) (w : List Nat), w.length ≤ u → (∀ b ∈ w, 0 < b ∧ b < 256) → unF u (pkN w) = w := by
  intro u
  induction u with
  | zero => intro w h _; cases w with
    | nil => rfl
    | cons a r => simp at h
  | succ u ih =>
    intro w h hb
    rcases List.eq_nil_or_concat w with rfl | ⟨r, b, rfl⟩
    · rfl
    · have hbb := hb b (by simp)
      have e1 : (pkN r * 256 + b) / 256 = pkN r := by omega
      have e2 : (pkN r * 256 + b) % 256 = b := by omega
      have e3 : ¬ pkN r * 256 + b = 0 := by omega
      have h4 : r.length ≤ u := by simp at h; omega
      have h5 := ih r h4 (fun x hx => hb x (by simp [hx]))
      rw [List.concat_eq_append, unF, pkN_snoc, if_neg e3, e1, e2, h5]
theorem pkN_inj {w v : List Nat} (hw : ∀ b ∈ w, 0 < b ∧ b < 256) (hv : ∀ b ∈ v, 0 < b ∧ b < 256) (h : pkN w = pkN v) : w = v := by
  have h1 := unF_pk (w.length + v.length) w (by omega) hw
  have h2 := unF_pk (w.length + v.length) v (by omega) hv
  rw [h] at h1
  rw [← h1, h2]
theorem pkN_lt : ∀ (n : Nat) (w : List Nat), w.length = n → (∀ b ∈ w, b < 256) → pkN w < 256 ^ n := by
  intro n
  induction n with
  | zero => intro w h _; cases w with
    | nil => decide
    | cons a r => simp at h
  | succ n ih =>
    intro w h hb
    rcases List.eq_nil_or_concat w with rfl | ⟨r, b, rfl⟩
    · simp at h
    · have hbb := hb b (by simp)
      have h4 : r.length = n := by simp at h; omega
      have := ih r h4 (fun x hx => hb x (by simp [hx]))
      rw [List.concat_eq_append, pkN_snoc, Nat.pow_succ]
      omega
theorem b_i64 {b : Nat} (h : b < 256) : (nn b).toInt64 = Int64.ofNat b := by
  have key : ∀ b : Nat, b < 256 → (nn b).toInt64 = Int64.ofNat b := by decide +kernel
  exact key b h
theorem pk_step {v b : Nat} (hv : v < 2 ^ 56) (hb : b < 256) : (Int64.ofNat v <<< ((8 : Int32).toInt64 &&& 63)) ||| (nn b).toInt64 = Int64.ofNat (v * 256 + b) := by
  rw [b_i64 hb]
  apply Int64.toBitVec_inj.mp
  rw [Int64.toBitVec_or, Int64.toBitVec_shiftLeft]
  have e1 : ((8 : Int32).toInt64 &&& 63).toBitVec.smod 64 = 8#64 := by decide
  rw [e1]
  show BitVec.ofNat 64 v <<< (8#64) ||| BitVec.ofNat 64 b = BitVec.ofNat 64 (v * 256 + b)
  apply BitVec.eq_of_toNat_eq
  rw [BitVec.shiftLeft_eq', BitVec.toNat_or, BitVec.toNat_shiftLeft, BitVec.toNat_ofNat, BitVec.toNat_ofNat, BitVec.toNat_ofNat, BitVec.toNat_ofNat]
  have e8 : 8 % 2 ^ 64 = 8 := rfl
  rw [e8, Nat.mod_eq_of_lt (show v < 2 ^ 64 by omega), Nat.mod_eq_of_lt (show b < 2 ^ 64 by omega), Nat.mod_eq_of_lt (show v * 256 + b < 2 ^ 64 by omega), Nat.shiftLeft_eq, Nat.mod_eq_of_lt (show v * 2 ^ 8 < 2 ^ 64 by omega)]
  have := Nat.shiftLeft_add_eq_or_of_lt (show b < 2 ^ 8 by omega) v
  rw [Nat.shiftLeft_eq] at this
  rw [← this]
theorem i64_inj {a b : Nat} (ha : a < 2 ^ 64) (hb : b < 2 ^ 64) (h : Int64.ofNat a = Int64.ofNat b) : a = b := by
  have := congrArg Int64.toBitVec h
  have h2 : BitVec.ofNat 64 a = BitVec.ofNat 64 b := this
  have h3 := congrArg BitVec.toNat h2
  rw [BitVec.toNat_ofNat, BitVec.toNat_ofNat, Nat.mod_eq_of_lt ha, Nat.mod_eq_of_lt hb] at h3
  exact h3
theorem lg_eq {x y : Int64} : (lg_cmp x y = 0) ↔ x = y := by
  unfold lg_cmp
  constructor
  · intro h
    by_cases h1 : x = y
    · exact h1
    · exfalso
      revert h
      repeat' split
      all_goals first | decide | skip
      all_goals simp_all
  · intro h
    subst h
    repeat' split
    all_goals first | rfl | simp_all
section MW
variable {m : mS} {B : Nat → Nat} {z s l : Nat}
/-- the packed name: 0 for a long one -/
def pk9 (w : List Nat) : Int64 := if 9 ≤ w.length then 0 else Int64.ofNat (pkN w)
theorem m_packF (hz : z ≤ 65536) (hW : ∀ i, i < z → b8 (m.2 4 i) = B i) (hB : ∀ i, B i < 256) (hs : s + l ≤ z) (h9 : l < 9) : ∀ (d i u : Nat), l - i = d → d < u → i ≤ l → f136_5 u m (nn s) (nn l) (Int64.ofNat (pkN (nb B s i))) (nn i) = some (Int64.ofNat (pkN (nb B s l))) := by
  intro d
  induction d with
  | zero =>
    intro i u hd hu hi
    have eu : u = (u - 1) + 1 := by omega
    have ei : i = l := by omega
    subst ei
    rw [eu, f136_5, if_pos ((nn_le (by omega) (by omega)).mpr (Nat.le_refl _))]
    rfl
  | succ d ih =>
    intro i u hd hu hi
    have eu : u = (u - 1) + 1 := by omega
    have e9 : (9 : Int32) = nn 9 := rfl
    have hlt := pkN_lt i (nb B s i) (nb_len B s i) (fun b hb => by
      simp only [nb, List.mem_map, List.mem_range] at hb
      obtain ⟨q, _, rfl⟩ := hb
      exact hB _)
    have hp : (256 : Nat) ^ i ≤ 256 ^ 7 := Nat.pow_le_pow_right (by decide) (by omega)
    have es : nb B s (i + 1) = nb B s i ++ [B (s + i)] := by
      unfold nb
      rw [List.range_succ, List.map_append]
      rfl
    rw [eu, f136_5, if_neg (fun hh => by have := (nn_le (by omega) (by omega)).mp hh; omega), e9, if_neg (fun hh => by have := (nn_le (by omega) (by omega)).mp hh; omega), nn_add, if_pos ((nn_ib (by omega)).mpr (by omega)), nn_tn (by omega), and255, hW _ (by omega), pk_step (by omega) (hB _), nn_add1]
    have := ih (i + 1) (u - 1) (by omega) (by omega) (by omega)
    rw [es, pkN_snoc] at this
    exact this
theorem m_pack (hz : z ≤ 65536) (hW : ∀ i, i < z → b8 (m.2 4 i) = B i) (hB : ∀ i, B i < 256) (hs : s + l ≤ z) : f136 m (nn s) (nn l) = some (pk9 (nb B s l)) := by
  unfold f136 pk9
  rw [nb_len]
  by_cases h9 : 9 ≤ l
  · have e9 : (9 : Int32) = nn 9 := rfl
    have e0 : (0 : Int32) = nn 0 := rfl
    have c1 : ¬ nn l ≤ (0 : Int32) := fun hh => by
      have : nn l ≤ nn 0 := hh
      have := (nn_le (by omega) (by omega)).mp this
      omega
    have c2 : (9 : Int32) ≤ nn l := by
      rw [e9]
      exact (nn_le (by omega) (by omega)).mpr h9
    rw [show mm_U = 199999 + 1 from rfl, f136_5, if_neg c1, if_pos c2, if_pos h9]
    rfl
  · rw [if_neg h9]
    exact m_packF hz hW hB hs (by omega) l 0 mm_U (by omega) (by show l < 200000; omega) (by omega)
/-- where the class's statement stands among the reference's -/
def mw (j : Nat) : Nat := [80, 77, 78, 74, 73, 81, 82, 75, 79, 72, 76, 0, 18, 9, 23, 52, 35, 45, 38, 40, 48, 41, 43, 49, 42, 44, 50, 37, 39, 47, 36, 46, 68, 14, 15, 57, 56, 55, 67, 53, 54, 69, 70, 27, 30, 28, 31, 71, 51, 29, 10, 11, 12, 13, 60, 62, 58, 61, 8, 22, 16, 17, 59, 32, 63, 66, 33, 2, 24, 3, 19, 20, 4, 65, 64, 7, 26, 6, 25, 1, 34, 5, 21].getD j 0
def cw9 (k : Nat) : Nat := [11, 79, 67, 69, 72, 81, 77, 75, 58, 13, 50, 51, 52, 53, 33, 34, 60, 61, 12, 70, 71, 82, 59, 14, 68, 78, 76, 43, 45, 49, 44, 46, 63, 66, 80, 16, 30, 27, 18, 28, 19, 21, 24, 22, 25, 17, 31, 29, 20, 23, 26, 48, 15, 39, 40, 37, 36, 35, 56, 62, 54, 57, 55, 64, 74, 73, 65, 38, 32, 41, 42, 47, 9, 4, 3, 7, 10, 1, 2, 8, 0, 5, 6].getD k 0
theorem mw_lt : ∀ j, j < 83 → mw j < 83 ∧ cw9 (mw j) = j := by decide +kernel
theorem cw_lt : ∀ k, k < 83 → cw9 k < 83 ∧ mw (cw9 k) = k := by decide +kernel
theorem stm_pk : ∀ k, k < 83 → mm_stm k = pk9 (spl9 (cw9 k)) ∧ (spl9 (cw9 k)).length < 9 ∧ (spl9 (cw9 k)).all (fun b => decide (0 < b ∧ b < 128)) = true := by decide +kernel
theorem spl9_pos : ∀ j, j < 83 → 0 < (spl9 j).length := by decide +kernel
theorem pk9_inj {w v : List Nat} (hw : ∀ b ∈ w, 0 < b ∧ b < 128) (hv : ∀ b ∈ v, 0 < b ∧ b < 128) (lv : v.length < 9) (l0 : 0 < v.length) (h : pk9 w = pk9 v) : w = v := by
  unfold pk9 at h
  rw [if_neg (show ¬ 9 ≤ v.length by omega)] at h
  have hvl := pkN_lt v.length v rfl (fun b hb => by have := hv b hb; omega)
  have hp : (256 : Nat) ^ v.length ≤ 256 ^ 8 := Nat.pow_le_pow_right (by decide) (by omega)
  by_cases h9 : 9 ≤ w.length
  · rw [if_pos h9] at h
    have e : Int64.ofNat 0 = Int64.ofNat (pkN v) := h
    have h0 := i64_inj (by omega) (by omega) e
    exfalso
    rcases List.eq_nil_or_concat v with rfl | ⟨r, b, rfl⟩
    · simp at l0
    · have hb := hv b (by simp)
      rw [List.concat_eq_append, pkN_snoc] at h0
      omega
  · rw [if_neg h9] at h
    have hwl := pkN_lt w.length w rfl (fun b hb => by have := hw b hb; omega)
    have hp2 : (256 : Nat) ^ w.length ≤ 256 ^ 8 := Nat.pow_le_pow_right (by decide) (by omega)
    exact pkN_inj (fun b hb => by have := hw b hb; omega) (fun b hb => by have := hv b hb; omega) (i64_inj (by omega) (by omega) h)
theorem nb_bt (hn : NM B z s l) : ∀ b ∈ nb B s l, 0 < b ∧ b < 128 := by
  intro b hb
  simp only [nb, List.mem_map, List.mem_range] at hb
  obtain ⟨i, hi, rfl⟩ := hb
  exact isN_lt (hn.2 i hi)
theorem nn_pred (k : Nat) : nn (k + 1) - 1 = nn k := by
  have : (1 : Int32) = nn 1 := rfl
  rw [this, nn_sub (by omega)]; rfl
theorem nn_m (k : Nat) : nn k + -1 = nn k - 1 := by rw [Int32.sub_eq_add_neg]
theorem m_wordF {P : Int64} (hf : f136 m (nn s) (nn l) = some P) : ∀ (k u : Nat), k ≤ 83 → k < u → (∀ i, i < k → ¬ mm_stm i = P) → f135_24_6 u m (nn s) (nn l) (nn k - 1) = some (-1) := by
  intro k
  induction k with
  | zero =>
    intro u h1 h2 h3
    have eu : u = (u - 1) + 1 := by omega
    rw [eu, f135_24_6, if_pos (by decide)]
    rfl
  | succ k ih =>
    intro u h1 h2 h3
    have eu : u = (u - 1) + 1 := by omega
    rw [eu, f135_24_6, nn_pred, if_neg (nn_neg (by omega)), if_pos ((nn_ib (by omega)).mpr (by omega)), hf, Option.bind_some, nn_tn (by omega), if_neg (fun hh => h3 k (by omega) (lg_eq.mp hh)), nn_m, ih (u - 1) (by omega) (by omega) (fun i hi => h3 i (by omega))]
theorem m_wordT {P : Int64} (hf : f136 m (nn s) (nn l) = some P) {j : Nat} (hj : mm_stm j = P) : ∀ (d k u : Nat), k - (j + 1) = d → k ≤ 83 → j < k → k < u → (∀ i, j < i → i < k → ¬ mm_stm i = P) → f135_24_6 u m (nn s) (nn l) (nn k - 1) = some (nn j) := by
  intro d
  induction d with
  | zero =>
    intro k u hd h1 h2 h3 h4
    have eu : u = (u - 1) + 1 := by omega
    have ek : k = j + 1 := by omega
    subst ek
    rw [eu, f135_24_6, nn_pred, if_neg (nn_neg (by omega)), if_pos ((nn_ib (by omega)).mpr (by omega)), hf, Option.bind_some, nn_tn (by omega), if_pos (lg_eq.mpr hj)]
  | succ d ih =>
    intro k u hd h1 h2 h3 h4
    have eu : u = (u - 1) + 1 := by omega
    obtain ⟨k, rfl⟩ : ∃ q, k = q + 1 := ⟨k - 1, by omega⟩
    rw [eu, f135_24_6, nn_pred, if_neg (nn_neg (by omega)), if_pos ((nn_ib (by omega)).mpr (by omega)), hf, Option.bind_some, nn_tn (by omega), if_neg (fun hh => h4 k (by omega) (by omega) (lg_eq.mp hh)), nn_m, ih k (u - 1) (by omega) (by omega) (by omega) (by omega) (fun i hi hi2 => h4 i hi (by omega))]
theorem stm_ne : ∀ i, i < 83 → ∀ j, j < 83 → mm_stm i = mm_stm j → i = j := by decide +kernel
/-- the reference finds the same statement -/
theorem m_stm (hz : z ≤ 65536) (hW : ∀ i, i < z → b8 (m.2 4 i) = B i) (hB : ∀ i, B i < 256) (hn : NM B z s l) : f135_24 m (nn s) (nn l) = some (match stOf (nb B s l) with | some j => nn (mw j) | none => -1) := by
  have hf := m_pack (m := m) hz hW hB hn.1
  have hb := nb_bt hn
  have e83 : Int32.ofNat 83 - 1 = nn 83 - 1 := rfl
  unfold f135_24
  rw [e83]
  cases hs : stOf (nb B s l) with
  | none =>
    refine m_wordF hf 83 mm_U (by omega) (by show 83 < 200000; omega) (fun i hi h => ?_)
    have h2 := stm_pk i hi
    have h3 := cw_lt i hi
    have hv : ∀ b ∈ spl9 (cw9 i), 0 < b ∧ b < 128 := fun b hb => by simpa using List.all_eq_true.mp h2.2.2 b hb
    have := pk9_inj hb hv h2.2.1 (spl9_pos _ h3.1) (by rw [← h, h2.1])
    rw [this, stOf_all _ h3.1] at hs
    cases hs
  | some j =>
    obtain ⟨h1, h2⟩ := stOf_some hs
    have h3 := mw_lt j h2
    have h4 := stm_pk (mw j) h3.1
    rw [h3.2] at h4
    have hP : mm_stm (mw j) = pk9 (nb B s l) := by rw [h4.1, h1]
    exact m_wordT hf hP (83 - (mw j + 1)) 83 mm_U rfl (by omega) h3.1 (by show 83 < 200000; omega) (fun i h5 h6 h7 => by
      have := stm_ne i h6 (mw j) h3.1 (by rw [h7, hP])
      omega)
end MW
