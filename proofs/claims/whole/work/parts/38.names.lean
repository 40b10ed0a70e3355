/-! NAMES in the text: their bytes as a list; the class's statementNamed. -/
theorem i8_ex (y : Int8) : ∃ n : Nat, n < 256 ∧ y = Int8.ofNat n := by
  refine ⟨y.toBitVec.toNat, y.toBitVec.isLt, ?_⟩
  apply Int8.toBitVec_inj.mp
  show y.toBitVec = BitVec.ofNat 8 _
  rw [BitVec.ofNat_toNat, BitVec.setWidth_eq]
/-- a small byte is its number -/
theorem byte_nn {x : Int32} (h : x.toInt8.toInt32 = x) (hb : b8 x < 128) : x = nn (b8 x) := by
  obtain ⟨n, hn, e⟩ := i8_ex x.toInt8
  have key : ∀ n : Nat, n < 256 → b8 ((Int8.ofNat n).toInt32) < 128 → (Int8.ofNat n).toInt32 = nn (b8 ((Int8.ofNat n).toInt32)) := by decide +kernel
  have := key n hn
  rw [← e, h] at this
  exact this hb
def nb (B : Nat → Nat) (s l : Nat) : List Nat := (List.range l).map (fun i => B (s + i))
theorem nb_len (B : Nat → Nat) (s l : Nat) : (nb B s l).length = l := by simp [nb]
theorem nb_succ (B : Nat → Nat) (s l : Nat) : nb B s (l + 1) = B s :: nb B (s + 1) l := by
  unfold nb
  rw [List.range_succ_eq_map, List.map_cons, List.map_map, Nat.add_zero]
  congr 1
  apply List.map_congr_left
  intro i _
  show B (s + (i + 1)) = B (s + 1 + i)
  congr 1
  omega
/-- a name stands there -/
def NM (B : Nat → Nat) (z s l : Nat) : Prop := s + l ≤ z ∧ ∀ i, i < l → isN (B (s + i)) = true
theorem isN_lt {b : Nat} (h : isN b = true) : 0 < b ∧ b < 128 := by
  unfold isN isB isD at h
  simp only [Bool.or_eq_true, decide_eq_true_eq] at h
  omega
def lcmp : List Nat → List Nat → Int
  | [], [] => 0
  | [], _ :: _ => -1
  | _ :: _, [] => 1
  | a :: r, b :: q => if a = b then lcmp r q else (a : Int) - (b : Int)
theorem lcmp_eq : ∀ (x y : List Nat), lcmp x y = 0 → x = y := by
  intro x
  induction x with
  | nil => intro y h; cases y with
    | nil => rfl
    | cons b q => simp [lcmp] at h
  | cons a r ih => intro y h; cases y with
    | nil => simp [lcmp] at h
    | cons b q =>
      rw [lcmp] at h
      by_cases e : a = b
      · rw [if_pos e] at h; rw [e, ih q h]
      · rw [if_neg e] at h; omega
theorem lcmp_self : ∀ x : List Nat, lcmp x x = 0 := by
  intro x
  induction x with
  | nil => rfl
  | cons a r ih => rw [lcmp, if_pos rfl, ih]
def sn (k : Nat) : List Nat := (ab_strs.getD k []).map (fun b => b.toNatClampNeg)
theorem sn_ok : ab_strs.all (fun s => s.all (fun b => decide (b = nn b.toNatClampNeg ∧ b.toNatClampNeg < 128))) = true := by decide +kernel
theorem sn_at {k i : Nat} (hk : k < 106) (hi : i < sl k) : (ab_strs.getD k []).getD i 0 = nn ((sn k).getD i 0) ∧ (sn k).getD i 0 < 128 := by
  have h1 := List.mem_of_getElem? (st_at hk)
  have h2 := List.all_eq_true.mp sn_ok _ h1
  have h3 := List.all_eq_true.mp h2 _ (getD_mem (show i < (ab_strs.getD k []).length from hi))
  simp only [decide_eq_true_eq] at h3
  have e : (sn k).getD i 0 = ((ab_strs.getD k []).getD i 0).toNatClampNeg := by
    unfold sn
    have hi : i < (ab_strs.getD k []).length := hi
    generalize ab_strs.getD k [] = q at hi
    rw [List.getD_eq_getElem?_getD, List.getD_eq_getElem?_getD, List.getElem?_map, List.getElem?_eq_getElem hi]
    rfl
  rw [e]
  exact ⟨h3.1, h3.2⟩
theorem sn_len (k : Nat) : (sn k).length = sl k := by unfold sn sl; rw [List.length_map]
theorem nn_ofInt {x : Int32} {i : Int} (h : x.toInt = i) : x = Int32.ofInt i := by rw [← h, Int32.ofInt_toInt]
theorem nn_diff {a b : Nat} (ha : a < 256) (hb : b < 256) : nn a - nn b = Int32.ofInt ((a : Int) - (b : Int)) := by
  apply nn_ofInt
  rw [Int32.toInt_sub, nn_int (by omega), nn_int (by omega), Int.bmod_eq_of_le (by omega) (by omega)]
section CN
variable {c : cS} {B : Nat → Nat} {a z s l : Nat}
/-- the text's bytes are bytes -/
def BY (c : cS) : Prop := ∀ i, ((c.2.2.1 (c.2.1 11 7)).2.2 i).toInt8.toInt32 = (c.2.2.1 (c.2.1 11 7)).2.2 i
theorem c_cmp_end (hl : l < 100000) {k : Nat} (hk : k < 106) : f51_66 c (nn l) k = some (Int32.ofInt (if l < sl k then -1 else if l = sl k then 0 else 1)) := by
  have hs := (st_ok1 hk).1
  have hs : sl k < 1000 := hs
  unfold f51_66 f57
  rw [if_pos hk]
  by_cases h1 : l < sl k
  · rw [if_neg (fun hh => by have := (nn_le (by omega) (by omega)).mp hh; omega), if_pos h1]; rfl
  · rw [if_pos ((nn_le (by omega) (by omega)).mpr (by omega)), if_neg h1]
    by_cases h2 : l = sl k
    · rw [if_pos ((nn_eq (by omega) (by omega)).mpr h2), if_pos h2]; rfl
    · rw [if_neg (fun hh => h2 ((nn_eq (by omega) (by omega)).mp hh)), if_neg h2]; rfl
theorem lcmp_pre : ∀ (x y : List Nat) (i : Nat), x.take i = y.take i → i ≤ x.length → i ≤ y.length → lcmp x y = lcmp (x.drop i) (y.drop i) := by
  intro x
  induction x with
  | nil => intro y i h h1 h2; cases i with
    | zero => rfl
    | succ i => simp at h1
  | cons a r ih => intro y i h h1 h2; cases i with
    | zero => rfl
    | succ i => cases y with
      | nil => simp at h2
      | cons b q =>
        simp only [List.take_succ_cons, List.cons.injEq] at h
        rw [lcmp, if_pos h.1, List.drop_succ_cons, List.drop_succ_cons]
        exact ih q i h.2 (by simpa using h1) (by simpa using h2)
theorem c_order (T : TC c B a z) (Y : BY c) (hn : NM B z s l) (hl : l < 100000) {k : Nat} (hk : k < 106) : ∀ (d i u : Nat), l - i = d → d < u → i ≤ l → i ≤ sl k → (nb B s l).take i = (sn k).take i → f51_3 u c (nn s) (nn l) k (nn i) = some (Int32.ofInt (lcmp (nb B s l) (sn k))) := by
  obtain ⟨h1, h2, h3, h4, h5, h6, h7, h8⟩ := T
  have hs : sl k < 1000 := (st_ok1 hk).1
  obtain ⟨n1, n2⟩ := hn
  intro d
  induction d with
  | zero =>
    intro i u hd hu hil hik ht
    have eu : u = (u - 1) + 1 := by omega
    have ei : i = l := by omega
    subst ei
    rw [eu, f51_3, if_pos ((nn_le (by omega) (by omega)).mpr (Nat.le_refl _)), c_cmp_end hl hk, lcmp_pre _ _ i ht (by rw [nb_len]; omega) (by rw [sn_len]; omega)]
    have e1 : (nb B s i).drop i = [] := List.drop_eq_nil_of_le (by rw [nb_len]; omega)
    rw [e1]
    by_cases q : i < sl k
    · rw [if_pos q]
      cases hq : (sn k).drop i with
      | nil => have := List.drop_eq_nil_iff.mp hq; rw [sn_len] at this; omega
      | cons y ys => rfl
    · rw [if_neg q, if_pos (by omega)]
      have : (sn k).drop i = [] := List.drop_eq_nil_of_le (by rw [sn_len]; omega)
      rw [this]; rfl
  | succ d ih =>
    intro i u hd hu hil hik ht
    have eu : u = (u - 1) + 1 := by omega
    have hp := lcmp_pre _ _ i ht (by rw [nb_len]; omega) (by rw [sn_len]; omega)
    rw [eu, f51_3, if_neg (fun hh => by have := (nn_le (by omega) (by omega)).mp hh; omega), if_pos hk]
    by_cases q : sl k ≤ i
    · rw [if_pos ((nn_le (by omega) (by omega)).mpr q), c_cmp_end hl hk, if_neg (by omega), if_neg (by omega), hp]
      have e2 : (sn k).drop i = [] := List.drop_eq_nil_of_le (by rw [sn_len]; omega)
      rw [e2]
      cases hq : (nb B s l).drop i with
      | nil => have := List.drop_eq_nil_iff.mp hq; rw [nb_len] at this; omega
      | cons y ys => rfl
    · have hsc := sn_at hk (show i < sl k by omega)
      have hb := n2 i (by omega)
      have hb2 := isN_lt hb
      have hW : (c.2.2.1 (c.2.1 11 7)).2.2 (s + i) = nn (B (s + i)) := by
        have e := h8 (s + i) (by omega)
        have := byte_nn (Y (s + i)) (by rw [e]; omega)
        rw [e] at this
        exact this
      have eb : (nb B s l).drop i = B (s + i) :: (nb B s l).drop (i + 1) := by
        have hi : i < (nb B s l).length := by rw [nb_len]; omega
        rw [List.drop_eq_getElem_cons hi]
        congr 1
        simp [nb]
      have es : (sn k).drop i = (sn k).getD i 0 :: (sn k).drop (i + 1) := by
        have hi : i < (sn k).length := by rw [sn_len]; omega
        rw [List.drop_eq_getElem_cons hi, List.getD_eq_getElem?_getD, List.getElem?_eq_getElem hi]
        rfl
      rw [if_neg (fun hh => q ((nn_le (by omega) (by omega)).mp hh)), if_neg (nn_neg (by omega)), if_pos h6, nn_add, if_neg (fun hh => by have := (nn_le (by omega) (by omega)).mp hh; omega), if_pos ⟨h6, (nn_ib (by omega)).mpr (by omega)⟩, if_pos ⟨hk, (nn_ib (by omega)).mpr (by omega)⟩]
      have ec : ce c (c.2.1 11 7) (nn (s + i)) = nn (B (s + i)) := by unfold ce; rw [nn_tn (by omega), hW]
      have ed : sc k (nn i) = nn ((sn k).getD i 0) := by unfold sc; rw [nn_tn (by omega)]; exact hsc.1
      rw [ec, ed, nn_diff (by omega) (by omega), hp, eb, es, lcmp]
      by_cases e : B (s + i) = (sn k).getD i 0
      · have : Int32.ofInt ((B (s + i) : Int) - ((sn k).getD i 0 : Nat)) = 0 := by rw [e, Int.sub_self]; rfl
        rw [if_pos this, if_pos e, nn_add1, ih (i + 1) (u - 1) (by omega) (by omega) (by omega) (by omega) ?_]
        · rw [lcmp_pre _ _ (i + 1) ?_ (by rw [nb_len]; omega) (by rw [sn_len]; omega)]
          rw [List.take_succ, List.take_succ, ht]
          congr 1
          have hi : i < (nb B s l).length := by rw [nb_len]; omega
          have hi2 : i < (sn k).length := by rw [sn_len]; omega
          rw [List.getElem?_eq_getElem hi, List.getElem?_eq_getElem hi2]
          have g1 : (nb B s l)[i] = B (s + i) := by simp [nb]
          have g2 : (sn k)[i] = (sn k).getD i 0 := by rw [List.getD_eq_getElem?_getD, List.getElem?_eq_getElem hi2]; rfl
          rw [g1, g2, e]
        · rw [List.take_succ, List.take_succ, ht]
          congr 1
          have hi : i < (nb B s l).length := by rw [nb_len]; omega
          have hi2 : i < (sn k).length := by rw [sn_len]; omega
          rw [List.getElem?_eq_getElem hi, List.getElem?_eq_getElem hi2]
          have g1 : (nb B s l)[i] = B (s + i) := by simp [nb]
          have g2 : (sn k)[i] = (sn k).getD i 0 := by rw [List.getD_eq_getElem?_getD, List.getElem?_eq_getElem hi2]; rfl
          rw [g1, g2, e]
      · have hsm := hsc.2
        have : ¬ Int32.ofInt ((B (s + i) : Int) - ((sn k).getD i 0 : Nat)) = 0 := by
          rw [← nn_diff (by omega) (by omega)]
          intro hh
          have h9 := congrArg Int32.toInt hh
          rw [Int32.toInt_sub, nn_int (by omega), nn_int (by omega), Int.bmod_eq_of_le (by omega) (by omega)] at h9
          have : (0 : Int32).toInt = 0 := rfl
          omega
        rw [if_neg this, if_neg e]
theorem c_cmp (T : TC c B a z) (Y : BY c) (hn : NM B z s l) (hl : l < 100000) {k : Nat} (hk : k < 106) : f51 c (nn s) (nn l) k = some (Int32.ofInt (lcmp (nb B s l) (sn k))) := by
  unfold f51
  exact c_order T Y hn hl hk l 0 mm_U (by omega) (by show l < 200000; omega) (by omega) (by omega) rfl
end CN
