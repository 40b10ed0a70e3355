theorem p119 : ab_prog[119]? = some (ab_m119, ab_c119) := rfl
theorem p118 : ab_prog[118]? = some (ab_m118, ab_c118) := rfl
def f119 (G : Nat → Int32) (B : Nat → Nat → Int32) (k : Int32) : Option Int32 := if G 17 ≤ G 18 + k then some 0 else if ib (G 18 + k) 65536 then some (B 4 (G 18 + k).toNatClampNeg &&& 255) else none
theorem t119 (d : Nat) {n : Nat} (hn : 42 ≤ n) (G : Nat → Int32) (B : Nat → Nat → Int32) (F0 : Nat → ab_C) (k v : Int32) (h : f119 G B k = some v) : ab_Rn d 119 0 [(0, .ref 22), (1, .int k)] [] (ab_hl n (mm_F G B F0)) (.inl (some (.int v))) (ab_hl n (mm_F G B F0)) := by
  unfold f119 at h
  refine r_nx p119 rfl rfl ?_
  refine r_getf p119 rfl (by omega) rfl (by decide) rfl ?_
  refine r_nx p119 rfl rfl ?_
  refine r_nx p119 rfl rfl ?_
  refine r_nx p119 rfl rfl ?_
  refine r_getf p119 rfl (by omega) rfl (by decide) rfl ?_
  refine r_ic_ge p119 rfl (fun c => ?_) (fun c => ?_)
  · rw [if_pos c] at h
    cases h
    refine r_nx p119 rfl rfl ?_
    exact r_ret p119 rfl rfl rfl
  · rw [if_neg c] at h
    by_cases c2 : ib (G 18 + k) 65536
    · rw [if_pos c2] at h
      cases h
      refine r_nx p119 rfl rfl ?_
      refine r_getf p119 rfl (by omega) rfl (by decide) rfl ?_
      refine r_nx p119 rfl rfl ?_
      refine r_getf p119 rfl (by omega) rfl (by decide) rfl ?_
      refine r_nx p119 rfl rfl ?_
      refine r_nx p119 rfl rfl ?_
      refine r_bald p119 rfl (by omega) rfl c2 ?_
      refine r_nx p119 rfl rfl ?_
      refine r_nx p119 rfl rfl ?_
      refine r_nx p119 rfl rfl ?_
      exact r_ret p119 rfl rfl rfl
    · rw [if_neg c2] at h
      cases h
