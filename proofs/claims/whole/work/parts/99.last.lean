theorem ab_dummy : True := trivial
theorem i_vc : Claimed_1_1 ∧ Claimed_1_2 := sorry
