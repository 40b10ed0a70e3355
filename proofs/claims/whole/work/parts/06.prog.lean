def ab_prog : List (ab_M × List ab_I) := ab_pr0 ++ (ab_pr1 ++ (ab_pr2 ++ (ab_pr3 ++ (ab_pr4 ++ (ab_pr5 ++ (ab_pr6 ++ (ab_pr7 ++ (ab_pr8 ++ (ab_pr9 ++ (ab_pr10 ++ (ab_pr11 ++ (ab_pr12 ++ (ab_pr13 ++ (ab_pr14 ++ (ab_pr15)))))))))))))))
theorem ab_prog_ok : ab_prog.all ab_mok = true := by
  simp only [ab_prog, List.all_append, ab_pr0_ok, ab_pr1_ok, ab_pr2_ok, ab_pr3_ok, ab_pr4_ok, ab_pr5_ok, ab_pr6_ok, ab_pr7_ok, ab_pr8_ok, ab_pr9_ok, ab_pr10_ok, ab_pr11_ok, ab_pr12_ok, ab_pr13_ok, ab_pr14_ok, ab_pr15_ok, Bool.and_self]
