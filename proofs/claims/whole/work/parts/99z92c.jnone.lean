/-! No names around, small contexts: the longest terms. -/
theorem j2R_c20 : lnf true true j2R fr1 fg1 1 2 3 2 2 2 2 887 20 21 17 20 = true := by decide +kernel
theorem j2R_c21 : lnf true true j2R fr1 fg1 1 2 3 2 2 2 2 887 21 22 17 19 = true := by decide +kernel
theorem j2R_c22 : lnf true true j2R fr1 fg1 1 2 3 2 2 2 2 887 22 23 16 19 = true := by decide +kernel
theorem j2R_c23 : lnf true true j2R fr1 fg1 1 2 3 2 2 2 2 887 23 24 16 18 = true := by decide +kernel
theorem j2R_c24 : lnf true true j2R fr1 fg1 1 2 3 2 2 2 2 887 24 25 15 18 = true := by decide +kernel
