/-! No names around, small contexts: the longest terms. -/
theorem j2R_c25 : lnf true true j2R fr1 fg1 1 2 3 2 2 2 2 887 25 26 15 17 = true := by decide +kernel
theorem j2R_c26 : lnf true true j2R fr1 fg1 1 2 3 2 2 2 2 887 26 27 14 17 = true := by decide +kernel
theorem j2R_c27 : lnf true true j2R fr1 fg1 1 2 3 2 2 2 2 887 27 28 14 16 = true := by decide +kernel
theorem j2R_c28 : lnf true true j2R fr1 fg1 1 2 3 2 2 2 2 887 28 29 13 16 = true := by decide +kernel
theorem j2R_c29 : lnf true true j2R fr1 fg1 1 2 3 2 2 2 2 887 29 30 13 15 = true := by decide +kernel
