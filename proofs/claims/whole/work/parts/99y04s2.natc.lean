/-! BY NATURE, the checks. -/
theorem nc1_d30_6 : lne true false nc1 fr1 fg1 1 2 3 2 2 2 2 2 887 30 36 6 16 = true := by decide +kernel
theorem nc1_d36_6 : lne true false nc1 fr1 fg1 1 2 3 2 2 2 2 2 887 36 48 6 16 = true := by decide +kernel
