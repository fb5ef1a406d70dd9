/-! BY NATURE, the checks. -/
theorem nc1_d25_6 : lne true false nc1 fr1 fg1 1 2 3 2 2 2 2 2 887 25 26 6 16 = true := by decide +kernel
theorem nc1_d26_6 : lne true false nc1 fr1 fg1 1 2 3 2 2 2 2 2 887 26 27 6 16 = true := by decide +kernel
theorem nc1_d27_6 : lne true false nc1 fr1 fg1 1 2 3 2 2 2 2 2 887 27 28 6 16 = true := by decide +kernel
theorem nc1_d28_6 : lne true false nc1 fr1 fg1 1 2 3 2 2 2 2 2 887 28 29 6 16 = true := by decide +kernel
theorem nc1_d29_6 : lne true false nc1 fr1 fg1 1 2 3 2 2 2 2 2 887 29 30 6 16 = true := by decide +kernel
