/-! BY NATURE, the checks. -/
theorem nc1_d20_6 : lne true false nc1 fr1 fg1 1 2 3 2 2 2 2 2 887 20 21 6 16 = true := by decide +kernel
theorem nc1_d21_6 : lne true false nc1 fr1 fg1 1 2 3 2 2 2 2 2 887 21 22 6 16 = true := by decide +kernel
theorem nc1_d22_6 : lne true false nc1 fr1 fg1 1 2 3 2 2 2 2 2 887 22 23 6 16 = true := by decide +kernel
theorem nc1_d23_6 : lne true false nc1 fr1 fg1 1 2 3 2 2 2 2 2 887 23 24 6 16 = true := by decide +kernel
theorem nc1_d24_6 : lne true false nc1 fr1 fg1 1 2 3 2 2 2 2 2 887 24 25 6 16 = true := by decide +kernel
