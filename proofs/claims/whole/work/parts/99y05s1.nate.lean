/-! BY NATURE, the checks. -/
theorem ne1_d25_3 : lne true true ne1 fr1 fg1 1 2 3 2 2 2 2 2 887 25 26 3 16 = true := by decide +kernel
theorem ne1_d26_3 : lne true true ne1 fr1 fg1 1 2 3 2 2 2 2 2 887 26 27 3 16 = true := by decide +kernel
theorem ne1_d27_3 : lne true true ne1 fr1 fg1 1 2 3 2 2 2 2 2 887 27 28 3 16 = true := by decide +kernel
theorem ne1_d28_3 : lne true true ne1 fr1 fg1 1 2 3 2 2 2 2 2 887 28 29 3 16 = true := by decide +kernel
theorem ne1_d29_3 : lne true true ne1 fr1 fg1 1 2 3 2 2 2 2 2 887 29 30 3 16 = true := by decide +kernel
