/-! BY NATURE, the checks. -/
theorem ne1_d30_3 : lne true true ne1 fr1 fg1 1 2 3 2 2 2 2 2 887 30 36 3 16 = true := by decide +kernel
theorem ne1_d36_3 : lne true true ne1 fr1 fg1 1 2 3 2 2 2 2 2 887 36 48 3 16 = true := by decide +kernel
