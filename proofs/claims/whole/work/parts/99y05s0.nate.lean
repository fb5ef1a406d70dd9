/-! BY NATURE, the checks. -/
theorem ne1_d20_3 : lne true true ne1 fr1 fg1 1 2 3 2 2 2 2 2 887 20 21 3 16 = true := by decide +kernel
theorem ne1_d21_3 : lne true true ne1 fr1 fg1 1 2 3 2 2 2 2 2 887 21 22 3 16 = true := by decide +kernel
theorem ne1_d22_3 : lne true true ne1 fr1 fg1 1 2 3 2 2 2 2 2 887 22 23 3 16 = true := by decide +kernel
theorem ne1_d23_3 : lne true true ne1 fr1 fg1 1 2 3 2 2 2 2 2 887 23 24 3 16 = true := by decide +kernel
theorem ne1_d24_3 : lne true true ne1 fr1 fg1 1 2 3 2 2 2 2 2 887 24 25 3 16 = true := by decide +kernel
