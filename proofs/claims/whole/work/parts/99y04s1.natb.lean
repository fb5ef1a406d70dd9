/-! BY NATURE, the checks. -/
theorem nb1_d25 : lnd false nb1 fr1 fg1 1 2 3 2 2 2 2 2 887 25 26 6 16 = true := by decide +kernel
theorem nb1_d26 : lnd false nb1 fr1 fg1 1 2 3 2 2 2 2 2 887 26 27 6 16 = true := by decide +kernel
theorem nb1_d27 : lnd false nb1 fr1 fg1 1 2 3 2 2 2 2 2 887 27 28 6 16 = true := by decide +kernel
theorem nb1_d28 : lnd false nb1 fr1 fg1 1 2 3 2 2 2 2 2 887 28 29 6 16 = true := by decide +kernel
theorem nb1_d29 : lnd false nb1 fr1 fg1 1 2 3 2 2 2 2 2 887 29 30 6 16 = true := by decide +kernel
