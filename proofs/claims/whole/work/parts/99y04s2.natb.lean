/-! BY NATURE, the checks. -/
theorem nb1_d30 : lnd false nb1 fr1 fg1 1 2 3 2 2 2 2 2 887 30 36 6 16 = true := by decide +kernel
theorem nb1_d36 : lnd false nb1 fr1 fg1 1 2 3 2 2 2 2 2 887 36 48 6 16 = true := by decide +kernel
