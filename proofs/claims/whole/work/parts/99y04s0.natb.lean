/-! BY NATURE, the checks. -/
theorem nb1_d20 : lnd false nb1 fr1 fg1 1 2 3 2 2 2 2 2 887 20 21 6 16 = true := by decide +kernel
theorem nb1_d21 : lnd false nb1 fr1 fg1 1 2 3 2 2 2 2 2 887 21 22 6 16 = true := by decide +kernel
theorem nb1_d22 : lnd false nb1 fr1 fg1 1 2 3 2 2 2 2 2 887 22 23 6 16 = true := by decide +kernel
theorem nb1_d23 : lnd false nb1 fr1 fg1 1 2 3 2 2 2 2 2 887 23 24 6 16 = true := by decide +kernel
theorem nb1_d24 : lnd false nb1 fr1 fg1 1 2 3 2 2 2 2 2 887 24 25 6 16 = true := by decide +kernel
