/-! THE ZONE for terms with choices under operations: the checks. -/
theorem lu1_d30 : lnd true lu1 fr1 fg1 1 2 3 2 2 2 2 2 830 30 36 6 16 = true := by decide +kernel
theorem lu1_d36 : lnd true lu1 fr1 fg1 1 2 3 2 2 2 2 2 830 36 48 6 16 = true := by decide +kernel
