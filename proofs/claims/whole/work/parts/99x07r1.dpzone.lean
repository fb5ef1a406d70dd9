/-! THE ZONE, by the table: the checks. -/
theorem ln1_d25 : lnd false ln1 fr1 fg1 1 2 3 2 2 2 2 2 830 25 26 0 16 = true := by decide +kernel
theorem ln1_d26 : lnd false ln1 fr1 fg1 1 2 3 2 2 2 2 2 830 26 27 0 16 = true := by decide +kernel
theorem ln1_d27 : lnd false ln1 fr1 fg1 1 2 3 2 2 2 2 2 830 27 28 0 16 = true := by decide +kernel
theorem ln1_d28 : lnd false ln1 fr1 fg1 1 2 3 2 2 2 2 2 830 28 29 0 16 = true := by decide +kernel
theorem ln1_d29 : lnd false ln1 fr1 fg1 1 2 3 2 2 2 2 2 830 29 30 0 16 = true := by decide +kernel
