/-! THE ZONE, by the table: the checks. -/
theorem ln1_d20 : lnd false ln1 fr1 fg1 1 2 3 2 2 2 2 2 830 20 21 0 16 = true := by decide +kernel
theorem ln1_d21 : lnd false ln1 fr1 fg1 1 2 3 2 2 2 2 2 830 21 22 0 16 = true := by decide +kernel
theorem ln1_d22 : lnd false ln1 fr1 fg1 1 2 3 2 2 2 2 2 830 22 23 0 16 = true := by decide +kernel
theorem ln1_d23 : lnd false ln1 fr1 fg1 1 2 3 2 2 2 2 2 830 23 24 0 16 = true := by decide +kernel
theorem ln1_d24 : lnd false ln1 fr1 fg1 1 2 3 2 2 2 2 2 830 24 25 0 16 = true := by decide +kernel
