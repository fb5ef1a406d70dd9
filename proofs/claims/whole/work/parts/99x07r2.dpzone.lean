/-! THE ZONE, by the table: the checks. -/
theorem ln1_d30 : lnd false ln1 fr1 fg1 1 2 3 2 2 2 2 2 830 30 36 0 16 = true := by decide +kernel
theorem ln1_d36 : lnd false ln1 fr1 fg1 1 2 3 2 2 2 2 2 830 36 48 0 16 = true := by decide +kernel
