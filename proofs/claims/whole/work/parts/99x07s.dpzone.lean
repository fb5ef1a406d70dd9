/-! THE ZONE, by the table: long terms. -/
theorem ln1_l20_16 : lnd false ln1 fr1 fg1 1 2 3 2 2 2 2 2 830 20 21 16 17 = true := by decide +kernel
theorem ln1_l20_17 : lnd false ln1 fr1 fg1 1 2 3 2 2 2 2 2 830 20 21 17 18 = true := by decide +kernel
theorem ln1_l20_18 : lnd false ln1 fr1 fg1 1 2 3 2 2 2 2 2 830 20 21 18 19 = true := by decide +kernel
theorem ln1_l20_19 : lnd false ln1 fr1 fg1 1 2 3 2 2 2 2 2 830 20 21 19 20 = true := by decide +kernel
theorem ln1_l21_16 : lnd false ln1 fr1 fg1 1 2 3 2 2 2 2 2 830 21 22 16 17 = true := by decide +kernel
theorem ln1_l21_17 : lnd false ln1 fr1 fg1 1 2 3 2 2 2 2 2 830 21 22 17 18 = true := by decide +kernel
theorem ln1_l21_18 : lnd false ln1 fr1 fg1 1 2 3 2 2 2 2 2 830 21 22 18 19 = true := by decide +kernel
theorem ln1_l22_16 : lnd false ln1 fr1 fg1 1 2 3 2 2 2 2 2 830 22 23 16 17 = true := by decide +kernel
theorem ln1_l22_17 : lnd false ln1 fr1 fg1 1 2 3 2 2 2 2 2 830 22 23 17 18 = true := by decide +kernel
theorem ln1_l22_18 : lnd false ln1 fr1 fg1 1 2 3 2 2 2 2 2 830 22 23 18 19 = true := by decide +kernel
theorem ln1_l23_16 : lnd false ln1 fr1 fg1 1 2 3 2 2 2 2 2 830 23 24 16 17 = true := by decide +kernel
theorem ln1_l23_17 : lnd false ln1 fr1 fg1 1 2 3 2 2 2 2 2 830 23 24 17 18 = true := by decide +kernel
theorem ln1_l24_16 : lnd false ln1 fr1 fg1 1 2 3 2 2 2 2 2 830 24 25 16 17 = true := by decide +kernel
theorem ln1_l24_17 : lnd false ln1 fr1 fg1 1 2 3 2 2 2 2 2 830 24 25 17 18 = true := by decide +kernel
theorem ln1_l25_16 : lnd false ln1 fr1 fg1 1 2 3 2 2 2 2 2 830 25 26 16 17 = true := by decide +kernel
theorem ln1_l26_16 : lnd false ln1 fr1 fg1 1 2 3 2 2 2 2 2 830 26 27 16 17 = true := by decide +kernel
