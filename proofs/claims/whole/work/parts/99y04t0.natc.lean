/-! BY NATURE, the checks. -/
theorem ncq_d20_6 : lne true false ncq frq fgq 0 1 1 1 3 2 1 1 597 20 21 6 16 = true := by decide +kernel
theorem ncq_d21_6 : lne true false ncq frq fgq 0 1 1 1 3 2 1 1 597 21 22 6 16 = true := by decide +kernel
theorem ncq_d22_6 : lne true false ncq frq fgq 0 1 1 1 3 2 1 1 597 22 23 6 16 = true := by decide +kernel
theorem ncq_d23_6 : lne true false ncq frq fgq 0 1 1 1 3 2 1 1 597 23 24 6 16 = true := by decide +kernel
theorem ncq_d24_6 : lne true false ncq frq fgq 0 1 1 1 3 2 1 1 597 24 25 6 16 = true := by decide +kernel
