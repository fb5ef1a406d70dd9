/-! BY NATURE, the checks. -/
theorem ncq_d25_6 : lne true false ncq frq fgq 0 1 1 1 3 2 1 1 597 25 26 6 16 = true := by decide +kernel
theorem ncq_d26_6 : lne true false ncq frq fgq 0 1 1 1 3 2 1 1 597 26 27 6 16 = true := by decide +kernel
theorem ncq_d27_6 : lne true false ncq frq fgq 0 1 1 1 3 2 1 1 597 27 28 6 16 = true := by decide +kernel
theorem ncq_d28_6 : lne true false ncq frq fgq 0 1 1 1 3 2 1 1 597 28 29 6 16 = true := by decide +kernel
theorem ncq_d29_6 : lne true false ncq frq fgq 0 1 1 1 3 2 1 1 597 29 30 6 16 = true := by decide +kernel
