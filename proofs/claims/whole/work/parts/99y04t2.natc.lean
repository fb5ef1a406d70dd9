/-! BY NATURE, the checks. -/
theorem ncq_d30_6 : lne true false ncq frq fgq 0 1 1 1 3 2 1 1 597 30 36 6 16 = true := by decide +kernel
theorem ncq_d36_6 : lne true false ncq frq fgq 0 1 1 1 3 2 1 1 597 36 48 6 16 = true := by decide +kernel
