/-! BY NATURE, the checks. -/
theorem ncq_d30 : lnd true ncq frq fgq 0 1 1 1 3 2 1 1 597 30 36 6 16 = true := by decide +kernel
theorem ncq_d36 : lnd true ncq frq fgq 0 1 1 1 3 2 1 1 597 36 48 6 16 = true := by decide +kernel
