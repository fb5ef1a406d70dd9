/-! BY NATURE, the checks. -/
theorem nbq_d30 : lnd false nbq frq fgq 0 1 1 1 3 2 1 1 597 30 36 6 16 = true := by decide +kernel
theorem nbq_d36 : lnd false nbq frq fgq 0 1 1 1 3 2 1 1 597 36 48 6 16 = true := by decide +kernel
