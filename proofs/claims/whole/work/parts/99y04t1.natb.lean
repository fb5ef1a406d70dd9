/-! BY NATURE, the checks. -/
theorem nbq_d25 : lnd false nbq frq fgq 0 1 1 1 3 2 1 1 597 25 26 6 16 = true := by decide +kernel
theorem nbq_d26 : lnd false nbq frq fgq 0 1 1 1 3 2 1 1 597 26 27 6 16 = true := by decide +kernel
theorem nbq_d27 : lnd false nbq frq fgq 0 1 1 1 3 2 1 1 597 27 28 6 16 = true := by decide +kernel
theorem nbq_d28 : lnd false nbq frq fgq 0 1 1 1 3 2 1 1 597 28 29 6 16 = true := by decide +kernel
theorem nbq_d29 : lnd false nbq frq fgq 0 1 1 1 3 2 1 1 597 29 30 6 16 = true := by decide +kernel
