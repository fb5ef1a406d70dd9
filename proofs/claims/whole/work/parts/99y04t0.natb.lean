/-! BY NATURE, the checks. -/
theorem nbq_d20 : lnd false nbq frq fgq 0 1 1 1 3 2 1 1 597 20 21 6 16 = true := by decide +kernel
theorem nbq_d21 : lnd false nbq frq fgq 0 1 1 1 3 2 1 1 597 21 22 6 16 = true := by decide +kernel
theorem nbq_d22 : lnd false nbq frq fgq 0 1 1 1 3 2 1 1 597 22 23 6 16 = true := by decide +kernel
theorem nbq_d23 : lnd false nbq frq fgq 0 1 1 1 3 2 1 1 597 23 24 6 16 = true := by decide +kernel
theorem nbq_d24 : lnd false nbq frq fgq 0 1 1 1 3 2 1 1 597 24 25 6 16 = true := by decide +kernel
