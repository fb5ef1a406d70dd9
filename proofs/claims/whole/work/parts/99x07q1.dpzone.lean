/-! THE ZONE, by the table: the checks. -/
theorem lnq_d25 : lnd false lnq frq fgq 0 1 1 1 3 2 1 1 597 25 26 0 16 = true := by decide +kernel
theorem lnq_d26 : lnd false lnq frq fgq 0 1 1 1 3 2 1 1 597 26 27 0 16 = true := by decide +kernel
theorem lnq_d27 : lnd false lnq frq fgq 0 1 1 1 3 2 1 1 597 27 28 0 16 = true := by decide +kernel
theorem lnq_d28 : lnd false lnq frq fgq 0 1 1 1 3 2 1 1 597 28 29 0 16 = true := by decide +kernel
theorem lnq_d29 : lnd false lnq frq fgq 0 1 1 1 3 2 1 1 597 29 30 0 16 = true := by decide +kernel
