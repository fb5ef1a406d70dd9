/-! THE ZONE, by the table: the checks. -/
theorem lnq_d20 : lnd false lnq frq fgq 0 1 1 1 3 2 1 1 597 20 21 0 16 = true := by decide +kernel
theorem lnq_d21 : lnd false lnq frq fgq 0 1 1 1 3 2 1 1 597 21 22 0 16 = true := by decide +kernel
theorem lnq_d22 : lnd false lnq frq fgq 0 1 1 1 3 2 1 1 597 22 23 0 16 = true := by decide +kernel
theorem lnq_d23 : lnd false lnq frq fgq 0 1 1 1 3 2 1 1 597 23 24 0 16 = true := by decide +kernel
theorem lnq_d24 : lnd false lnq frq fgq 0 1 1 1 3 2 1 1 597 24 25 0 16 = true := by decide +kernel
