/-! THE ZONE, by the table: the checks. -/
theorem lnq_d30 : lnd false lnq frq fgq 0 1 1 1 3 2 1 1 597 30 36 0 16 = true := by decide +kernel
theorem lnq_d36 : lnd false lnq frq fgq 0 1 1 1 3 2 1 1 597 36 48 0 16 = true := by decide +kernel
