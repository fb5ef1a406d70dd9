/-! THE ZONE for terms with choices under operations: the checks. -/
theorem luq_d30 : lnd true luq frq fgq 0 1 1 1 3 2 1 1 597 30 36 6 16 = true := by decide +kernel
theorem luq_d36 : lnd true luq frq fgq 0 1 1 1 3 2 1 1 597 36 48 6 16 = true := by decide +kernel
