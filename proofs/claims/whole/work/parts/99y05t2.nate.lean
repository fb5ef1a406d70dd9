/-! BY NATURE, the checks. -/
theorem neq_d30_3 : lne true true neq frq fgq 0 1 1 1 3 2 1 1 597 30 36 3 16 = true := by decide +kernel
theorem neq_d36_3 : lne true true neq frq fgq 0 1 1 1 3 2 1 1 597 36 48 3 16 = true := by decide +kernel
