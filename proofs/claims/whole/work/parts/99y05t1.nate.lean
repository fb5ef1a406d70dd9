/-! BY NATURE, the checks. -/
theorem neq_d25_3 : lne true true neq frq fgq 0 1 1 1 3 2 1 1 597 25 26 3 16 = true := by decide +kernel
theorem neq_d26_3 : lne true true neq frq fgq 0 1 1 1 3 2 1 1 597 26 27 3 16 = true := by decide +kernel
theorem neq_d27_3 : lne true true neq frq fgq 0 1 1 1 3 2 1 1 597 27 28 3 16 = true := by decide +kernel
theorem neq_d28_3 : lne true true neq frq fgq 0 1 1 1 3 2 1 1 597 28 29 3 16 = true := by decide +kernel
theorem neq_d29_3 : lne true true neq frq fgq 0 1 1 1 3 2 1 1 597 29 30 3 16 = true := by decide +kernel
