/-! BY NATURE, the checks. -/
theorem neq_d20_3 : lne true true neq frq fgq 0 1 1 1 3 2 1 1 597 20 21 3 16 = true := by decide +kernel
theorem neq_d21_3 : lne true true neq frq fgq 0 1 1 1 3 2 1 1 597 21 22 3 16 = true := by decide +kernel
theorem neq_d22_3 : lne true true neq frq fgq 0 1 1 1 3 2 1 1 597 22 23 3 16 = true := by decide +kernel
theorem neq_d23_3 : lne true true neq frq fgq 0 1 1 1 3 2 1 1 597 23 24 3 16 = true := by decide +kernel
theorem neq_d24_3 : lne true true neq frq fgq 0 1 1 1 3 2 1 1 597 24 25 3 16 = true := by decide +kernel
