/-! No names around, small contexts: the longest terms. -/
theorem j2G_c20 : lnf true true j2G frq fgq 0 1 1 1 3 2 1 597 20 21 17 20 = true := by decide +kernel
theorem j2G_c21 : lnf true true j2G frq fgq 0 1 1 1 3 2 1 597 21 22 17 19 = true := by decide +kernel
theorem j2G_c22 : lnf true true j2G frq fgq 0 1 1 1 3 2 1 597 22 23 16 19 = true := by decide +kernel
theorem j2G_c23 : lnf true true j2G frq fgq 0 1 1 1 3 2 1 597 23 24 16 18 = true := by decide +kernel
theorem j2G_c24 : lnf true true j2G frq fgq 0 1 1 1 3 2 1 597 24 25 15 18 = true := by decide +kernel
