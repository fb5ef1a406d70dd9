/-! No names around, small contexts: the longest terms. -/
theorem j2G_c25 : lnf true true j2G frq fgq 0 1 1 1 3 2 1 597 25 26 15 17 = true := by decide +kernel
theorem j2G_c26 : lnf true true j2G frq fgq 0 1 1 1 3 2 1 597 26 27 14 17 = true := by decide +kernel
theorem j2G_c27 : lnf true true j2G frq fgq 0 1 1 1 3 2 1 597 27 28 14 16 = true := by decide +kernel
theorem j2G_c28 : lnf true true j2G frq fgq 0 1 1 1 3 2 1 597 28 29 13 16 = true := by decide +kernel
theorem j2G_c29 : lnf true true j2G frq fgq 0 1 1 1 3 2 1 597 29 30 13 15 = true := by decide +kernel
