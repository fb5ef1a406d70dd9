/-! Entries: names around, terms of six characters and more. -/
theorem j1R_22 : lnf true false j1R fr1 fg1 1 2 3 2 2 2 2 887 22 23 6 20 = true := by decide +kernel
theorem j1G_22 : lnf true false j1G frq fgq 0 1 1 1 3 2 1 597 22 23 6 20 = true := by decide +kernel
theorem j1R_23 : lnf true false j1R fr1 fg1 1 2 3 2 2 2 2 887 23 24 6 20 = true := by decide +kernel
theorem j1G_23 : lnf true false j1G frq fgq 0 1 1 1 3 2 1 597 23 24 6 20 = true := by decide +kernel
