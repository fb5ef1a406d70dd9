/-! Entries: names around, terms of six characters and more. -/
theorem j1R_24 : lnf true false j1R fr1 fg1 1 2 3 2 2 2 2 887 24 26 6 20 = true := by decide +kernel
theorem j1G_24 : lnf true false j1G frq fgq 0 1 1 1 3 2 1 597 24 26 6 20 = true := by decide +kernel
theorem j1R_26 : lnf true false j1R fr1 fg1 1 2 3 2 2 2 2 887 26 28 6 20 = true := by decide +kernel
theorem j1G_26 : lnf true false j1G frq fgq 0 1 1 1 3 2 1 597 26 28 6 20 = true := by decide +kernel
