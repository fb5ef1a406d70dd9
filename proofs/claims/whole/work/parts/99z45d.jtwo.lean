/-! Entries: names around, terms of six characters and more. -/
theorem j1R_28 : lnf true false j1R fr1 fg1 1 2 3 2 2 2 2 887 28 32 6 20 = true := by decide +kernel
theorem j1G_28 : lnf true false j1G frq fgq 0 1 1 1 3 2 1 597 28 32 6 20 = true := by decide +kernel
theorem j1R_32 : lnf true false j1R fr1 fg1 1 2 3 2 2 2 2 887 32 48 6 20 = true := by decide +kernel
theorem j1G_32 : lnf true false j1G frq fgq 0 1 1 1 3 2 1 597 32 48 6 20 = true := by decide +kernel
