/-! Entries: no names around, terms of eight characters and more. -/
theorem j2R_36 : lnf true true j2R fr1 fg1 1 2 3 2 2 2 2 887 36 48 8 20 = true := by decide +kernel
theorem j2G_36 : lnf true true j2G frq fgq 0 1 1 1 3 2 1 597 36 48 8 20 = true := by decide +kernel
