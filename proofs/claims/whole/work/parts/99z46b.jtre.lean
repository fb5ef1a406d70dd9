/-! Entries: no names around, terms of eight characters and more. -/
theorem j2R_32 : lnf true true j2R fr1 fg1 1 2 3 2 2 2 2 887 32 36 8 20 = true := by decide +kernel
theorem j2G_32 : lnf true true j2G frq fgq 0 1 1 1 3 2 1 597 32 36 8 20 = true := by decide +kernel
