/-! Such entries, shorter contexts. -/
theorem i1R_28 : lnf true false i1R fr1 fg1 1 2 3 2 2 2 2 887 28 32 6 20 = true := by decide +kernel
theorem i1G_28 : lnf true false i1G frq fgq 0 1 1 1 3 2 1 597 28 32 6 20 = true := by decide +kernel
theorem i1R_26 : lnf true false i1R fr1 fg1 1 2 3 2 2 2 2 887 26 28 6 20 = true := by decide +kernel
theorem i1G_26 : lnf true false i1G frq fgq 0 1 1 1 3 2 1 597 26 28 6 20 = true := by decide +kernel
