/-! CONTEXTS. -/
theorem lb1_a1 : lba lb1 xr1 fg1 fx1 1 3 false 7 13 = true := by decide +kernel
