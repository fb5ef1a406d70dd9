/-! CONTEXTS. -/
theorem lb1_a2 : lba lb1 xr1 fg1 fx1 1 3 false 13 20 = true := by decide +kernel
