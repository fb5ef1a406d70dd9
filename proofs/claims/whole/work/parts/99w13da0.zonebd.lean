/-! CONTEXTS. -/
theorem lb1_a0 : lba lb1 xr1 fg1 fx1 1 3 false 0 7 = true := by decide +kernel
