/-! CONTEXTS. -/
theorem lb1_b0 : lba lb1 xr1 fg1 fx1 1 3 true 0 7 = true := by decide +kernel
