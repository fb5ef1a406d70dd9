/-! CONTEXTS. -/
theorem lb1_b2 : lba lb1 xr1 fg1 fx1 1 3 true 13 20 = true := by decide +kernel
