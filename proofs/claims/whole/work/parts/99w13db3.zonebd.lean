/-! CONTEXTS. -/
theorem lb1_b3 : lba lb1 xr1 fg1 fx1 1 3 true 20 37 = true := by decide +kernel
