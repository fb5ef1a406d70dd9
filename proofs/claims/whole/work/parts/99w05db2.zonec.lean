/-! THE ZONE: contexts. -/
theorem ln1_b2 : lna ln1 xr1 fg1 fx1 1 3 2 true 16 39 = true := by decide +kernel
