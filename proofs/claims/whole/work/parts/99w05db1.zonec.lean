/-! THE ZONE: contexts. -/
theorem ln1_b1 : lna ln1 xr1 fg1 fx1 1 3 2 true 10 16 = true := by decide +kernel
