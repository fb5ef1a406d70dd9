/-! THE ZONE: contexts. -/
theorem ln1_a0 : lna ln1 xr1 fg1 fx1 1 3 2 false 0 10 = true := by decide +kernel
