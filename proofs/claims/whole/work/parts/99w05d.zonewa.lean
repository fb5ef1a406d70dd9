/-! THE ZONE: contexts, rows. -/
theorem ln1_a : lna ln1 xr1 fg1 fx1 1 3 2 false = true := by decide +kernel
theorem ln1_b : lna ln1 xr1 fg1 fx1 1 3 2 true = true := by decide +kernel
