/-! THE ZONE: contexts with one scheme. -/
theorem lm1_a : lma lm1 xr1 fg1 fx1 1 3 2 false = true := by decide +kernel
