/-! THE ZONE: contexts with other schemes. -/
theorem lm1_b : lma lm1 xr1 fg1 fx1 1 3 2 true = true := by decide +kernel
theorem lmq_b : lma lmq xrq fgq fxq 0 1 1 true = true := by decide +kernel
