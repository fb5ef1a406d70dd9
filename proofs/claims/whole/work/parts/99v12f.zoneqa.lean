/-! THE ZONE: contexts with one scheme, goals. -/
theorem lmq_a : lma lmq xrq fgq fxq 0 1 1 false = true := by decide +kernel
