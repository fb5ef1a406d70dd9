/-! CONTEXTS. -/
theorem lbq_a0 : lba lbq xrq fgq fxq 0 1 false 0 7 = true := by decide +kernel
