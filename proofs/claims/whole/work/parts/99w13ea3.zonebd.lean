/-! CONTEXTS. -/
theorem lbq_a3 : lba lbq xrq fgq fxq 0 1 false 20 37 = true := by decide +kernel
