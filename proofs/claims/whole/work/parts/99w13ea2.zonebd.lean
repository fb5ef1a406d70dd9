/-! CONTEXTS. -/
theorem lbq_a2 : lba lbq xrq fgq fxq 0 1 false 13 20 = true := by decide +kernel
