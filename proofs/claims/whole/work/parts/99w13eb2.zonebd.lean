/-! CONTEXTS. -/
theorem lbq_b2 : lba lbq xrq fgq fxq 0 1 true 13 20 = true := by decide +kernel
