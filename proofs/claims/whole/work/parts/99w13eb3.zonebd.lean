/-! CONTEXTS. -/
theorem lbq_b3 : lba lbq xrq fgq fxq 0 1 true 20 37 = true := by decide +kernel
