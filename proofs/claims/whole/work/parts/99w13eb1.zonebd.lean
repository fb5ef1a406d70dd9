/-! CONTEXTS. -/
theorem lbq_b1 : lba lbq xrq fgq fxq 0 1 true 7 13 = true := by decide +kernel
