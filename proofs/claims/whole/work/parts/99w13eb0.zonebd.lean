/-! CONTEXTS. -/
theorem lbq_b0 : lba lbq xrq fgq fxq 0 1 true 0 7 = true := by decide +kernel
