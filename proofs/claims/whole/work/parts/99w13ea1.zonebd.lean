/-! CONTEXTS. -/
theorem lbq_a1 : lba lbq xrq fgq fxq 0 1 false 7 13 = true := by decide +kernel
