/-! THE ZONE for terms with choices under operations: contexts. -/
theorem luq_a0 : lnu luq xrq fgq fxq 0 1 1 false 0 10 = true := by decide +kernel
theorem luq_a10 : lnu luq xrq fgq fxq 0 1 1 false 10 16 = true := by decide +kernel
theorem luq_a16 : lnu luq xrq fgq fxq 0 1 1 false 16 39 = true := by decide +kernel
theorem luq_b0 : lnu luq xrq fgq fxq 0 1 1 true 0 10 = true := by decide +kernel
theorem luq_b10 : lnu luq xrq fgq fxq 0 1 1 true 10 16 = true := by decide +kernel
theorem luq_b16 : lnu luq xrq fgq fxq 0 1 1 true 16 39 = true := by decide +kernel
