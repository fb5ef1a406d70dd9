/-! THE ZONE: contexts. -/
theorem lnq_b0 : lna lnq xrq fgq fxq 0 1 1 true 0 10 = true := by decide +kernel
