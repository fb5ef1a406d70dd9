/-! THE ZONE: contexts. -/
theorem lnq_b2 : lna lnq xrq fgq fxq 0 1 1 true 16 39 = true := by decide +kernel
