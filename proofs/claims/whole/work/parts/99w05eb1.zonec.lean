/-! THE ZONE: contexts. -/
theorem lnq_b1 : lna lnq xrq fgq fxq 0 1 1 true 10 16 = true := by decide +kernel
