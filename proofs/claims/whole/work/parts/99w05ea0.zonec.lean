/-! THE ZONE: contexts. -/
theorem lnq_a0 : lna lnq xrq fgq fxq 0 1 1 false 0 10 = true := by decide +kernel
