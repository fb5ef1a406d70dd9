/-! THE ZONE: contexts. -/
theorem lnq_a1 : lna lnq xrq fgq fxq 0 1 1 false 10 16 = true := by decide +kernel
