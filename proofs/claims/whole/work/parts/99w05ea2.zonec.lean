/-! THE ZONE: contexts. -/
theorem lnq_a2 : lna lnq xrq fgq fxq 0 1 1 false 16 39 = true := by decide +kernel
