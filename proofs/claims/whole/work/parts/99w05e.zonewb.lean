/-! THE ZONE: contexts, goals. -/
theorem lnq_a : lna lnq xrq fgq fxq 0 1 1 false = true := by decide +kernel
theorem lnq_b : lna lnq xrq fgq fxq 0 1 1 true = true := by decide +kernel
