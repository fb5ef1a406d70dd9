/-! NUMBERS: goals. -/
theorem jwq_ok : jwc jwq uwq ppq frq fgq fxq 0 1 = true := by decide +kernel
theorem jwq_a : jwa jwq xrq fgq fxq 3 = true := by decide +kernel
