/-! NUMBERS. -/
theorem lbq_ok1 : lbc lbq ppq frq fgq fxq 0 597 34 41 = true := by decide +kernel
