/-! NUMBERS. -/
theorem lbq_ok2 : lbc lbq ppq frq fgq fxq 0 597 41 48 = true := by decide +kernel
