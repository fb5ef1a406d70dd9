/-! NUMBERS. -/
theorem lbq_ok0 : lbc lbq ppq frq fgq fxq 0 597 0 34 = true := by decide +kernel
