/-! THE ZONE: goals. -/
theorem lnq_ok : lnc lnq ppq frq fgq fxq 0 1 597 0 48 = true := by decide +kernel
