/-! THE ZONE: goals. -/
theorem lmq_ok : lmc lmq ppq frq fxq 0 1 597 = true := by decide +kernel
