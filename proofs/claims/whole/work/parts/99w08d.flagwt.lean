/-! NUMBERS: kind t. -/
theorem lgt1_ok : lnc lgt1 pp1 fr1 fg1 fx1 1 2 830 0 50 = true := by decide +kernel
theorem lgt1_a : lga lgt1 xht1 fg1 fx1 1 3 2 1 36 nxt = true := by decide +kernel
theorem lgt1_k : lnkb lgt1 = true := by decide +kernel
theorem lgtq_ok : lnc lgtq ppq frq fgq fxq 0 1 597 0 50 = true := by decide +kernel
theorem lgtq_a : lga lgtq xhtq fgq fxq 0 1 1 1 36 nxt = true := by decide +kernel
theorem lgtq_k : lnkb lgtq = true := by decide +kernel
