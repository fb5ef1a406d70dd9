/-! THE ZONE: rows. -/
theorem lm1_ok : lmc lm1 pp1 fr1 fx1 1 2 830 = true := by decide +kernel
