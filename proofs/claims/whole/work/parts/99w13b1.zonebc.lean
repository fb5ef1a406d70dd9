/-! NUMBERS. -/
theorem lb1_ok1 : lbc lb1 pp1 fr1 fg1 fx1 1 830 34 41 = true := by decide +kernel
