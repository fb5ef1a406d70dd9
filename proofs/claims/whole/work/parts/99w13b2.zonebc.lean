/-! NUMBERS. -/
theorem lb1_ok2 : lbc lb1 pp1 fr1 fg1 fx1 1 830 41 48 = true := by decide +kernel
