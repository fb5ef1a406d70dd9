/-! NUMBERS. -/
theorem lb1_ok0 : lbc lb1 pp1 fr1 fg1 fx1 1 830 0 34 = true := by decide +kernel
