/-! THE ZONE: rows. -/
theorem ln1_ok : lnc ln1 pp1 fr1 fg1 fx1 1 2 830 0 48 = true := by decide +kernel
