/-! NUMBERS: the checks. -/
theorem jw1_x31 : jxd jw1 ux1 uy1 fr1 fg1 1 2 3 2 2 2 2 2 31 16 = true := by decide +kernel
theorem jw1_x32 : jxd jw1 ux1 uy1 fr1 fg1 1 2 3 2 2 2 2 2 32 16 = true := by decide +kernel
theorem jw1_x33 : jxd jw1 ux1 uy1 fr1 fg1 1 2 3 2 2 2 2 2 33 16 = true := by decide +kernel
theorem jw1_x34 : jxd jw1 ux1 uy1 fr1 fg1 1 2 3 2 2 2 2 2 34 16 = true := by decide +kernel
