/-! NUMBERS: the checks. -/
theorem jw1_x35 : jxd jw1 ux1 uy1 fr1 fg1 1 2 3 2 2 2 2 2 35 16 = true := by decide +kernel
theorem jw1_x36 : jxd jw1 ux1 uy1 fr1 fg1 1 2 3 2 2 2 2 2 36 16 = true := by decide +kernel
theorem jw1_x37 : jxd jw1 ux1 uy1 fr1 fg1 1 2 3 2 2 2 2 2 37 16 = true := by decide +kernel
theorem jw1_x38 : jxd jw1 ux1 uy1 fr1 fg1 1 2 3 2 2 2 2 2 38 16 = true := by decide +kernel
