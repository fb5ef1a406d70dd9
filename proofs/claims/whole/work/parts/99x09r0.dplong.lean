/-! NUMBERS: the checks. -/
theorem jw1_x27 : jxd jw1 ux1 uy1 fr1 fg1 1 2 3 2 2 2 2 2 27 16 = true := by decide +kernel
theorem jw1_x28 : jxd jw1 ux1 uy1 fr1 fg1 1 2 3 2 2 2 2 2 28 16 = true := by decide +kernel
theorem jw1_x29 : jxd jw1 ux1 uy1 fr1 fg1 1 2 3 2 2 2 2 2 29 16 = true := by decide +kernel
theorem jw1_x30 : jxd jw1 ux1 uy1 fr1 fg1 1 2 3 2 2 2 2 2 30 16 = true := by decide +kernel
