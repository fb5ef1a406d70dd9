/-! NUMBERS: the checks. -/
theorem jw1_x39 : jxd jw1 ux1 uy1 fr1 fg1 1 2 3 2 2 2 2 2 39 16 = true := by decide +kernel
theorem jw1_x40 : jxd jw1 ux1 uy1 fr1 fg1 1 2 3 2 2 2 2 2 40 16 = true := by decide +kernel
theorem jw1_x41 : jxd jw1 ux1 uy1 fr1 fg1 1 2 3 2 2 2 2 2 41 16 = true := by decide +kernel
theorem jw1_x42 : jxd jw1 ux1 uy1 fr1 fg1 1 2 3 2 2 2 2 2 42 16 = true := by decide +kernel
theorem jw1_x43 : jxd jw1 ux1 uy1 fr1 fg1 1 2 3 2 2 2 2 2 43 16 = true := by decide +kernel
theorem jw1_x44 : jxd jw1 ux1 uy1 fr1 fg1 1 2 3 2 2 2 2 2 44 16 = true := by decide +kernel
theorem jw1_x45 : jxd jw1 ux1 uy1 fr1 fg1 1 2 3 2 2 2 2 2 45 16 = true := by decide +kernel
theorem jw1_x46 : jxd jw1 ux1 uy1 fr1 fg1 1 2 3 2 2 2 2 2 46 16 = true := by decide +kernel
theorem jw1_x47 : jxd jw1 ux1 uy1 fr1 fg1 1 2 3 2 2 2 2 2 47 16 = true := by decide +kernel
