/-! NUMBERS: rows. -/
theorem jw1_ok : jwc jw1 uw1 pp1 fr1 fg1 fx1 1 2 = true := by decide +kernel
theorem jw1_a : jwa jw1 xr1 fg1 fx1 7 = true := by decide +kernel
