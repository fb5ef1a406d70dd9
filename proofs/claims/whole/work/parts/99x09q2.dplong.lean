/-! NUMBERS: the checks. -/
theorem jwq_x35 : jxd jwq uxq uyq frq fgq 0 1 1 1 3 2 1 1 35 16 = true := by decide +kernel
theorem jwq_x36 : jxd jwq uxq uyq frq fgq 0 1 1 1 3 2 1 1 36 16 = true := by decide +kernel
theorem jwq_x37 : jxd jwq uxq uyq frq fgq 0 1 1 1 3 2 1 1 37 16 = true := by decide +kernel
theorem jwq_x38 : jxd jwq uxq uyq frq fgq 0 1 1 1 3 2 1 1 38 16 = true := by decide +kernel
