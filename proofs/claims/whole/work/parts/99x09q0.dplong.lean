/-! NUMBERS: the checks. -/
theorem jwq_x27 : jxd jwq uxq uyq frq fgq 0 1 1 1 3 2 1 1 27 16 = true := by decide +kernel
theorem jwq_x28 : jxd jwq uxq uyq frq fgq 0 1 1 1 3 2 1 1 28 16 = true := by decide +kernel
theorem jwq_x29 : jxd jwq uxq uyq frq fgq 0 1 1 1 3 2 1 1 29 16 = true := by decide +kernel
theorem jwq_x30 : jxd jwq uxq uyq frq fgq 0 1 1 1 3 2 1 1 30 16 = true := by decide +kernel
