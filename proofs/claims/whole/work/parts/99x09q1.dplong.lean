/-! NUMBERS: the checks. -/
theorem jwq_x31 : jxd jwq uxq uyq frq fgq 0 1 1 1 3 2 1 1 31 16 = true := by decide +kernel
theorem jwq_x32 : jxd jwq uxq uyq frq fgq 0 1 1 1 3 2 1 1 32 16 = true := by decide +kernel
theorem jwq_x33 : jxd jwq uxq uyq frq fgq 0 1 1 1 3 2 1 1 33 16 = true := by decide +kernel
theorem jwq_x34 : jxd jwq uxq uyq frq fgq 0 1 1 1 3 2 1 1 34 16 = true := by decide +kernel
