/-! NUMBERS: the checks. -/
theorem jwq_x39 : jxd jwq uxq uyq frq fgq 0 1 1 1 3 2 1 1 39 16 = true := by decide +kernel
theorem jwq_x40 : jxd jwq uxq uyq frq fgq 0 1 1 1 3 2 1 1 40 16 = true := by decide +kernel
theorem jwq_x41 : jxd jwq uxq uyq frq fgq 0 1 1 1 3 2 1 1 41 16 = true := by decide +kernel
theorem jwq_x42 : jxd jwq uxq uyq frq fgq 0 1 1 1 3 2 1 1 42 16 = true := by decide +kernel
theorem jwq_x43 : jxd jwq uxq uyq frq fgq 0 1 1 1 3 2 1 1 43 16 = true := by decide +kernel
theorem jwq_x44 : jxd jwq uxq uyq frq fgq 0 1 1 1 3 2 1 1 44 16 = true := by decide +kernel
theorem jwq_x45 : jxd jwq uxq uyq frq fgq 0 1 1 1 3 2 1 1 45 16 = true := by decide +kernel
theorem jwq_x46 : jxd jwq uxq uyq frq fgq 0 1 1 1 3 2 1 1 46 16 = true := by decide +kernel
theorem jwq_x47 : jxd jwq uxq uyq frq fgq 0 1 1 1 3 2 1 1 47 16 = true := by decide +kernel
