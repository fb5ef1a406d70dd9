/-! THE TABLES KEEP WHAT IS ASKED BESIDES. -/
theorem px1_ok : PXk 58 pp1 fr1 fx1 2 3 2 = true := by decide +kernel
theorem pxq_ok : PXk 58 ppq frq fxq 1 1 3 = true := by decide +kernel
