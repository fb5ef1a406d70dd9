/-! THE TABLES KEEP WHAT IS ASKED BESIDES: rows. -/
theorem px1_ok : PXk 58 pp1 fr1 fx1 2 3 2 = true := by decide +kernel
