/-! Numbers, several binders. -/
theorem cz2_6_36 : cz2 j1R j1G 6 36 = true := by decide +kernel
theorem cz2_6_37 : cz2 j1R j1G 6 37 = true := by decide +kernel
theorem cz2_6_38 : cz2 j1R j1G 6 38 = true := by decide +kernel
theorem cz2_6_39 : cz2 j1R j1G 6 39 = true := by decide +kernel
