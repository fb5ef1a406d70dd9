/-! Numbers, several binders. -/
theorem cz2_6_40 : cz2 j1R j1G 6 40 = true := by decide +kernel
theorem cz2_6_41 : cz2 j1R j1G 6 41 = true := by decide +kernel
