/-! Numbers, several binders. -/
theorem cz2_5_44 : cz2 j0R j0G 5 44 = true := by decide +kernel
theorem cz2_5_45 : cz2 j0R j0G 5 45 = true := by decide +kernel
