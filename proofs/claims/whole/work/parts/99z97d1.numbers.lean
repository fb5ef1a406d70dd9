/-! Numbers, several binders. -/
theorem cz2_5_46 : cz2 j0R j0G 5 46 = true := by decide +kernel
