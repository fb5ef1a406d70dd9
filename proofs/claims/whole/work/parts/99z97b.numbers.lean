/-! Numbers, several binders. -/
theorem cz2_5_40 : cz2 j0R j0G 5 40 = true := by decide +kernel
theorem cz2_5_41 : cz2 j0R j0G 5 41 = true := by decide +kernel
theorem cz2_5_42 : cz2 j0R j0G 5 42 = true := by decide +kernel
theorem cz2_5_43 : cz2 j0R j0G 5 43 = true := by decide +kernel
