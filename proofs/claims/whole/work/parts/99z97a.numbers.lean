/-! Numbers, several binders. -/
theorem cz2_5_31 : cz2 j0R j0G 5 31 = true := by decide +kernel
theorem cz2_5_32 : cz2 j0R j0G 5 32 = true := by decide +kernel
theorem cz2_5_33 : cz2 j0R j0G 5 33 = true := by decide +kernel
theorem cz2_5_34 : cz2 j0R j0G 5 34 = true := by decide +kernel
theorem cz2_5_35 : cz2 j0R j0G 5 35 = true := by decide +kernel
theorem cz2_5_36 : cz2 j0R j0G 5 36 = true := by decide +kernel
theorem cz2_5_37 : cz2 j0R j0G 5 37 = true := by decide +kernel
theorem cz2_5_38 : cz2 j0R j0G 5 38 = true := by decide +kernel
theorem cz2_5_39 : cz2 j0R j0G 5 39 = true := by decide +kernel
