/-! Numbers, several binders. -/
theorem cz2_6_20 : cz2 j1R j1G 6 20 = true := by decide +kernel
theorem cz2_6_21 : cz2 j1R j1G 6 21 = true := by decide +kernel
theorem cz2_6_22 : cz2 j1R j1G 6 22 = true := by decide +kernel
theorem cz2_6_23 : cz2 j1R j1G 6 23 = true := by decide +kernel
theorem cz2_6_24 : cz2 j1R j1G 6 24 = true := by decide +kernel
theorem cz2_6_25 : cz2 j1R j1G 6 25 = true := by decide +kernel
theorem cz2_6_26 : cz2 j1R j1G 6 26 = true := by decide +kernel
theorem cz2_6_27 : cz2 j1R j1G 6 27 = true := by decide +kernel
theorem cz2_6_28 : cz2 j1R j1G 6 28 = true := by decide +kernel
theorem cz2_6_29 : cz2 j1R j1G 6 29 = true := by decide +kernel
theorem cz2_6_30 : cz2 j1R j1G 6 30 = true := by decide +kernel
theorem cz2_6_31 : cz2 j1R j1G 6 31 = true := by decide +kernel
theorem cz2_6_32 : cz2 j1R j1G 6 32 = true := by decide +kernel
theorem cz2_6_33 : cz2 j1R j1G 6 33 = true := by decide +kernel
theorem cz2_6_34 : cz2 j1R j1G 6 34 = true := by decide +kernel
theorem cz2_6_35 : cz2 j1R j1G 6 35 = true := by decide +kernel
