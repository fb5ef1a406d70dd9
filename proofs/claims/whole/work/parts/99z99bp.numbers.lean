/-! Numbers, several binders, no names. -/
theorem cz3_20 : cz3 20 = true := by decide +kernel
theorem cz3_21 : cz3 21 = true := by decide +kernel
theorem cz3_22 : cz3 22 = true := by decide +kernel
theorem cz3_23 : cz3 23 = true := by decide +kernel
theorem cz3_24 : cz3 24 = true := by decide +kernel
theorem cz3_25 : cz3 25 = true := by decide +kernel
theorem cz3_26 : cz3 26 = true := by decide +kernel
theorem cz3_27 : cz3 27 = true := by decide +kernel
theorem cz3_28 : cz3 28 = true := by decide +kernel
theorem cz3_29 : cz3 29 = true := by decide +kernel
theorem cz3_30 : cz3 30 = true := by decide +kernel
