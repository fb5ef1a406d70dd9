/-! Numbers, several binders, no names. -/
theorem cz3_31 : cz3 31 = true := by decide +kernel
theorem cz3_32 : cz3 32 = true := by decide +kernel
theorem cz3_33 : cz3 33 = true := by decide +kernel
theorem cz3_34 : cz3 34 = true := by decide +kernel
theorem cz3_35 : cz3 35 = true := by decide +kernel
