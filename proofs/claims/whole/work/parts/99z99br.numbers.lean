/-! Numbers, several binders, no names. -/
theorem cz3_36 : cz3 36 = true := by decide +kernel
theorem cz3_37 : cz3 37 = true := by decide +kernel
theorem cz3_38 : cz3 38 = true := by decide +kernel
