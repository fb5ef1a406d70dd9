/-! Numbers, several binders, no names. -/
theorem cz3_39 : cz3 39 = true := by decide +kernel
theorem cz3_40 : cz3 40 = true := by decide +kernel
