/-! Numbers, several binders, no names. -/
theorem cz3_41 : cz3 41 = true := by decide +kernel
theorem cz3_42 : cz3 42 = true := by decide +kernel
