/-! CONTEXTS WITH AN ALIAS: the entries hold. -/
theorem okA2_20 : okA2 20 = true := by decide +kernel
theorem okA2_21 : okA2 21 = true := by decide +kernel
theorem okA2_22 : okA2 22 = true := by decide +kernel
theorem okA2_23 : okA2 23 = true := by decide +kernel
theorem okA2_24 : okA2 24 = true := by decide +kernel
theorem okA2_25 : okA2 25 = true := by decide +kernel
theorem okA2_26 : okA2 26 = true := by decide +kernel
