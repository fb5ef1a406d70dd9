/-! CONTEXTS WITH AN ALIAS: the entries hold. -/
theorem okA3_20 : okA3 20 = true := by decide +kernel
theorem okA3_21 : okA3 21 = true := by decide +kernel
theorem okA3_22 : okA3 22 = true := by decide +kernel
theorem okA3_23 : okA3 23 = true := by decide +kernel
theorem okA3_24 : okA3 24 = true := by decide +kernel
theorem okA3_25 : okA3 25 = true := by decide +kernel
theorem okA3_26 : okA3 26 = true := by decide +kernel
theorem okA3_27 : okA3 27 = true := by decide +kernel
theorem okA3_all {c : Nat} (c0 : 20 ≤ c) (c1 : c ≤ 27) : okA3 c = true := by
  have hc : c = 20 ∨ c = 21 ∨ c = 22 ∨ c = 23 ∨ c = 24 ∨ c = 25 ∨ c = 26 ∨ c = 27 := by omega
  rcases hc with rfl | rfl | rfl | rfl | rfl | rfl | rfl | rfl
  · exact okA3_20
  · exact okA3_21
  · exact okA3_22
  · exact okA3_23
  · exact okA3_24
  · exact okA3_25
  · exact okA3_26
  · exact okA3_27
theorem okA4_20 : okA4 20 = true := by decide +kernel
theorem okA4_21 : okA4 21 = true := by decide +kernel
theorem okA4_22 : okA4 22 = true := by decide +kernel
theorem okA4_23 : okA4 23 = true := by decide +kernel
theorem okA4_24 : okA4 24 = true := by decide +kernel
theorem okA4_25 : okA4 25 = true := by decide +kernel
theorem okA4_26 : okA4 26 = true := by decide +kernel
theorem okA4_27 : okA4 27 = true := by decide +kernel
theorem okA4_28 : okA4 28 = true := by decide +kernel
theorem okA4_29 : okA4 29 = true := by decide +kernel
theorem okA4_30 : okA4 30 = true := by decide +kernel
theorem okA4_all {c : Nat} (c0 : 20 ≤ c) (c1 : c ≤ 30) : okA4 c = true := by
  have hc : c = 20 ∨ c = 21 ∨ c = 22 ∨ c = 23 ∨ c = 24 ∨ c = 25 ∨ c = 26 ∨ c = 27 ∨ c = 28 ∨ c = 29 ∨ c = 30 := by omega
  rcases hc with rfl | rfl | rfl | rfl | rfl | rfl | rfl | rfl | rfl | rfl | rfl
  · exact okA4_20
  · exact okA4_21
  · exact okA4_22
  · exact okA4_23
  · exact okA4_24
  · exact okA4_25
  · exact okA4_26
  · exact okA4_27
  · exact okA4_28
  · exact okA4_29
  · exact okA4_30
theorem okA5_20 : okA5 20 = true := by decide +kernel
theorem okA5_21 : okA5 21 = true := by decide +kernel
theorem okA5_22 : okA5 22 = true := by decide +kernel
theorem okA5_23 : okA5 23 = true := by decide +kernel
theorem okA5_24 : okA5 24 = true := by decide +kernel
theorem okA5_25 : okA5 25 = true := by decide +kernel
theorem okA5_all {c : Nat} (c0 : 20 ≤ c) (c1 : c ≤ 25) : okA5 c = true := by
  have hc : c = 20 ∨ c = 21 ∨ c = 22 ∨ c = 23 ∨ c = 24 ∨ c = 25 := by omega
  rcases hc with rfl | rfl | rfl | rfl | rfl | rfl
  · exact okA5_20
  · exact okA5_21
  · exact okA5_22
  · exact okA5_23
  · exact okA5_24
  · exact okA5_25
