/-! CONTEXTS WITH AN ALIAS: the entries hold, no names. -/
theorem okA2_27 : okA2 27 = true := by decide +kernel
theorem okA2_28 : okA2 28 = true := by decide +kernel
theorem okA2_29 : okA2 29 = true := by decide +kernel
theorem okA2_30 : okA2 30 = true := by decide +kernel
theorem okA2_31 : okA2 31 = true := by decide +kernel
theorem okA2_32 : okA2 32 = true := by decide +kernel
theorem okA2_33 : okA2 33 = true := by decide +kernel
theorem okA2_34 : okA2 34 = true := by decide +kernel
theorem okA2_35 : okA2 35 = true := by decide +kernel
theorem okA2_36 : okA2 36 = true := by decide +kernel
theorem okA2_37 : okA2 37 = true := by decide +kernel
theorem okA2_38 : okA2 38 = true := by decide +kernel
theorem okA2_39 : okA2 39 = true := by decide +kernel
theorem okA2_40 : okA2 40 = true := by decide +kernel
theorem okA2_41 : okA2 41 = true := by decide +kernel
theorem okA2_all {c : Nat} (c0 : 20 ≤ c) (c1 : c ≤ 41) : okA2 c = true := by
  have hc : c = 20 ∨ c = 21 ∨ c = 22 ∨ c = 23 ∨ c = 24 ∨ c = 25 ∨ c = 26 ∨ c = 27 ∨ c = 28 ∨ c = 29 ∨ c = 30 ∨ c = 31 ∨ c = 32 ∨ c = 33 ∨ c = 34 ∨ c = 35 ∨ c = 36 ∨ c = 37 ∨ c = 38 ∨ c = 39 ∨ c = 40 ∨ c = 41 := by omega
  rcases hc with rfl | rfl | rfl | rfl | rfl | rfl | rfl | rfl | rfl | rfl | rfl | rfl | rfl | rfl | rfl | rfl | rfl | rfl | rfl | rfl | rfl | rfl
  · exact okA2_20
  · exact okA2_21
  · exact okA2_22
  · exact okA2_23
  · exact okA2_24
  · exact okA2_25
  · exact okA2_26
  · exact okA2_27
  · exact okA2_28
  · exact okA2_29
  · exact okA2_30
  · exact okA2_31
  · exact okA2_32
  · exact okA2_33
  · exact okA2_34
  · exact okA2_35
  · exact okA2_36
  · exact okA2_37
  · exact okA2_38
  · exact okA2_39
  · exact okA2_40
  · exact okA2_41
