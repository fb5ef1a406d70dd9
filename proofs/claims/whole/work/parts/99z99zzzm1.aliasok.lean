/-! CONTEXTS WITH AN ALIAS: the entries hold. -/
theorem okA0_20 : okA0 20 = true := by decide +kernel
theorem okA0_21 : okA0 21 = true := by decide +kernel
theorem okA0_22 : okA0 22 = true := by decide +kernel
theorem okA0_23 : okA0 23 = true := by decide +kernel
theorem okA0_24 : okA0 24 = true := by decide +kernel
theorem okA0_25 : okA0 25 = true := by decide +kernel
theorem okA0_26 : okA0 26 = true := by decide +kernel
theorem okA0_27 : okA0 27 = true := by decide +kernel
theorem okA0_28 : okA0 28 = true := by decide +kernel
theorem okA0_29 : okA0 29 = true := by decide +kernel
theorem okA0_30 : okA0 30 = true := by decide +kernel
theorem okA0_31 : okA0 31 = true := by decide +kernel
theorem okA0_32 : okA0 32 = true := by decide +kernel
theorem okA0_33 : okA0 33 = true := by decide +kernel
theorem okA0_34 : okA0 34 = true := by decide +kernel
theorem okA0_35 : okA0 35 = true := by decide +kernel
theorem okA0_36 : okA0 36 = true := by decide +kernel
theorem okA0_37 : okA0 37 = true := by decide +kernel
theorem okA0_38 : okA0 38 = true := by decide +kernel
theorem okA0_39 : okA0 39 = true := by decide +kernel
theorem okA0_40 : okA0 40 = true := by decide +kernel
theorem okA0_41 : okA0 41 = true := by decide +kernel
theorem okA0_all {c : Nat} (c0 : 20 ≤ c) (c1 : c ≤ 41) : okA0 c = true := by
  have hc : c = 20 ∨ c = 21 ∨ c = 22 ∨ c = 23 ∨ c = 24 ∨ c = 25 ∨ c = 26 ∨ c = 27 ∨ c = 28 ∨ c = 29 ∨ c = 30 ∨ c = 31 ∨ c = 32 ∨ c = 33 ∨ c = 34 ∨ c = 35 ∨ c = 36 ∨ c = 37 ∨ c = 38 ∨ c = 39 ∨ c = 40 ∨ c = 41 := by omega
  rcases hc with rfl | rfl | rfl | rfl | rfl | rfl | rfl | rfl | rfl | rfl | rfl | rfl | rfl | rfl | rfl | rfl | rfl | rfl | rfl | rfl | rfl | rfl
  · exact okA0_20
  · exact okA0_21
  · exact okA0_22
  · exact okA0_23
  · exact okA0_24
  · exact okA0_25
  · exact okA0_26
  · exact okA0_27
  · exact okA0_28
  · exact okA0_29
  · exact okA0_30
  · exact okA0_31
  · exact okA0_32
  · exact okA0_33
  · exact okA0_34
  · exact okA0_35
  · exact okA0_36
  · exact okA0_37
  · exact okA0_38
  · exact okA0_39
  · exact okA0_40
  · exact okA0_41
theorem okA1_20 : okA1 20 = true := by decide +kernel
theorem okA1_21 : okA1 21 = true := by decide +kernel
theorem okA1_22 : okA1 22 = true := by decide +kernel
theorem okA1_23 : okA1 23 = true := by decide +kernel
theorem okA1_24 : okA1 24 = true := by decide +kernel
theorem okA1_25 : okA1 25 = true := by decide +kernel
theorem okA1_26 : okA1 26 = true := by decide +kernel
theorem okA1_27 : okA1 27 = true := by decide +kernel
theorem okA1_28 : okA1 28 = true := by decide +kernel
theorem okA1_29 : okA1 29 = true := by decide +kernel
theorem okA1_30 : okA1 30 = true := by decide +kernel
theorem okA1_31 : okA1 31 = true := by decide +kernel
theorem okA1_32 : okA1 32 = true := by decide +kernel
theorem okA1_33 : okA1 33 = true := by decide +kernel
theorem okA1_34 : okA1 34 = true := by decide +kernel
theorem okA1_35 : okA1 35 = true := by decide +kernel
theorem okA1_36 : okA1 36 = true := by decide +kernel
theorem okA1_37 : okA1 37 = true := by decide +kernel
theorem okA1_38 : okA1 38 = true := by decide +kernel
theorem okA1_39 : okA1 39 = true := by decide +kernel
theorem okA1_40 : okA1 40 = true := by decide +kernel
theorem okA1_41 : okA1 41 = true := by decide +kernel
theorem okA1_42 : okA1 42 = true := by decide +kernel
theorem okA1_all {c : Nat} (c0 : 20 ≤ c) (c1 : c ≤ 42) : okA1 c = true := by
  have hc : c = 20 ∨ c = 21 ∨ c = 22 ∨ c = 23 ∨ c = 24 ∨ c = 25 ∨ c = 26 ∨ c = 27 ∨ c = 28 ∨ c = 29 ∨ c = 30 ∨ c = 31 ∨ c = 32 ∨ c = 33 ∨ c = 34 ∨ c = 35 ∨ c = 36 ∨ c = 37 ∨ c = 38 ∨ c = 39 ∨ c = 40 ∨ c = 41 ∨ c = 42 := by omega
  rcases hc with rfl | rfl | rfl | rfl | rfl | rfl | rfl | rfl | rfl | rfl | rfl | rfl | rfl | rfl | rfl | rfl | rfl | rfl | rfl | rfl | rfl | rfl | rfl
  · exact okA1_20
  · exact okA1_21
  · exact okA1_22
  · exact okA1_23
  · exact okA1_24
  · exact okA1_25
  · exact okA1_26
  · exact okA1_27
  · exact okA1_28
  · exact okA1_29
  · exact okA1_30
  · exact okA1_31
  · exact okA1_32
  · exact okA1_33
  · exact okA1_34
  · exact okA1_35
  · exact okA1_36
  · exact okA1_37
  · exact okA1_38
  · exact okA1_39
  · exact okA1_40
  · exact okA1_41
  · exact okA1_42
