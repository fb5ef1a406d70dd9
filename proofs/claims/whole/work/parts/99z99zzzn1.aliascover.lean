/-! CONTEXTS WITH AN ALIAS: coverage. -/
theorem cvA1_28 : cvA eqc (eA1.getD 8 []) (bA1.getD 8 []) 28 = true := by decide +kernel
theorem cvA1_29 : cvA eqc (eA1.getD 9 []) (bA1.getD 9 []) 29 = true := by decide +kernel
theorem cvA1_30 : cvA eqc (eA1.getD 10 []) (bA1.getD 10 []) 30 = true := by decide +kernel
theorem cvA1_31 : cvA eqc (eA1.getD 11 []) (bA1.getD 11 []) 31 = true := by decide +kernel
theorem cvA1_32 : cvA eqc (eA1.getD 12 []) (bA1.getD 12 []) 32 = true := by decide +kernel
theorem cvA1_33 : cvA eqc (eA1.getD 13 []) (bA1.getD 13 []) 33 = true := by decide +kernel
theorem cvA1_34 : cvA eqc (eA1.getD 14 []) (bA1.getD 14 []) 34 = true := by decide +kernel
theorem cvA1_35 : cvA eqc (eA1.getD 15 []) (bA1.getD 15 []) 35 = true := by decide +kernel
theorem cvA1_36 : cvA eqc (eA1.getD 16 []) (bA1.getD 16 []) 36 = true := by decide +kernel
theorem cvA1_37 : cvA eqc (eA1.getD 17 []) (bA1.getD 17 []) 37 = true := by decide +kernel
theorem cvA1_38 : cvA eqc (eA1.getD 18 []) (bA1.getD 18 []) 38 = true := by decide +kernel
theorem cvA1_39 : cvA eqc (eA1.getD 19 []) (bA1.getD 19 []) 39 = true := by decide +kernel
theorem cvA1_40 : cvA eqc (eA1.getD 20 []) (bA1.getD 20 []) 40 = true := by decide +kernel
theorem cvA1_41 : cvA eqc (eA1.getD 21 []) (bA1.getD 21 []) 41 = true := by decide +kernel
theorem cvA1_42 : cvA eqc (eA1.getD 22 []) (bA1.getD 22 []) 42 = true := by decide +kernel
theorem cvA1_all {c : Nat} (c0 : 28 ≤ c) (c1 : c ≤ 42) : cvA eqc (eA1.getD (c - 20) []) (bA1.getD (c - 20) []) c = true := by
  have hc : c = 28 ∨ c = 29 ∨ c = 30 ∨ c = 31 ∨ c = 32 ∨ c = 33 ∨ c = 34 ∨ c = 35 ∨ c = 36 ∨ c = 37 ∨ c = 38 ∨ c = 39 ∨ c = 40 ∨ c = 41 ∨ c = 42 := by omega
  rcases hc with rfl | rfl | rfl | rfl | rfl | rfl | rfl | rfl | rfl | rfl | rfl | rfl | rfl | rfl | rfl
  · exact cvA1_28
  · exact cvA1_29
  · exact cvA1_30
  · exact cvA1_31
  · exact cvA1_32
  · exact cvA1_33
  · exact cvA1_34
  · exact cvA1_35
  · exact cvA1_36
  · exact cvA1_37
  · exact cvA1_38
  · exact cvA1_39
  · exact cvA1_40
  · exact cvA1_41
  · exact cvA1_42
