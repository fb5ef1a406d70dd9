/-! CONTEXTS WITH AN ALIAS: coverage. -/
theorem cvA2_20 : cvA eqc (eA2.getD 0 []) (bA2.getD 0 []) 20 = true := by decide +kernel
theorem cvA2_21 : cvA eqc (eA2.getD 1 []) (bA2.getD 1 []) 21 = true := by decide +kernel
theorem cvA2_22 : cvA eqc (eA2.getD 2 []) (bA2.getD 2 []) 22 = true := by decide +kernel
theorem cvA2_23 : cvA eqc (eA2.getD 3 []) (bA2.getD 3 []) 23 = true := by decide +kernel
theorem cvA2_24 : cvA eqc (eA2.getD 4 []) (bA2.getD 4 []) 24 = true := by decide +kernel
theorem cvA2_25 : cvA eqc (eA2.getD 5 []) (bA2.getD 5 []) 25 = true := by decide +kernel
theorem cvA2_26 : cvA eqc (eA2.getD 6 []) (bA2.getD 6 []) 26 = true := by decide +kernel
theorem cvA2_27 : cvA eqc (eA2.getD 7 []) (bA2.getD 7 []) 27 = true := by decide +kernel
theorem cvA2_28 : cvA eqc (eA2.getD 8 []) (bA2.getD 8 []) 28 = true := by decide +kernel
theorem cvA2_29 : cvA eqc (eA2.getD 9 []) (bA2.getD 9 []) 29 = true := by decide +kernel
theorem cvA2_30 : cvA eqc (eA2.getD 10 []) (bA2.getD 10 []) 30 = true := by decide +kernel
theorem cvA2_31 : cvA eqc (eA2.getD 11 []) (bA2.getD 11 []) 31 = true := by decide +kernel
theorem cvA2_32 : cvA eqc (eA2.getD 12 []) (bA2.getD 12 []) 32 = true := by decide +kernel
theorem cvA2_33 : cvA eqc (eA2.getD 13 []) (bA2.getD 13 []) 33 = true := by decide +kernel
theorem cvA2_34 : cvA eqc (eA2.getD 14 []) (bA2.getD 14 []) 34 = true := by decide +kernel
theorem cvA2_35 : cvA eqc (eA2.getD 15 []) (bA2.getD 15 []) 35 = true := by decide +kernel
theorem cvA2_36 : cvA eqc (eA2.getD 16 []) (bA2.getD 16 []) 36 = true := by decide +kernel
theorem cvA2_37 : cvA eqc (eA2.getD 17 []) (bA2.getD 17 []) 37 = true := by decide +kernel
theorem cvA2_38 : cvA eqc (eA2.getD 18 []) (bA2.getD 18 []) 38 = true := by decide +kernel
theorem cvA2_39 : cvA eqc (eA2.getD 19 []) (bA2.getD 19 []) 39 = true := by decide +kernel
theorem cvA2_40 : cvA eqc (eA2.getD 20 []) (bA2.getD 20 []) 40 = true := by decide +kernel
theorem cvA2_41 : cvA eqc (eA2.getD 21 []) (bA2.getD 21 []) 41 = true := by decide +kernel
theorem cvA2_all {c : Nat} (c0 : 20 ≤ c) (c1 : c ≤ 41) : cvA eqc (eA2.getD (c - 20) []) (bA2.getD (c - 20) []) c = true := by
  have hc : c = 20 ∨ c = 21 ∨ c = 22 ∨ c = 23 ∨ c = 24 ∨ c = 25 ∨ c = 26 ∨ c = 27 ∨ c = 28 ∨ c = 29 ∨ c = 30 ∨ c = 31 ∨ c = 32 ∨ c = 33 ∨ c = 34 ∨ c = 35 ∨ c = 36 ∨ c = 37 ∨ c = 38 ∨ c = 39 ∨ c = 40 ∨ c = 41 := by omega
  rcases hc with rfl | rfl | rfl | rfl | rfl | rfl | rfl | rfl | rfl | rfl | rfl | rfl | rfl | rfl | rfl | rfl | rfl | rfl | rfl | rfl | rfl | rfl
  · exact cvA2_20
  · exact cvA2_21
  · exact cvA2_22
  · exact cvA2_23
  · exact cvA2_24
  · exact cvA2_25
  · exact cvA2_26
  · exact cvA2_27
  · exact cvA2_28
  · exact cvA2_29
  · exact cvA2_30
  · exact cvA2_31
  · exact cvA2_32
  · exact cvA2_33
  · exact cvA2_34
  · exact cvA2_35
  · exact cvA2_36
  · exact cvA2_37
  · exact cvA2_38
  · exact cvA2_39
  · exact cvA2_40
  · exact cvA2_41
