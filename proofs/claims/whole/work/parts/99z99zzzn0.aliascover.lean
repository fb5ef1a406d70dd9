/-! CONTEXTS WITH AN ALIAS: coverage. -/
theorem cvA3_20 : cvA eqk (eA3.getD 0 []) [] 20 = true := by decide +kernel
theorem cvA3_21 : cvA eqk (eA3.getD 1 []) [] 21 = true := by decide +kernel
theorem cvA3_22 : cvA eqk (eA3.getD 2 []) [] 22 = true := by decide +kernel
theorem cvA3_23 : cvA eqk (eA3.getD 3 []) [] 23 = true := by decide +kernel
theorem cvA3_24 : cvA eqk (eA3.getD 4 []) [] 24 = true := by decide +kernel
theorem cvA3_25 : cvA eqk (eA3.getD 5 []) [] 25 = true := by decide +kernel
theorem cvA3_26 : cvA eqk (eA3.getD 6 []) [] 26 = true := by decide +kernel
theorem cvA3_27 : cvA eqk (eA3.getD 7 []) [] 27 = true := by decide +kernel
theorem cvA3_all {c : Nat} (c0 : 20 ≤ c) (c1 : c ≤ 27) : cvA eqk (eA3.getD (c - 20) []) [] c = true := by
  have hc : c = 20 ∨ c = 21 ∨ c = 22 ∨ c = 23 ∨ c = 24 ∨ c = 25 ∨ c = 26 ∨ c = 27 := by omega
  rcases hc with rfl | rfl | rfl | rfl | rfl | rfl | rfl | rfl
  · exact cvA3_20
  · exact cvA3_21
  · exact cvA3_22
  · exact cvA3_23
  · exact cvA3_24
  · exact cvA3_25
  · exact cvA3_26
  · exact cvA3_27
theorem cvA4_20 : cvA eqk (eA4.getD 0 []) [] 20 = true := by decide +kernel
theorem cvA4_21 : cvA eqk (eA4.getD 1 []) [] 21 = true := by decide +kernel
theorem cvA4_22 : cvA eqk (eA4.getD 2 []) [] 22 = true := by decide +kernel
theorem cvA4_23 : cvA eqk (eA4.getD 3 []) [] 23 = true := by decide +kernel
theorem cvA4_24 : cvA eqk (eA4.getD 4 []) [] 24 = true := by decide +kernel
theorem cvA4_25 : cvA eqk (eA4.getD 5 []) [] 25 = true := by decide +kernel
theorem cvA4_26 : cvA eqk (eA4.getD 6 []) [] 26 = true := by decide +kernel
theorem cvA4_27 : cvA eqk (eA4.getD 7 []) [] 27 = true := by decide +kernel
theorem cvA4_28 : cvA eqk (eA4.getD 8 []) [] 28 = true := by decide +kernel
theorem cvA4_29 : cvA eqk (eA4.getD 9 []) [] 29 = true := by decide +kernel
theorem cvA4_30 : cvA eqk (eA4.getD 10 []) [] 30 = true := by decide +kernel
theorem cvA4_all {c : Nat} (c0 : 20 ≤ c) (c1 : c ≤ 30) : cvA eqk (eA4.getD (c - 20) []) [] c = true := by
  have hc : c = 20 ∨ c = 21 ∨ c = 22 ∨ c = 23 ∨ c = 24 ∨ c = 25 ∨ c = 26 ∨ c = 27 ∨ c = 28 ∨ c = 29 ∨ c = 30 := by omega
  rcases hc with rfl | rfl | rfl | rfl | rfl | rfl | rfl | rfl | rfl | rfl | rfl
  · exact cvA4_20
  · exact cvA4_21
  · exact cvA4_22
  · exact cvA4_23
  · exact cvA4_24
  · exact cvA4_25
  · exact cvA4_26
  · exact cvA4_27
  · exact cvA4_28
  · exact cvA4_29
  · exact cvA4_30
theorem cvA5_20 : cvA eqk (eA5.getD 0 []) [] 20 = true := by decide +kernel
theorem cvA5_21 : cvA eqk (eA5.getD 1 []) [] 21 = true := by decide +kernel
theorem cvA5_22 : cvA eqk (eA5.getD 2 []) [] 22 = true := by decide +kernel
theorem cvA5_23 : cvA eqk (eA5.getD 3 []) [] 23 = true := by decide +kernel
theorem cvA5_24 : cvA eqk (eA5.getD 4 []) [] 24 = true := by decide +kernel
theorem cvA5_25 : cvA eqk (eA5.getD 5 []) [] 25 = true := by decide +kernel
theorem cvA5_all {c : Nat} (c0 : 20 ≤ c) (c1 : c ≤ 25) : cvA eqk (eA5.getD (c - 20) []) [] c = true := by
  have hc : c = 20 ∨ c = 21 ∨ c = 22 ∨ c = 23 ∨ c = 24 ∨ c = 25 := by omega
  rcases hc with rfl | rfl | rfl | rfl | rfl | rfl
  · exact cvA5_20
  · exact cvA5_21
  · exact cvA5_22
  · exact cvA5_23
  · exact cvA5_24
  · exact cvA5_25
theorem cvA0_20 : cvA eqc (eA0.getD 0 []) (bA0.getD 0 []) 20 = true := by decide +kernel
theorem cvA0_21 : cvA eqc (eA0.getD 1 []) (bA0.getD 1 []) 21 = true := by decide +kernel
theorem cvA0_22 : cvA eqc (eA0.getD 2 []) (bA0.getD 2 []) 22 = true := by decide +kernel
theorem cvA0_23 : cvA eqc (eA0.getD 3 []) (bA0.getD 3 []) 23 = true := by decide +kernel
theorem cvA0_24 : cvA eqc (eA0.getD 4 []) (bA0.getD 4 []) 24 = true := by decide +kernel
theorem cvA0_25 : cvA eqc (eA0.getD 5 []) (bA0.getD 5 []) 25 = true := by decide +kernel
theorem cvA0_26 : cvA eqc (eA0.getD 6 []) (bA0.getD 6 []) 26 = true := by decide +kernel
theorem cvA0_27 : cvA eqc (eA0.getD 7 []) (bA0.getD 7 []) 27 = true := by decide +kernel
theorem cvA0_28 : cvA eqc (eA0.getD 8 []) (bA0.getD 8 []) 28 = true := by decide +kernel
theorem cvA0_29 : cvA eqc (eA0.getD 9 []) (bA0.getD 9 []) 29 = true := by decide +kernel
theorem cvA0_30 : cvA eqc (eA0.getD 10 []) (bA0.getD 10 []) 30 = true := by decide +kernel
theorem cvA0_31 : cvA eqc (eA0.getD 11 []) (bA0.getD 11 []) 31 = true := by decide +kernel
theorem cvA0_32 : cvA eqc (eA0.getD 12 []) (bA0.getD 12 []) 32 = true := by decide +kernel
theorem cvA0_33 : cvA eqc (eA0.getD 13 []) (bA0.getD 13 []) 33 = true := by decide +kernel
theorem cvA0_34 : cvA eqc (eA0.getD 14 []) (bA0.getD 14 []) 34 = true := by decide +kernel
theorem cvA0_35 : cvA eqc (eA0.getD 15 []) (bA0.getD 15 []) 35 = true := by decide +kernel
theorem cvA0_36 : cvA eqc (eA0.getD 16 []) (bA0.getD 16 []) 36 = true := by decide +kernel
theorem cvA0_37 : cvA eqc (eA0.getD 17 []) (bA0.getD 17 []) 37 = true := by decide +kernel
theorem cvA0_38 : cvA eqc (eA0.getD 18 []) (bA0.getD 18 []) 38 = true := by decide +kernel
theorem cvA0_39 : cvA eqc (eA0.getD 19 []) (bA0.getD 19 []) 39 = true := by decide +kernel
theorem cvA0_40 : cvA eqc (eA0.getD 20 []) (bA0.getD 20 []) 40 = true := by decide +kernel
theorem cvA0_41 : cvA eqc (eA0.getD 21 []) (bA0.getD 21 []) 41 = true := by decide +kernel
theorem cvA0_all {c : Nat} (c0 : 20 ≤ c) (c1 : c ≤ 41) : cvA eqc (eA0.getD (c - 20) []) (bA0.getD (c - 20) []) c = true := by
  have hc : c = 20 ∨ c = 21 ∨ c = 22 ∨ c = 23 ∨ c = 24 ∨ c = 25 ∨ c = 26 ∨ c = 27 ∨ c = 28 ∨ c = 29 ∨ c = 30 ∨ c = 31 ∨ c = 32 ∨ c = 33 ∨ c = 34 ∨ c = 35 ∨ c = 36 ∨ c = 37 ∨ c = 38 ∨ c = 39 ∨ c = 40 ∨ c = 41 := by omega
  rcases hc with rfl | rfl | rfl | rfl | rfl | rfl | rfl | rfl | rfl | rfl | rfl | rfl | rfl | rfl | rfl | rfl | rfl | rfl | rfl | rfl | rfl | rfl
  · exact cvA0_20
  · exact cvA0_21
  · exact cvA0_22
  · exact cvA0_23
  · exact cvA0_24
  · exact cvA0_25
  · exact cvA0_26
  · exact cvA0_27
  · exact cvA0_28
  · exact cvA0_29
  · exact cvA0_30
  · exact cvA0_31
  · exact cvA0_32
  · exact cvA0_33
  · exact cvA0_34
  · exact cvA0_35
  · exact cvA0_36
  · exact cvA0_37
  · exact cvA0_38
  · exact cvA0_39
  · exact cvA0_40
  · exact cvA0_41
