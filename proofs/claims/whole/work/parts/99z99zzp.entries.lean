/-! CHOICES ANYWHERE: the entries, one name around. -/
theorem qo_20_10 : okQo 20 10 = true := by decide +kernel
theorem qo_20_11 : okQo 20 11 = true := by decide +kernel
theorem qo_20_12 : okQo 20 12 = true := by decide +kernel
theorem qo_20_13 : okQo 20 13 = true := by decide +kernel
theorem qo_20_14 : okQo 20 14 = true := by decide +kernel
theorem qo_20_15 : okQo 20 15 = true := by decide +kernel
theorem qo_20_16 : okQo 20 16 = true := by decide +kernel
theorem qo_21_10 : okQo 21 10 = true := by decide +kernel
theorem qo_21_11 : okQo 21 11 = true := by decide +kernel
theorem qo_21_12 : okQo 21 12 = true := by decide +kernel
theorem qo_21_13 : okQo 21 13 = true := by decide +kernel
theorem qo_21_14 : okQo 21 14 = true := by decide +kernel
theorem qo_21_15 : okQo 21 15 = true := by decide +kernel
theorem qo_21_16 : okQo 21 16 = true := by decide +kernel
theorem qo_22_10 : okQo 22 10 = true := by decide +kernel
theorem qo_22_11 : okQo 22 11 = true := by decide +kernel
theorem qo_22_12 : okQo 22 12 = true := by decide +kernel
theorem qo_22_13 : okQo 22 13 = true := by decide +kernel
theorem qo_22_14 : okQo 22 14 = true := by decide +kernel
theorem qo_22_15 : okQo 22 15 = true := by decide +kernel
theorem qo_23_10 : okQo 23 10 = true := by decide +kernel
theorem qo_23_11 : okQo 23 11 = true := by decide +kernel
theorem qo_23_12 : okQo 23 12 = true := by decide +kernel
theorem qo_23_13 : okQo 23 13 = true := by decide +kernel
theorem qo_23_14 : okQo 23 14 = true := by decide +kernel
theorem qo_23_15 : okQo 23 15 = true := by decide +kernel
theorem qo_24_10 : okQo 24 10 = true := by decide +kernel
theorem qo_24_11 : okQo 24 11 = true := by decide +kernel
theorem qo_24_12 : okQo 24 12 = true := by decide +kernel
theorem qo_24_13 : okQo 24 13 = true := by decide +kernel
theorem qo_24_14 : okQo 24 14 = true := by decide +kernel
theorem qo_25_10 : okQo 25 10 = true := by decide +kernel
theorem qo_25_11 : okQo 25 11 = true := by decide +kernel
theorem qo_25_12 : okQo 25 12 = true := by decide +kernel
theorem qo_25_13 : okQo 25 13 = true := by decide +kernel
theorem qo_25_14 : okQo 25 14 = true := by decide +kernel
theorem qo_26_10 : okQo 26 10 = true := by decide +kernel
theorem qo_26_11 : okQo 26 11 = true := by decide +kernel
theorem qo_26_12 : okQo 26 12 = true := by decide +kernel
theorem qo_26_13 : okQo 26 13 = true := by decide +kernel
theorem qo_27_10 : okQo 27 10 = true := by decide +kernel
theorem qo_27_11 : okQo 27 11 = true := by decide +kernel
theorem qo_27_12 : okQo 27 12 = true := by decide +kernel
theorem qo_27_13 : okQo 27 13 = true := by decide +kernel
theorem qo_28_10 : okQo 28 10 = true := by decide +kernel
theorem qo_28_11 : okQo 28 11 = true := by decide +kernel
theorem qo_28_12 : okQo 28 12 = true := by decide +kernel
theorem qo_29_10 : okQo 29 10 = true := by decide +kernel
theorem qo_29_11 : okQo 29 11 = true := by decide +kernel
theorem qo_29_12 : okQo 29 12 = true := by decide +kernel
theorem qo_30_10 : okQo 30 10 = true := by decide +kernel
theorem qo_30_11 : okQo 30 11 = true := by decide +kernel
theorem qo_31_10 : okQo 31 10 = true := by decide +kernel
theorem qo_31_11 : okQo 31 11 = true := by decide +kernel
theorem qo_32_10 : okQo 32 10 = true := by decide +kernel
theorem qo_33_10 : okQo 33 10 = true := by decide +kernel
theorem qo_get {c m : Nat} (c0 : 20 ≤ c) (c1 : c ≤ 33) (m0 : 10 ≤ m) (m1 : m ≤ 16) : okQo c m = true := by
  have hc : c = 20 ∨ c = 21 ∨ c = 22 ∨ c = 23 ∨ c = 24 ∨ c = 25 ∨ c = 26 ∨ c = 27 ∨ c = 28 ∨ c = 29 ∨ c = 30 ∨ c = 31 ∨ c = 32 ∨ c = 33 := by omega
  have hm : m = 10 ∨ m = 11 ∨ m = 12 ∨ m = 13 ∨ m = 14 ∨ m = 15 ∨ m = 16 := by omega
  rcases hc with rfl | rfl | rfl | rfl | rfl | rfl | rfl | rfl | rfl | rfl | rfl | rfl | rfl | rfl
  · rcases hm with rfl | rfl | rfl | rfl | rfl | rfl | rfl
    · exact qo_20_10
    · exact qo_20_11
    · exact qo_20_12
    · exact qo_20_13
    · exact qo_20_14
    · exact qo_20_15
    · exact qo_20_16
  · rcases hm with rfl | rfl | rfl | rfl | rfl | rfl | rfl
    · exact qo_21_10
    · exact qo_21_11
    · exact qo_21_12
    · exact qo_21_13
    · exact qo_21_14
    · exact qo_21_15
    · exact qo_21_16
  · rcases hm with rfl | rfl | rfl | rfl | rfl | rfl | rfl
    · exact qo_22_10
    · exact qo_22_11
    · exact qo_22_12
    · exact qo_22_13
    · exact qo_22_14
    · exact qo_22_15
    · exact rfl
  · rcases hm with rfl | rfl | rfl | rfl | rfl | rfl | rfl
    · exact qo_23_10
    · exact qo_23_11
    · exact qo_23_12
    · exact qo_23_13
    · exact qo_23_14
    · exact qo_23_15
    · exact rfl
  · rcases hm with rfl | rfl | rfl | rfl | rfl | rfl | rfl
    · exact qo_24_10
    · exact qo_24_11
    · exact qo_24_12
    · exact qo_24_13
    · exact qo_24_14
    · exact rfl
    · exact rfl
  · rcases hm with rfl | rfl | rfl | rfl | rfl | rfl | rfl
    · exact qo_25_10
    · exact qo_25_11
    · exact qo_25_12
    · exact qo_25_13
    · exact qo_25_14
    · exact rfl
    · exact rfl
  · rcases hm with rfl | rfl | rfl | rfl | rfl | rfl | rfl
    · exact qo_26_10
    · exact qo_26_11
    · exact qo_26_12
    · exact qo_26_13
    · exact rfl
    · exact rfl
    · exact rfl
  · rcases hm with rfl | rfl | rfl | rfl | rfl | rfl | rfl
    · exact qo_27_10
    · exact qo_27_11
    · exact qo_27_12
    · exact qo_27_13
    · exact rfl
    · exact rfl
    · exact rfl
  · rcases hm with rfl | rfl | rfl | rfl | rfl | rfl | rfl
    · exact qo_28_10
    · exact qo_28_11
    · exact qo_28_12
    · exact rfl
    · exact rfl
    · exact rfl
    · exact rfl
  · rcases hm with rfl | rfl | rfl | rfl | rfl | rfl | rfl
    · exact qo_29_10
    · exact qo_29_11
    · exact qo_29_12
    · exact rfl
    · exact rfl
    · exact rfl
    · exact rfl
  · rcases hm with rfl | rfl | rfl | rfl | rfl | rfl | rfl
    · exact qo_30_10
    · exact qo_30_11
    · exact rfl
    · exact rfl
    · exact rfl
    · exact rfl
    · exact rfl
  · rcases hm with rfl | rfl | rfl | rfl | rfl | rfl | rfl
    · exact qo_31_10
    · exact qo_31_11
    · exact rfl
    · exact rfl
    · exact rfl
    · exact rfl
    · exact rfl
  · rcases hm with rfl | rfl | rfl | rfl | rfl | rfl | rfl
    · exact qo_32_10
    · exact rfl
    · exact rfl
    · exact rfl
    · exact rfl
    · exact rfl
    · exact rfl
  · rcases hm with rfl | rfl | rfl | rfl | rfl | rfl | rfl
    · exact qo_33_10
    · exact rfl
    · exact rfl
    · exact rfl
    · exact rfl
    · exact rfl
    · exact rfl
