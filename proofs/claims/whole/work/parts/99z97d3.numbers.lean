/-! Numbers, several binders. -/
theorem cz2k_47_10 : cz2k j0R j0G 5 47 10 = true := by decide +kernel
theorem cz2k_47_11 : cz2k j0R j0G 5 47 11 = true := by decide +kernel
theorem cz2k_47_12 : cz2k j0R j0G 5 47 12 = true := by decide +kernel
theorem cz2k_47_13 : cz2k j0R j0G 5 47 13 = true := by decide +kernel
theorem cz2k_47_14 : cz2k j0R j0G 5 47 14 = true := by decide +kernel
theorem cz2k_47_15 : cz2k j0R j0G 5 47 15 = true := by decide +kernel
theorem cz2k_47_16 : cz2k j0R j0G 5 47 16 = true := by decide +kernel
theorem cz2k_47_17 : cz2k j0R j0G 5 47 17 = true := by decide +kernel
theorem cz2k_47_18 : cz2k j0R j0G 5 47 18 = true := by decide +kernel
theorem cz2k_47_19 : cz2k j0R j0G 5 47 19 = true := by decide +kernel
theorem cz2k_47_20 : cz2k j0R j0G 5 47 20 = true := by decide +kernel
theorem cz2k_47_21 : cz2k j0R j0G 5 47 21 = true := by decide +kernel
theorem cz2k_47_22 : cz2k j0R j0G 5 47 22 = true := by decide +kernel
theorem cz2k_47_23 : cz2k j0R j0G 5 47 23 = true := by decide +kernel
theorem cz2k_47_24 : cz2k j0R j0G 5 47 24 = true := by decide +kernel
theorem cz2k_47_25 : cz2k j0R j0G 5 47 25 = true := by decide +kernel
theorem cz2k_47_26 : cz2k j0R j0G 5 47 26 = true := by decide +kernel
theorem cz2k_47_27 : cz2k j0R j0G 5 47 27 = true := by decide +kernel
theorem cz2k_47_28 : cz2k j0R j0G 5 47 28 = true := by decide +kernel
theorem cz2k_47_29 : cz2k j0R j0G 5 47 29 = true := by decide +kernel
theorem cz2k_47_30 : cz2k j0R j0G 5 47 30 = true := by decide +kernel
theorem cz2k_47_31 : cz2k j0R j0G 5 47 31 = true := by decide +kernel
theorem cz2k_47_32 : cz2k j0R j0G 5 47 32 = true := by decide +kernel
theorem cz2k_47_33 : cz2k j0R j0G 5 47 33 = true := by decide +kernel
theorem cz2k_47_34 : cz2k j0R j0G 5 47 34 = true := by decide +kernel
theorem cz2k_47_35 : cz2k j0R j0G 5 47 35 = true := by decide +kernel
theorem cz2k_47_36 : cz2k j0R j0G 5 47 36 = true := by decide +kernel
theorem cz2k_47_37 : cz2k j0R j0G 5 47 37 = true := by decide +kernel
theorem cz2k_47_38 : cz2k j0R j0G 5 47 38 = true := by decide +kernel
theorem cz2_5_47 : cz2 j0R j0G 5 47 = true := by
  unfold cz2
  rw [List.all_eq_true]
  intro k hk
  rw [List.mem_range] at hk
  rcases (show k = 0 ∨ k = 1 ∨ k = 2 ∨ k = 3 ∨ k = 4 ∨ k = 5 ∨ k = 6 ∨ k = 7 ∨ k = 8 ∨ k = 9 ∨ k = 10 ∨ k = 11 ∨ k = 12 ∨ k = 13 ∨ k = 14 ∨ k = 15 ∨ k = 16 ∨ k = 17 ∨ k = 18 ∨ k = 19 ∨ k = 20 ∨ k = 21 ∨ k = 22 ∨ k = 23 ∨ k = 24 ∨ k = 25 ∨ k = 26 ∨ k = 27 ∨ k = 28 ∨ k = 29 ∨ k = 30 ∨ k = 31 ∨ k = 32 ∨ k = 33 ∨ k = 34 ∨ k = 35 ∨ k = 36 ∨ k = 37 ∨ k = 38 by omega) with rfl | rfl | rfl | rfl | rfl | rfl | rfl | rfl | rfl | rfl | rfl | rfl | rfl | rfl | rfl | rfl | rfl | rfl | rfl | rfl | rfl | rfl | rfl | rfl | rfl | rfl | rfl | rfl | rfl | rfl | rfl | rfl | rfl | rfl | rfl | rfl | rfl | rfl | rfl
  · exact cz2k_47_0
  · exact cz2k_47_1
  · exact cz2k_47_2
  · exact cz2k_47_3
  · exact cz2k_47_4
  · exact cz2k_47_5
  · exact cz2k_47_6
  · exact cz2k_47_7
  · exact cz2k_47_8
  · exact cz2k_47_9
  · exact cz2k_47_10
  · exact cz2k_47_11
  · exact cz2k_47_12
  · exact cz2k_47_13
  · exact cz2k_47_14
  · exact cz2k_47_15
  · exact cz2k_47_16
  · exact cz2k_47_17
  · exact cz2k_47_18
  · exact cz2k_47_19
  · exact cz2k_47_20
  · exact cz2k_47_21
  · exact cz2k_47_22
  · exact cz2k_47_23
  · exact cz2k_47_24
  · exact cz2k_47_25
  · exact cz2k_47_26
  · exact cz2k_47_27
  · exact cz2k_47_28
  · exact cz2k_47_29
  · exact cz2k_47_30
  · exact cz2k_47_31
  · exact cz2k_47_32
  · exact cz2k_47_33
  · exact cz2k_47_34
  · exact cz2k_47_35
  · exact cz2k_47_36
  · exact cz2k_47_37
  · exact cz2k_47_38
