/-! CONTEXTS WITHOUT A SCHEME: the checks. -/
theorem z0G1_20_3 : z0G true 0 20 21 3 14 = true := by decide +kernel
theorem z0G1_20_14 : z0G true 0 20 21 14 20 = true := by decide +kernel
theorem z0G1_21_3 : z0G true 0 21 22 3 14 = true := by decide +kernel
theorem z0G1_21_14 : z0G true 0 21 22 14 20 = true := by decide +kernel
theorem z0G1_22_3 : z0G true 0 22 23 3 14 = true := by decide +kernel
theorem z0G1_22_14 : z0G true 0 22 23 14 20 = true := by decide +kernel
theorem z0G1_23_3 : z0G true 0 23 24 3 14 = true := by decide +kernel
theorem z0G1_23_14 : z0G true 0 23 24 14 20 = true := by decide +kernel
theorem z0G1_24_3 : z0G true 0 24 25 3 20 = true := by decide +kernel
theorem z0G1_25_3 : z0G true 0 25 26 3 20 = true := by decide +kernel
theorem z0G1_26_3 : z0G true 0 26 27 3 20 = true := by decide +kernel
theorem z0G1_27_3 : z0G true 0 27 28 3 20 = true := by decide +kernel
theorem z0G1_28_3 : z0G true 0 28 29 3 20 = true := by decide +kernel
theorem z0G1_29_3 : z0G true 0 29 30 3 20 = true := by decide +kernel
theorem z0G1_30_3 : z0G true 0 30 36 3 20 = true := by decide +kernel
theorem z0G1_36_3 : z0G true 0 36 48 3 20 = true := by decide +kernel
theorem z0G1_all {c m : Nat} (h20 : 20 ≤ c) (h47 : c ≤ 47) (m3 : 3 ≤ m) (hc : c + 2 * m ≤ 58) : T0G true true 0 (58 - 2 * m - c) m (fxq.getD c 0) := by
  by_cases q26 : c < 26
  · skip
    by_cases q23 : c < 23
    · skip
      by_cases q21 : c < 21
      · skip
        by_cases m14 : m < 14
        · exact z0G_get z0G1_20_3 (by omega) (by omega) (by omega) m14 hc
        exact z0G_get z0G1_20_14 (by omega) (by omega) (by omega) (by omega) hc
      · skip
        by_cases q22 : c < 22
        · skip
          by_cases m14 : m < 14
          · exact z0G_get z0G1_21_3 (by omega) (by omega) (by omega) m14 hc
          exact z0G_get z0G1_21_14 (by omega) (by omega) (by omega) (by omega) hc
        · skip
          by_cases m14 : m < 14
          · exact z0G_get z0G1_22_3 (by omega) (by omega) (by omega) m14 hc
          exact z0G_get z0G1_22_14 (by omega) (by omega) (by omega) (by omega) hc
    · skip
      by_cases q24 : c < 24
      · skip
        by_cases m14 : m < 14
        · exact z0G_get z0G1_23_3 (by omega) (by omega) (by omega) m14 hc
        exact z0G_get z0G1_23_14 (by omega) (by omega) (by omega) (by omega) hc
      · skip
        by_cases q25 : c < 25
        · skip
          exact z0G_get z0G1_24_3 (by omega) (by omega) (by omega) (by omega) hc
        · skip
          exact z0G_get z0G1_25_3 (by omega) (by omega) (by omega) (by omega) hc
  · skip
    by_cases q29 : c < 29
    · skip
      by_cases q27 : c < 27
      · skip
        exact z0G_get z0G1_26_3 (by omega) (by omega) (by omega) (by omega) hc
      · skip
        by_cases q28 : c < 28
        · skip
          exact z0G_get z0G1_27_3 (by omega) (by omega) (by omega) (by omega) hc
        · skip
          exact z0G_get z0G1_28_3 (by omega) (by omega) (by omega) (by omega) hc
    · skip
      by_cases q30 : c < 30
      · skip
        exact z0G_get z0G1_29_3 (by omega) (by omega) (by omega) (by omega) hc
      · skip
        by_cases q36 : c < 36
        · skip
          exact z0G_get z0G1_30_3 (by omega) (by omega) (by omega) (by omega) hc
        · skip
          exact z0G_get z0G1_36_3 (by omega) (by omega) (by omega) (by omega) hc
