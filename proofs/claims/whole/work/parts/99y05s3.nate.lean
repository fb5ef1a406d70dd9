/-! BY NATURE, the checks. -/
theorem ne1_d20_16 : lne true true ne1 fr1 fg1 1 2 3 2 2 2 2 2 887 20 21 16 17 = true := by decide +kernel
theorem ne1_d20_17 : lne true true ne1 fr1 fg1 1 2 3 2 2 2 2 2 887 20 21 17 18 = true := by decide +kernel
theorem ne1_d20_18 : lne true true ne1 fr1 fg1 1 2 3 2 2 2 2 2 887 20 21 18 19 = true := by decide +kernel
theorem ne1_d20_19 : lne true true ne1 fr1 fg1 1 2 3 2 2 2 2 2 887 20 21 19 20 = true := by decide +kernel
theorem ne1_d21_16 : lne true true ne1 fr1 fg1 1 2 3 2 2 2 2 2 887 21 22 16 17 = true := by decide +kernel
theorem ne1_d21_17 : lne true true ne1 fr1 fg1 1 2 3 2 2 2 2 2 887 21 22 17 18 = true := by decide +kernel
theorem ne1_d21_18 : lne true true ne1 fr1 fg1 1 2 3 2 2 2 2 2 887 21 22 18 19 = true := by decide +kernel
theorem ne1_d22_16 : lne true true ne1 fr1 fg1 1 2 3 2 2 2 2 2 887 22 23 16 17 = true := by decide +kernel
theorem ne1_d22_17 : lne true true ne1 fr1 fg1 1 2 3 2 2 2 2 2 887 22 23 17 18 = true := by decide +kernel
theorem ne1_d22_18 : lne true true ne1 fr1 fg1 1 2 3 2 2 2 2 2 887 22 23 18 19 = true := by decide +kernel
theorem ne1_d23_16 : lne true true ne1 fr1 fg1 1 2 3 2 2 2 2 2 887 23 24 16 17 = true := by decide +kernel
theorem ne1_d23_17 : lne true true ne1 fr1 fg1 1 2 3 2 2 2 2 2 887 23 24 17 18 = true := by decide +kernel
theorem ne1_d24_16 : lne true true ne1 fr1 fg1 1 2 3 2 2 2 2 2 887 24 25 16 17 = true := by decide +kernel
theorem ne1_d24_17 : lne true true ne1 fr1 fg1 1 2 3 2 2 2 2 2 887 24 25 17 18 = true := by decide +kernel
theorem ne1_d25_16 : lne true true ne1 fr1 fg1 1 2 3 2 2 2 2 2 887 25 26 16 17 = true := by decide +kernel
theorem ne1_d26_16 : lne true true ne1 fr1 fg1 1 2 3 2 2 2 2 2 887 26 27 16 17 = true := by decide +kernel
theorem ne1_all {c m : Nat} (m3 : 3 ≤ m) (h20 : 20 ≤ c) (h47 : c ≤ 47) (hc : c + 2 * m ≤ 58) {s : T6} (hs : s ∈ lng ne1 c) : (true = false → 5 ≤ 58 - 2 * m - c → dpD true fr1 fg1 0 1 2 3 2 2 2 2 s.2.2.1 s.2.2.2.1 2 s.2.2.2.2.1 s.2.2.2.2.2 s.1 (58 - 2 * m - c) m ≤ 887) ∧ (true = true → dpD true fr1 fg1 5 1 2 3 2 2 2 2 s.2.2.1 s.2.2.2.1 2 s.2.2.2.2.1 s.2.2.2.2.2 s.1 0 m ≤ 887) := by
  by_cases q26 : c < 26
  · skip
    by_cases q23 : c < 23
    · skip
      by_cases q21 : c < 21
      · skip
        by_cases m16 : m < 16
        · exact lne_get ne1_d20_3 (by omega) (by omega) (by omega) m16 hc hs
        by_cases m17 : m < 17
        · exact lne_get ne1_d20_16 (by omega) (by omega) (by omega) m17 hc hs
        by_cases m18 : m < 18
        · exact lne_get ne1_d20_17 (by omega) (by omega) (by omega) m18 hc hs
        by_cases m19 : m < 19
        · exact lne_get ne1_d20_18 (by omega) (by omega) (by omega) m19 hc hs
        exact lne_get ne1_d20_19 (by omega) (by omega) (by omega) (by omega) hc hs
      · skip
        by_cases q22 : c < 22
        · skip
          by_cases m16 : m < 16
          · exact lne_get ne1_d21_3 (by omega) (by omega) (by omega) m16 hc hs
          by_cases m17 : m < 17
          · exact lne_get ne1_d21_16 (by omega) (by omega) (by omega) m17 hc hs
          by_cases m18 : m < 18
          · exact lne_get ne1_d21_17 (by omega) (by omega) (by omega) m18 hc hs
          exact lne_get ne1_d21_18 (by omega) (by omega) (by omega) (by omega) hc hs
        · skip
          by_cases m16 : m < 16
          · exact lne_get ne1_d22_3 (by omega) (by omega) (by omega) m16 hc hs
          by_cases m17 : m < 17
          · exact lne_get ne1_d22_16 (by omega) (by omega) (by omega) m17 hc hs
          by_cases m18 : m < 18
          · exact lne_get ne1_d22_17 (by omega) (by omega) (by omega) m18 hc hs
          exact lne_get ne1_d22_18 (by omega) (by omega) (by omega) (by omega) hc hs
    · skip
      by_cases q24 : c < 24
      · skip
        by_cases m16 : m < 16
        · exact lne_get ne1_d23_3 (by omega) (by omega) (by omega) m16 hc hs
        by_cases m17 : m < 17
        · exact lne_get ne1_d23_16 (by omega) (by omega) (by omega) m17 hc hs
        exact lne_get ne1_d23_17 (by omega) (by omega) (by omega) (by omega) hc hs
      · skip
        by_cases q25 : c < 25
        · skip
          by_cases m16 : m < 16
          · exact lne_get ne1_d24_3 (by omega) (by omega) (by omega) m16 hc hs
          by_cases m17 : m < 17
          · exact lne_get ne1_d24_16 (by omega) (by omega) (by omega) m17 hc hs
          exact lne_get ne1_d24_17 (by omega) (by omega) (by omega) (by omega) hc hs
        · skip
          by_cases m16 : m < 16
          · exact lne_get ne1_d25_3 (by omega) (by omega) (by omega) m16 hc hs
          exact lne_get ne1_d25_16 (by omega) (by omega) (by omega) (by omega) hc hs
  · skip
    by_cases q29 : c < 29
    · skip
      by_cases q27 : c < 27
      · skip
        by_cases m16 : m < 16
        · exact lne_get ne1_d26_3 (by omega) (by omega) (by omega) m16 hc hs
        exact lne_get ne1_d26_16 (by omega) (by omega) (by omega) (by omega) hc hs
      · skip
        by_cases q28 : c < 28
        · skip
          exact lne_get ne1_d27_3 (by omega) (by omega) (by omega) (by omega) hc hs
        · skip
          exact lne_get ne1_d28_3 (by omega) (by omega) (by omega) (by omega) hc hs
    · skip
      by_cases q30 : c < 30
      · skip
        exact lne_get ne1_d29_3 (by omega) (by omega) (by omega) (by omega) hc hs
      · skip
        by_cases q36 : c < 36
        · skip
          exact lne_get ne1_d30_3 (by omega) (by omega) (by omega) (by omega) hc hs
        · skip
          exact lne_get ne1_d36_3 (by omega) (by omega) (by omega) (by omega) hc hs
