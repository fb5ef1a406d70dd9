/-! BY NATURE, the checks. -/
theorem ncq_d20_16 : lne true false ncq frq fgq 0 1 1 1 3 2 1 1 597 20 21 16 17 = true := by decide +kernel
theorem ncq_d20_17 : lne true false ncq frq fgq 0 1 1 1 3 2 1 1 597 20 21 17 18 = true := by decide +kernel
theorem ncq_d20_18 : lne true false ncq frq fgq 0 1 1 1 3 2 1 1 597 20 21 18 19 = true := by decide +kernel
theorem ncq_d20_19 : lne true false ncq frq fgq 0 1 1 1 3 2 1 1 597 20 21 19 20 = true := by decide +kernel
theorem ncq_d21_16 : lne true false ncq frq fgq 0 1 1 1 3 2 1 1 597 21 22 16 17 = true := by decide +kernel
theorem ncq_d21_17 : lne true false ncq frq fgq 0 1 1 1 3 2 1 1 597 21 22 17 18 = true := by decide +kernel
theorem ncq_d21_18 : lne true false ncq frq fgq 0 1 1 1 3 2 1 1 597 21 22 18 19 = true := by decide +kernel
theorem ncq_d22_16 : lne true false ncq frq fgq 0 1 1 1 3 2 1 1 597 22 23 16 17 = true := by decide +kernel
theorem ncq_d22_17 : lne true false ncq frq fgq 0 1 1 1 3 2 1 1 597 22 23 17 18 = true := by decide +kernel
theorem ncq_d22_18 : lne true false ncq frq fgq 0 1 1 1 3 2 1 1 597 22 23 18 19 = true := by decide +kernel
theorem ncq_d23_16 : lne true false ncq frq fgq 0 1 1 1 3 2 1 1 597 23 24 16 17 = true := by decide +kernel
theorem ncq_d23_17 : lne true false ncq frq fgq 0 1 1 1 3 2 1 1 597 23 24 17 18 = true := by decide +kernel
theorem ncq_d24_16 : lne true false ncq frq fgq 0 1 1 1 3 2 1 1 597 24 25 16 17 = true := by decide +kernel
theorem ncq_d24_17 : lne true false ncq frq fgq 0 1 1 1 3 2 1 1 597 24 25 17 18 = true := by decide +kernel
theorem ncq_d25_16 : lne true false ncq frq fgq 0 1 1 1 3 2 1 1 597 25 26 16 17 = true := by decide +kernel
theorem ncq_d26_16 : lne true false ncq frq fgq 0 1 1 1 3 2 1 1 597 26 27 16 17 = true := by decide +kernel
theorem ncq_all {c m : Nat} (m6 : 6 ≤ m) (h20 : 20 ≤ c) (h47 : c ≤ 47) (hc : c + 2 * m ≤ 58) {s : T6} (hs : s ∈ lng ncq c) : (false = false → 5 ≤ 58 - 2 * m - c → dpD true frq fgq 0 0 1 1 1 3 2 1 s.2.2.1 s.2.2.2.1 1 s.2.2.2.2.1 s.2.2.2.2.2 s.1 (58 - 2 * m - c) m ≤ 597) ∧ (false = true → dpD true frq fgq 5 0 1 1 1 3 2 1 s.2.2.1 s.2.2.2.1 1 s.2.2.2.2.1 s.2.2.2.2.2 s.1 0 m ≤ 597) := by
  by_cases q26 : c < 26
  · skip
    by_cases q23 : c < 23
    · skip
      by_cases q21 : c < 21
      · skip
        by_cases m16 : m < 16
        · exact lne_get ncq_d20_6 (by omega) (by omega) (by omega) m16 hc hs
        by_cases m17 : m < 17
        · exact lne_get ncq_d20_16 (by omega) (by omega) (by omega) m17 hc hs
        by_cases m18 : m < 18
        · exact lne_get ncq_d20_17 (by omega) (by omega) (by omega) m18 hc hs
        by_cases m19 : m < 19
        · exact lne_get ncq_d20_18 (by omega) (by omega) (by omega) m19 hc hs
        exact lne_get ncq_d20_19 (by omega) (by omega) (by omega) (by omega) hc hs
      · skip
        by_cases q22 : c < 22
        · skip
          by_cases m16 : m < 16
          · exact lne_get ncq_d21_6 (by omega) (by omega) (by omega) m16 hc hs
          by_cases m17 : m < 17
          · exact lne_get ncq_d21_16 (by omega) (by omega) (by omega) m17 hc hs
          by_cases m18 : m < 18
          · exact lne_get ncq_d21_17 (by omega) (by omega) (by omega) m18 hc hs
          exact lne_get ncq_d21_18 (by omega) (by omega) (by omega) (by omega) hc hs
        · skip
          by_cases m16 : m < 16
          · exact lne_get ncq_d22_6 (by omega) (by omega) (by omega) m16 hc hs
          by_cases m17 : m < 17
          · exact lne_get ncq_d22_16 (by omega) (by omega) (by omega) m17 hc hs
          by_cases m18 : m < 18
          · exact lne_get ncq_d22_17 (by omega) (by omega) (by omega) m18 hc hs
          exact lne_get ncq_d22_18 (by omega) (by omega) (by omega) (by omega) hc hs
    · skip
      by_cases q24 : c < 24
      · skip
        by_cases m16 : m < 16
        · exact lne_get ncq_d23_6 (by omega) (by omega) (by omega) m16 hc hs
        by_cases m17 : m < 17
        · exact lne_get ncq_d23_16 (by omega) (by omega) (by omega) m17 hc hs
        exact lne_get ncq_d23_17 (by omega) (by omega) (by omega) (by omega) hc hs
      · skip
        by_cases q25 : c < 25
        · skip
          by_cases m16 : m < 16
          · exact lne_get ncq_d24_6 (by omega) (by omega) (by omega) m16 hc hs
          by_cases m17 : m < 17
          · exact lne_get ncq_d24_16 (by omega) (by omega) (by omega) m17 hc hs
          exact lne_get ncq_d24_17 (by omega) (by omega) (by omega) (by omega) hc hs
        · skip
          by_cases m16 : m < 16
          · exact lne_get ncq_d25_6 (by omega) (by omega) (by omega) m16 hc hs
          exact lne_get ncq_d25_16 (by omega) (by omega) (by omega) (by omega) hc hs
  · skip
    by_cases q29 : c < 29
    · skip
      by_cases q27 : c < 27
      · skip
        by_cases m16 : m < 16
        · exact lne_get ncq_d26_6 (by omega) (by omega) (by omega) m16 hc hs
        exact lne_get ncq_d26_16 (by omega) (by omega) (by omega) (by omega) hc hs
      · skip
        by_cases q28 : c < 28
        · skip
          exact lne_get ncq_d27_6 (by omega) (by omega) (by omega) (by omega) hc hs
        · skip
          exact lne_get ncq_d28_6 (by omega) (by omega) (by omega) (by omega) hc hs
    · skip
      by_cases q30 : c < 30
      · skip
        exact lne_get ncq_d29_6 (by omega) (by omega) (by omega) (by omega) hc hs
      · skip
        by_cases q36 : c < 36
        · skip
          exact lne_get ncq_d30_6 (by omega) (by omega) (by omega) (by omega) hc hs
        · skip
          exact lne_get ncq_d36_6 (by omega) (by omega) (by omega) (by omega) hc hs
