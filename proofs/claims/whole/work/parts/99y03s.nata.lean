/-! BY NATURE, the checks. -/
theorem na1_d20_3 : lne false false na1 fr1 fg1 1 2 3 2 2 2 2 2 887 20 28 3 6 = true := by decide +kernel
theorem na1_d28_3 : lne false false na1 fr1 fg1 1 2 3 2 2 2 2 2 887 28 34 3 6 = true := by decide +kernel
theorem na1_d34_3 : lne false false na1 fr1 fg1 1 2 3 2 2 2 2 2 887 34 40 3 6 = true := by decide +kernel
theorem na1_d40_3 : lne false false na1 fr1 fg1 1 2 3 2 2 2 2 2 887 40 48 3 6 = true := by decide +kernel
theorem na1_all {c m : Nat} (m3 : 3 ≤ m) (m5 : m < 6) (h20 : 20 ≤ c) (h47 : c ≤ 47) (hc : c + 2 * m ≤ 58) {s : T6} (hs : s ∈ lng na1 c) : (false = false → 5 ≤ 58 - 2 * m - c → dpD false fr1 fg1 0 1 2 3 2 2 2 2 s.2.2.1 s.2.2.2.1 2 s.2.2.2.2.1 s.2.2.2.2.2 s.1 (58 - 2 * m - c) m ≤ 887) ∧ (false = true → dpD false fr1 fg1 5 1 2 3 2 2 2 2 s.2.2.1 s.2.2.2.1 2 s.2.2.2.2.1 s.2.2.2.2.2 s.1 0 m ≤ 887) := by
  by_cases q34 : c < 34
  · skip
    by_cases q28 : c < 28
    · skip
      exact lne_get na1_d20_3 (by omega) (by omega) (by omega) (by omega) hc hs
    · skip
      exact lne_get na1_d28_3 (by omega) (by omega) (by omega) (by omega) hc hs
  · skip
    by_cases q40 : c < 40
    · skip
      exact lne_get na1_d34_3 (by omega) (by omega) (by omega) (by omega) hc hs
    · skip
      exact lne_get na1_d40_3 (by omega) (by omega) (by omega) (by omega) hc hs
