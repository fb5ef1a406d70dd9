/-! BY NATURE, the checks. -/
theorem naq_d20_3 : lne false false naq frq fgq 0 1 1 1 3 2 1 1 597 20 28 3 6 = true := by decide +kernel
theorem naq_d28_3 : lne false false naq frq fgq 0 1 1 1 3 2 1 1 597 28 34 3 6 = true := by decide +kernel
theorem naq_d34_3 : lne false false naq frq fgq 0 1 1 1 3 2 1 1 597 34 40 3 6 = true := by decide +kernel
theorem naq_d40_3 : lne false false naq frq fgq 0 1 1 1 3 2 1 1 597 40 48 3 6 = true := by decide +kernel
theorem naq_all {c m : Nat} (m3 : 3 ≤ m) (m5 : m < 6) (h20 : 20 ≤ c) (h47 : c ≤ 47) (hc : c + 2 * m ≤ 58) {s : T6} (hs : s ∈ lng naq c) : (false = false → 5 ≤ 58 - 2 * m - c → dpD false frq fgq 0 0 1 1 1 3 2 1 s.2.2.1 s.2.2.2.1 1 s.2.2.2.2.1 s.2.2.2.2.2 s.1 (58 - 2 * m - c) m ≤ 597) ∧ (false = true → dpD false frq fgq 5 0 1 1 1 3 2 1 s.2.2.1 s.2.2.2.1 1 s.2.2.2.2.1 s.2.2.2.2.2 s.1 0 m ≤ 597) := by
  by_cases q34 : c < 34
  · skip
    by_cases q28 : c < 28
    · skip
      exact lne_get naq_d20_3 (by omega) (by omega) (by omega) (by omega) hc hs
    · skip
      exact lne_get naq_d28_3 (by omega) (by omega) (by omega) (by omega) hc hs
  · skip
    by_cases q40 : c < 40
    · skip
      exact lne_get naq_d34_3 (by omega) (by omega) (by omega) (by omega) hc hs
    · skip
      exact lne_get naq_d40_3 (by omega) (by omega) (by omega) (by omega) hc hs
