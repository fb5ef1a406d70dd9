/-! BY NATURE, the checks. -/
theorem naq_d20 : lnd false naq frq fgq 0 1 1 1 3 2 1 1 597 20 28 3 6 = true := by decide +kernel
theorem naq_d28 : lnd false naq frq fgq 0 1 1 1 3 2 1 1 597 28 34 3 6 = true := by decide +kernel
theorem naq_d34 : lnd false naq frq fgq 0 1 1 1 3 2 1 1 597 34 40 3 6 = true := by decide +kernel
theorem naq_d40 : lnd false naq frq fgq 0 1 1 1 3 2 1 1 597 40 48 3 6 = true := by decide +kernel
theorem naq_all {c m : Nat} (m3 : 3 ≤ m) (m5 : m < 6) (h20 : 20 ≤ c) (h47 : c ≤ 47) (hc : c + 2 * m ≤ 58) {s : T6} (hs : s ∈ lng naq c) : (5 ≤ 58 - 2 * m - c → dpD false frq fgq 0 0 1 1 1 3 2 1 s.2.2.1 s.2.2.2.1 1 s.2.2.2.2.1 s.2.2.2.2.2 s.1 (58 - 2 * m - c) m ≤ 597) ∧ dpD false frq fgq 5 0 1 1 1 3 2 1 s.2.2.1 s.2.2.2.1 1 s.2.2.2.2.1 s.2.2.2.2.2 s.1 0 m ≤ 597 := by
  by_cases c1 : c < 34
  · by_cases c2 : c < 28
    · exact lnd_get naq_d20 h20 c2 m3 m5 hc hs
    · exact lnd_get naq_d28 (by omega) c1 m3 m5 hc hs
  · by_cases c2 : c < 40
    · exact lnd_get naq_d34 (by omega) c2 m3 m5 hc hs
    · exact lnd_get naq_d40 (by omega) (by omega) m3 m5 hc hs
