/-! BY NATURE, contexts. -/
theorem naq_a0 : lnv naq xa0 xa1 xrq fgq fxq 0 1 1 false 0 10 = true := by decide +kernel
theorem naq_a10 : lnv naq xa0 xa1 xrq fgq fxq 0 1 1 false 10 16 = true := by decide +kernel
theorem naq_a16 : lnv naq xa0 xa1 xrq fgq fxq 0 1 1 false 16 39 = true := by decide +kernel
theorem naq_b0 : lnv naq xa0 xa1 xrq fgq fxq 0 1 1 true 0 10 = true := by decide +kernel
theorem naq_b10 : lnv naq xa0 xa1 xrq fgq fxq 0 1 1 true 10 16 = true := by decide +kernel
theorem naq_b16 : lnv naq xa0 xa1 xrq fgq fxq 0 1 1 true 16 39 = true := by decide +kernel
theorem naq_z {o : Bool} (k q1 q2 : Nat) (hz : znv xa0 xa1 o k q1 q2 = true) (k1 : 1 ≤ k) (k39 : k < 39) (z1 : q5 q1 = true) (z2 : q5 q2 = true) (hc : 9 + k + q1 + q2 ≤ 47) (h20 : 20 ≤ 9 + k + q1 + q2) : lnz naq xrq fgq fxq 0 1 1 k q1 q2 (zow o k q1 q2) = true := by
  cases o with
  | false =>
    by_cases c1 : k < 10
    · exact lnv_get naq_a0 (Nat.zero_le _) c1 hz k1 z1 z2 hc h20
    · by_cases c2 : k < 16
      · exact lnv_get naq_a10 (by omega) c2 hz k1 z1 z2 hc h20
      · exact lnv_get naq_a16 (by omega) k39 hz k1 z1 z2 hc h20
  | true =>
    by_cases c1 : k < 10
    · exact lnv_get naq_b0 (Nat.zero_le _) c1 hz k1 z1 z2 hc h20
    · by_cases c2 : k < 16
      · exact lnv_get naq_b10 (by omega) c2 hz k1 z1 z2 hc h20
      · exact lnv_get naq_b16 (by omega) k39 hz k1 z1 z2 hc h20
