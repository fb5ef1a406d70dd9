/-! BY NATURE, lists ve. -/
def yve1 : LnT := [[], [], [], [], [], [], [], [], [], [], [], [], [], [], [], [], [], [], [], [], [], [], [], [], [], [], [], [(25, 0, 21, 4, 0, 18)], [(29, 0, 25, 4, 0, 19)], [], [], [(35, 0, 31, 5, 0, 22)], [(41, 0, 37, 6, 0, 23)], [(45, 0, 41, 6, 0, 24)], [(45, 0, 41, 6, 0, 25)], [(47, 0, 43, 6, 0, 26)], [(53, 0, 31, 5, 2, 22)], [], [], [(65, 0, 61, 9, 0, 30)], [(73, 0, 31, 5, 2, 22)], [(85, 0, 49, 8, 2, 27), (54, 0, 31, 9, 1, 27)], [(93, 0, 61, 7, 2, 28), (62, 0, 41, 9, 1, 28)], [], [], [], [], []]
def yveq : LnT := [[], [], [], [], [], [], [], [], [], [], [], [], [], [], [], [], [], [], [], [], [], [], [], [], [], [], [], [(15, 0, 14, 4, 0, 18)], [(15, 0, 14, 4, 0, 19)], [], [], [(19, 0, 18, 5, 0, 22)], [(20, 0, 19, 6, 0, 23)], [(25, 0, 24, 6, 0, 24)], [(28, 0, 27, 6, 0, 25)], [(28, 0, 27, 6, 0, 26)], [(31, 0, 18, 5, 2, 22)], [], [], [(39, 0, 38, 9, 0, 30)], [(39, 0, 18, 5, 2, 22)], [(41, 0, 30, 9, 2, 27)], [(51, 0, 36, 9, 2, 28)], [], [], [], [], []]
def tve0 : List (Nat × Nat × Nat) := [(18, 0, 0), (18, 0, 9), (19, 0, 0), (22, 0, 0), (22, 0, 5), (22, 0, 9), (22, 0, 10), (22, 0, 11), (22, 5, 0), (23, 0, 0), (23, 0, 9), (23, 0, 10), (24, 0, 0), (24, 0, 9), (25, 0, 0), (26, 0, 0), (27, 0, 5), (27, 0, 6), (27, 5, 0), (27, 6, 0), (28, 0, 5), (28, 5, 0), (30, 0, 0)]
def tve1 : List (Nat × Nat × Nat) := [(18, 0, 0), (18, 0, 9), (19, 0, 0), (22, 0, 0), (22, 0, 5), (22, 0, 9), (22, 0, 10), (22, 0, 11), (22, 5, 0), (23, 0, 0), (23, 0, 9), (23, 0, 10), (24, 0, 0), (24, 0, 9), (25, 0, 0), (26, 0, 0), (27, 0, 5), (27, 0, 6), (27, 5, 0), (27, 6, 0), (28, 0, 5), (28, 5, 0), (30, 0, 0)]
theorem yve1_k : lnkb yve1 = true := by decide +kernel
theorem yve1_w : lnw yve1 2 = true := by decide +kernel
theorem yveq_k : lnkb yveq = true := by decide +kernel
theorem yveq_w : lnw yveq 1 = true := by decide +kernel
theorem yve1_z0 : lny yve1 xfa1 fg1 fx1 1 3 2 false tve0 = true := by decide +kernel
theorem yve1_z1 : lny yve1 xfa1 fg1 fx1 1 3 2 true tve1 = true := by decide +kernel
theorem yve1_z {o : Bool} {k q1 q2 : Nat} (h : (k, q1, q2) ∈ (if o then tve1 else tve0)) : lnz yve1 xfa1 fg1 fx1 1 3 2 k q1 q2 (zow o k q1 q2) = true := by
  cases o with
  | false => exact lny_get yve1_z0 h
  | true => exact lny_get yve1_z1 h
theorem yveq_z0 : lny yveq xfaq fgq fxq 0 1 1 false tve0 = true := by decide +kernel
theorem yveq_z1 : lny yveq xfaq fgq fxq 0 1 1 true tve1 = true := by decide +kernel
theorem yveq_z {o : Bool} {k q1 q2 : Nat} (h : (k, q1, q2) ∈ (if o then tve1 else tve0)) : lnz yveq xfaq fgq fxq 0 1 1 k q1 q2 (zow o k q1 q2) = true := by
  cases o with
  | false => exact lny_get yveq_z0 h
  | true => exact lny_get yveq_z1 h
theorem yve1_d20 : lne true true yve1 fr1 fg1 1 2 3 2 2 2 2 2 887 20 33 3 20 = true := by decide +kernel
theorem yve1_d33 : lne true true yve1 fr1 fg1 1 2 3 2 2 2 2 2 887 33 37 3 20 = true := by decide +kernel
theorem yve1_d37 : lne true true yve1 fr1 fg1 1 2 3 2 2 2 2 2 887 37 42 3 20 = true := by decide +kernel
theorem yve1_d42 : lne true true yve1 fr1 fg1 1 2 3 2 2 2 2 2 887 42 48 3 20 = true := by decide +kernel
theorem yve1_all {c m : Nat} (m3 : 3 ≤ m) (h20 : 20 ≤ c) (h47 : c ≤ 47) (hc : c + 2 * m ≤ 58) {s : T6} (hs : s ∈ lng yve1 c) : (true = false → 5 ≤ 58 - 2 * m - c → dpD true fr1 fg1 0 1 2 3 2 2 2 2 s.2.2.1 s.2.2.2.1 2 s.2.2.2.2.1 s.2.2.2.2.2 s.1 (58 - 2 * m - c) m ≤ 887) ∧ (true = true → dpD true fr1 fg1 5 1 2 3 2 2 2 2 s.2.2.1 s.2.2.2.1 2 s.2.2.2.2.1 s.2.2.2.2.2 s.1 0 m ≤ 887) := by
  by_cases q37 : c < 37
  · skip
    by_cases q33 : c < 33
    · skip
      exact lne_get yve1_d20 (by omega) (by omega) (by omega) (by omega) hc hs
    · skip
      exact lne_get yve1_d33 (by omega) (by omega) (by omega) (by omega) hc hs
  · skip
    by_cases q42 : c < 42
    · skip
      exact lne_get yve1_d37 (by omega) (by omega) (by omega) (by omega) hc hs
    · skip
      exact lne_get yve1_d42 (by omega) (by omega) (by omega) (by omega) hc hs
theorem yveq_d20 : lne true true yveq frq fgq 0 1 1 1 3 2 1 1 597 20 33 3 20 = true := by decide +kernel
theorem yveq_d33 : lne true true yveq frq fgq 0 1 1 1 3 2 1 1 597 33 37 3 20 = true := by decide +kernel
theorem yveq_d37 : lne true true yveq frq fgq 0 1 1 1 3 2 1 1 597 37 42 3 20 = true := by decide +kernel
theorem yveq_d42 : lne true true yveq frq fgq 0 1 1 1 3 2 1 1 597 42 48 3 20 = true := by decide +kernel
theorem yveq_all {c m : Nat} (m3 : 3 ≤ m) (h20 : 20 ≤ c) (h47 : c ≤ 47) (hc : c + 2 * m ≤ 58) {s : T6} (hs : s ∈ lng yveq c) : (true = false → 5 ≤ 58 - 2 * m - c → dpD true frq fgq 0 0 1 1 1 3 2 1 s.2.2.1 s.2.2.2.1 1 s.2.2.2.2.1 s.2.2.2.2.2 s.1 (58 - 2 * m - c) m ≤ 597) ∧ (true = true → dpD true frq fgq 5 0 1 1 1 3 2 1 s.2.2.1 s.2.2.2.1 1 s.2.2.2.2.1 s.2.2.2.2.2 s.1 0 m ≤ 597) := by
  by_cases q37 : c < 37
  · skip
    by_cases q33 : c < 33
    · skip
      exact lne_get yveq_d20 (by omega) (by omega) (by omega) (by omega) hc hs
    · skip
      exact lne_get yveq_d33 (by omega) (by omega) (by omega) (by omega) hc hs
  · skip
    by_cases q42 : c < 42
    · skip
      exact lne_get yveq_d37 (by omega) (by omega) (by omega) (by omega) hc hs
    · skip
      exact lne_get yveq_d42 (by omega) (by omega) (by omega) (by omega) hc hs
