/-! BY NATURE, lists vc. -/
def yvc1 : LnT := [[], [], [], [], [], [], [], [], [], [], [], [], [], [], [], [], [], [], [], [], [], [], [], [], [], [], [], [(25, 0, 21, 4, 0, 18)], [(29, 0, 25, 4, 0, 19)], [(31, 0, 27, 4, 0, 20)], [(31, 0, 27, 4, 0, 21)], [], [], [(28, 0, 21, 4, 1, 18)], [(45, 0, 41, 5, 0, 25), (41, 0, 25, 6, 0, 25)], [(51, 0, 19, 1, 4, 9)], [], [(61, 0, 25, 4, 2, 19), (42, 0, 37, 6, 1, 23)], [(44, 0, 37, 6, 1, 23)], [(71, 0, 41, 5, 4, 25), (44, 0, 25, 6, 1, 25)], [(83, 0, 45, 4, 4, 25), (53, 0, 43, 6, 2, 26)], [(104, 0, 25, 4, 3, 19), (83, 0, 57, 4, 4, 22), (53, 0, 49, 6, 2, 26)], [], [], [], [], [], []]
def yvcq : LnT := [[], [], [], [], [], [], [], [], [], [], [], [], [], [], [], [], [], [], [], [], [], [], [], [], [], [], [], [(15, 0, 14, 4, 0, 18)], [(15, 0, 14, 4, 0, 19)], [(15, 0, 14, 4, 0, 20)], [(19, 0, 18, 4, 0, 21)], [], [], [(16, 0, 14, 4, 1, 18)], [(28, 0, 27, 6, 0, 25)], [(27, 0, 17, 1, 4, 9)], [], [(31, 0, 19, 6, 2, 23)], [(21, 0, 19, 6, 1, 23)], [(39, 0, 27, 6, 4, 25)], [(47, 0, 27, 5, 4, 26), (26, 0, 18, 6, 1, 26)], [(51, 0, 40, 5, 4, 22), (29, 0, 27, 6, 1, 26)], [], [], [], [], [], []]
def tvc0 : List (Nat × Nat × Nat) := [(5, 0, 26), (5, 0, 27), (6, 0, 26), (8, 0, 18), (8, 0, 22), (8, 0, 23), (8, 0, 24), (9, 0, 17), (9, 0, 22), (9, 0, 23), (9, 17, 0), (9, 22, 0), (9, 23, 0), (10, 0, 21), (10, 0, 22), (10, 22, 0), (11, 0, 21), (12, 20, 0), (13, 0, 18), (13, 0, 19), (13, 19, 0), (14, 0, 17), (14, 0, 18), (15, 0, 17), (18, 0, 0), (18, 0, 6), (18, 0, 13), (18, 0, 14), (19, 0, 0), (19, 0, 9), (19, 0, 13), (20, 0, 0), (21, 0, 0), (21, 0, 9), (21, 0, 10), (21, 0, 11), (22, 0, 6), (22, 0, 7), (22, 0, 8), (22, 0, 9), (22, 0, 10), (22, 6, 0), (23, 0, 5), (23, 0, 6), (23, 0, 7), (23, 0, 8), (23, 5, 0), (24, 0, 6), (24, 0, 7), (24, 0, 8), (25, 0, 0), (25, 0, 5), (25, 0, 6), (25, 0, 7), (25, 5, 0), (25, 6, 0), (25, 7, 0), (26, 0, 5), (26, 0, 6), (26, 5, 0), (26, 6, 0)]
def tvc1 : List (Nat × Nat × Nat) := [(5, 0, 26), (5, 0, 27), (6, 0, 26), (8, 0, 18), (8, 0, 22), (8, 0, 23), (8, 0, 24), (9, 0, 17), (9, 0, 22), (9, 0, 23), (9, 17, 0), (9, 22, 0), (9, 23, 0), (10, 0, 21), (10, 22, 0), (11, 0, 21), (12, 20, 0), (13, 0, 18), (13, 0, 19), (13, 19, 0), (14, 0, 17), (14, 0, 18), (18, 0, 0), (18, 0, 6), (18, 0, 13), (18, 0, 14), (19, 0, 0), (19, 0, 9), (19, 0, 13), (20, 0, 0), (21, 0, 0), (21, 0, 9), (21, 0, 10), (21, 0, 11), (22, 0, 6), (22, 0, 7), (22, 0, 8), (22, 0, 9), (22, 0, 10), (22, 6, 0), (23, 0, 5), (23, 0, 6), (23, 0, 7), (23, 0, 8), (23, 5, 0), (24, 0, 6), (24, 0, 7), (24, 0, 8), (25, 0, 0), (25, 0, 5), (25, 0, 6), (25, 0, 7), (25, 5, 0), (25, 6, 0), (25, 7, 0), (26, 0, 5), (26, 0, 6), (26, 5, 0), (26, 6, 0)]
theorem yvc1_k : lnkb yvc1 = true := by decide +kernel
theorem yvc1_w : lnw yvc1 2 = true := by decide +kernel
theorem yvcq_k : lnkb yvcq = true := by decide +kernel
theorem yvcq_w : lnw yvcq 1 = true := by decide +kernel
theorem yvc1_z0 : lny yvc1 xfa1 fg1 fx1 1 3 2 false tvc0 = true := by decide +kernel
theorem yvc1_z1 : lny yvc1 xfa1 fg1 fx1 1 3 2 true tvc1 = true := by decide +kernel
theorem yvc1_z {o : Bool} {k q1 q2 : Nat} (h : (k, q1, q2) ∈ (if o then tvc1 else tvc0)) : lnz yvc1 xfa1 fg1 fx1 1 3 2 k q1 q2 (zow o k q1 q2) = true := by
  cases o with
  | false => exact lny_get yvc1_z0 h
  | true => exact lny_get yvc1_z1 h
theorem yvcq_z0 : lny yvcq xfaq fgq fxq 0 1 1 false tvc0 = true := by decide +kernel
theorem yvcq_z1 : lny yvcq xfaq fgq fxq 0 1 1 true tvc1 = true := by decide +kernel
theorem yvcq_z {o : Bool} {k q1 q2 : Nat} (h : (k, q1, q2) ∈ (if o then tvc1 else tvc0)) : lnz yvcq xfaq fgq fxq 0 1 1 k q1 q2 (zow o k q1 q2) = true := by
  cases o with
  | false => exact lny_get yvcq_z0 h
  | true => exact lny_get yvcq_z1 h
theorem yvc1_d20 : lne true false yvc1 fr1 fg1 1 2 3 2 2 2 2 2 887 20 33 6 20 = true := by decide +kernel
theorem yvc1_d33 : lne true false yvc1 fr1 fg1 1 2 3 2 2 2 2 2 887 33 37 6 20 = true := by decide +kernel
theorem yvc1_d37 : lne true false yvc1 fr1 fg1 1 2 3 2 2 2 2 2 887 37 42 6 20 = true := by decide +kernel
theorem yvc1_d42 : lne true false yvc1 fr1 fg1 1 2 3 2 2 2 2 2 887 42 48 6 20 = true := by decide +kernel
theorem yvc1_all {c m : Nat} (m6 : 6 ≤ m) (h20 : 20 ≤ c) (h47 : c ≤ 47) (hc : c + 2 * m ≤ 58) {s : T6} (hs : s ∈ lng yvc1 c) : (false = false → 5 ≤ 58 - 2 * m - c → dpD true fr1 fg1 0 1 2 3 2 2 2 2 s.2.2.1 s.2.2.2.1 2 s.2.2.2.2.1 s.2.2.2.2.2 s.1 (58 - 2 * m - c) m ≤ 887) ∧ (false = true → dpD true fr1 fg1 5 1 2 3 2 2 2 2 s.2.2.1 s.2.2.2.1 2 s.2.2.2.2.1 s.2.2.2.2.2 s.1 0 m ≤ 887) := by
  by_cases q37 : c < 37
  · skip
    by_cases q33 : c < 33
    · skip
      exact lne_get yvc1_d20 (by omega) (by omega) (by omega) (by omega) hc hs
    · skip
      exact lne_get yvc1_d33 (by omega) (by omega) (by omega) (by omega) hc hs
  · skip
    by_cases q42 : c < 42
    · skip
      exact lne_get yvc1_d37 (by omega) (by omega) (by omega) (by omega) hc hs
    · skip
      exact lne_get yvc1_d42 (by omega) (by omega) (by omega) (by omega) hc hs
theorem yvcq_d20 : lne true false yvcq frq fgq 0 1 1 1 3 2 1 1 597 20 33 6 20 = true := by decide +kernel
theorem yvcq_d33 : lne true false yvcq frq fgq 0 1 1 1 3 2 1 1 597 33 37 6 20 = true := by decide +kernel
theorem yvcq_d37 : lne true false yvcq frq fgq 0 1 1 1 3 2 1 1 597 37 42 6 20 = true := by decide +kernel
theorem yvcq_d42 : lne true false yvcq frq fgq 0 1 1 1 3 2 1 1 597 42 48 6 20 = true := by decide +kernel
theorem yvcq_all {c m : Nat} (m6 : 6 ≤ m) (h20 : 20 ≤ c) (h47 : c ≤ 47) (hc : c + 2 * m ≤ 58) {s : T6} (hs : s ∈ lng yvcq c) : (false = false → 5 ≤ 58 - 2 * m - c → dpD true frq fgq 0 0 1 1 1 3 2 1 s.2.2.1 s.2.2.2.1 1 s.2.2.2.2.1 s.2.2.2.2.2 s.1 (58 - 2 * m - c) m ≤ 597) ∧ (false = true → dpD true frq fgq 5 0 1 1 1 3 2 1 s.2.2.1 s.2.2.2.1 1 s.2.2.2.2.1 s.2.2.2.2.2 s.1 0 m ≤ 597) := by
  by_cases q37 : c < 37
  · skip
    by_cases q33 : c < 33
    · skip
      exact lne_get yvcq_d20 (by omega) (by omega) (by omega) (by omega) hc hs
    · skip
      exact lne_get yvcq_d33 (by omega) (by omega) (by omega) (by omega) hc hs
  · skip
    by_cases q42 : c < 42
    · skip
      exact lne_get yvcq_d37 (by omega) (by omega) (by omega) (by omega) hc hs
    · skip
      exact lne_get yvcq_d42 (by omega) (by omega) (by omega) (by omega) hc hs
