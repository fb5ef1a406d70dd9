/-! BY NATURE, lists wc. -/
def ywc1 : LnT := [[], [], [], [], [], [], [], [], [], [], [], [], [], [], [], [], [], [], [], [], [], [], [], [], [], [], [], [(23, 0, 19, 4, 0, 18)], [(25, 0, 20, 4, 0, 19)], [(25, 0, 21, 4, 0, 20)], [(27, 0, 23, 4, 0, 21)], [], [(33, 0, 29, 5, 0, 23)], [(35, 0, 30, 5, 1, 24)], [(37, 0, 33, 5, 0, 25)], [(51, 0, 19, 1, 4, 9)], [], [(53, 0, 20, 4, 2, 19), (35, 0, 31, 5, 1, 23)], [(49, 0, 45, 7, 1, 29)], [(57, 0, 33, 5, 2, 25)], [(83, 0, 27, 5, 4, 22), (44, 0, 39, 6, 4, 26)], [(95, 0, 29, 4, 3, 23), (83, 0, 27, 5, 4, 23), (61, 0, 57, 6, 4, 27), (46, 0, 27, 7, 1, 27)], [], [], [], [], [], []]
def ywcq : LnT := [[], [], [], [], [], [], [], [], [], [], [], [], [], [], [], [], [], [], [], [], [], [], [], [], [], [], [], [(15, 0, 14, 4, 0, 18)], [(15, 0, 14, 4, 0, 19)], [(15, 0, 14, 4, 0, 20)], [(18, 0, 17, 4, 0, 21)], [], [(18, 0, 17, 5, 0, 23)], [(22, 0, 21, 5, 1, 24)], [(22, 0, 21, 5, 0, 25)], [(27, 0, 17, 1, 4, 9)], [], [(31, 0, 17, 5, 2, 23)], [(31, 0, 30, 7, 1, 29)], [(37, 0, 21, 5, 2, 25)], [(47, 0, 23, 5, 4, 26), (20, 0, 12, 6, 1, 26)], [(51, 0, 40, 5, 4, 23), (29, 0, 27, 7, 1, 27)], [], [], [], [], [], []]
def twc0 : List (Nat × Nat × Nat) := [(5, 0, 26), (5, 0, 27), (6, 0, 26), (8, 0, 18), (8, 0, 22), (8, 0, 23), (8, 0, 24), (9, 0, 17), (9, 0, 22), (9, 0, 23), (9, 17, 0), (9, 22, 0), (9, 23, 0), (10, 0, 21), (10, 0, 22), (10, 22, 0), (11, 0, 21), (12, 20, 0), (13, 0, 18), (13, 0, 19), (13, 19, 0), (14, 0, 17), (14, 0, 18), (15, 0, 17), (18, 0, 0), (18, 0, 6), (18, 0, 13), (18, 0, 14), (19, 0, 0), (19, 0, 9), (19, 0, 13), (20, 0, 0), (21, 0, 0), (21, 0, 9), (21, 0, 10), (21, 0, 11), (22, 0, 6), (22, 0, 7), (22, 0, 8), (22, 0, 9), (22, 0, 10), (22, 6, 0), (23, 0, 0), (23, 0, 5), (23, 0, 6), (23, 0, 7), (23, 0, 8), (23, 0, 9), (23, 5, 0), (24, 0, 0), (24, 0, 6), (24, 0, 7), (24, 0, 8), (25, 0, 0), (25, 0, 5), (25, 0, 6), (25, 0, 7), (25, 5, 0), (25, 6, 0), (25, 7, 0), (26, 0, 5), (26, 0, 6), (26, 5, 0), (26, 6, 0), (27, 0, 5), (27, 5, 0), (29, 0, 0)]
def twc1 : List (Nat × Nat × Nat) := [(5, 0, 26), (5, 0, 27), (6, 0, 26), (8, 0, 18), (8, 0, 22), (8, 0, 23), (8, 0, 24), (9, 0, 17), (9, 0, 22), (9, 0, 23), (9, 17, 0), (9, 22, 0), (9, 23, 0), (10, 0, 21), (10, 22, 0), (11, 0, 21), (12, 20, 0), (13, 0, 18), (13, 0, 19), (13, 19, 0), (14, 0, 17), (14, 0, 18), (15, 0, 17), (18, 0, 0), (18, 0, 6), (18, 0, 13), (18, 0, 14), (19, 0, 0), (19, 0, 9), (19, 0, 13), (20, 0, 0), (21, 0, 0), (21, 0, 9), (21, 0, 10), (21, 0, 11), (22, 0, 6), (22, 0, 7), (22, 0, 8), (22, 0, 9), (22, 0, 10), (22, 6, 0), (23, 0, 0), (23, 0, 5), (23, 0, 6), (23, 0, 7), (23, 0, 8), (23, 0, 9), (23, 5, 0), (24, 0, 0), (24, 0, 6), (24, 0, 7), (24, 0, 8), (25, 0, 0), (25, 0, 5), (25, 0, 6), (25, 0, 7), (25, 5, 0), (25, 6, 0), (25, 7, 0), (26, 0, 5), (26, 0, 6), (26, 5, 0), (26, 6, 0), (27, 0, 5), (27, 5, 0), (29, 0, 0)]
theorem ywc1_k : lnkb ywc1 = true := by decide +kernel
theorem ywc1_w : lnw ywc1 2 = true := by decide +kernel
theorem ywcq_k : lnkb ywcq = true := by decide +kernel
theorem ywcq_w : lnw ywcq 1 = true := by decide +kernel
theorem ywc1_z0 : lny ywc1 yw1 fg1 fx1 1 3 2 false twc0 = true := by decide +kernel
theorem ywc1_z1 : lny ywc1 yw1 fg1 fx1 1 3 2 true twc1 = true := by decide +kernel
theorem ywc1_z {o : Bool} {k q1 q2 : Nat} (h : (k, q1, q2) ∈ (if o then twc1 else twc0)) : lnz ywc1 yw1 fg1 fx1 1 3 2 k q1 q2 (zow o k q1 q2) = true := by
  cases o with
  | false => exact lny_get ywc1_z0 h
  | true => exact lny_get ywc1_z1 h
theorem ywcq_z0 : lny ywcq ywq fgq fxq 0 1 1 false twc0 = true := by decide +kernel
theorem ywcq_z1 : lny ywcq ywq fgq fxq 0 1 1 true twc1 = true := by decide +kernel
theorem ywcq_z {o : Bool} {k q1 q2 : Nat} (h : (k, q1, q2) ∈ (if o then twc1 else twc0)) : lnz ywcq ywq fgq fxq 0 1 1 k q1 q2 (zow o k q1 q2) = true := by
  cases o with
  | false => exact lny_get ywcq_z0 h
  | true => exact lny_get ywcq_z1 h
theorem ywc1_d20 : lne true false ywc1 fr1 fg1 1 2 3 2 2 2 2 2 887 20 33 6 20 = true := by decide +kernel
theorem ywc1_d33 : lne true false ywc1 fr1 fg1 1 2 3 2 2 2 2 2 887 33 37 6 20 = true := by decide +kernel
theorem ywc1_d37 : lne true false ywc1 fr1 fg1 1 2 3 2 2 2 2 2 887 37 42 6 20 = true := by decide +kernel
theorem ywc1_d42 : lne true false ywc1 fr1 fg1 1 2 3 2 2 2 2 2 887 42 48 6 20 = true := by decide +kernel
theorem ywc1_all {c m : Nat} (m6 : 6 ≤ m) (h20 : 20 ≤ c) (h47 : c ≤ 47) (hc : c + 2 * m ≤ 58) {s : T6} (hs : s ∈ lng ywc1 c) : (false = false → 5 ≤ 58 - 2 * m - c → dpD true fr1 fg1 0 1 2 3 2 2 2 2 s.2.2.1 s.2.2.2.1 2 s.2.2.2.2.1 s.2.2.2.2.2 s.1 (58 - 2 * m - c) m ≤ 887) ∧ (false = true → dpD true fr1 fg1 5 1 2 3 2 2 2 2 s.2.2.1 s.2.2.2.1 2 s.2.2.2.2.1 s.2.2.2.2.2 s.1 0 m ≤ 887) := by
  by_cases q37 : c < 37
  · skip
    by_cases q33 : c < 33
    · skip
      exact lne_get ywc1_d20 (by omega) (by omega) (by omega) (by omega) hc hs
    · skip
      exact lne_get ywc1_d33 (by omega) (by omega) (by omega) (by omega) hc hs
  · skip
    by_cases q42 : c < 42
    · skip
      exact lne_get ywc1_d37 (by omega) (by omega) (by omega) (by omega) hc hs
    · skip
      exact lne_get ywc1_d42 (by omega) (by omega) (by omega) (by omega) hc hs
theorem ywcq_d20 : lne true false ywcq frq fgq 0 1 1 1 3 2 1 1 597 20 33 6 20 = true := by decide +kernel
theorem ywcq_d33 : lne true false ywcq frq fgq 0 1 1 1 3 2 1 1 597 33 37 6 20 = true := by decide +kernel
theorem ywcq_d37 : lne true false ywcq frq fgq 0 1 1 1 3 2 1 1 597 37 42 6 20 = true := by decide +kernel
theorem ywcq_d42 : lne true false ywcq frq fgq 0 1 1 1 3 2 1 1 597 42 48 6 20 = true := by decide +kernel
theorem ywcq_all {c m : Nat} (m6 : 6 ≤ m) (h20 : 20 ≤ c) (h47 : c ≤ 47) (hc : c + 2 * m ≤ 58) {s : T6} (hs : s ∈ lng ywcq c) : (false = false → 5 ≤ 58 - 2 * m - c → dpD true frq fgq 0 0 1 1 1 3 2 1 s.2.2.1 s.2.2.2.1 1 s.2.2.2.2.1 s.2.2.2.2.2 s.1 (58 - 2 * m - c) m ≤ 597) ∧ (false = true → dpD true frq fgq 5 0 1 1 1 3 2 1 s.2.2.1 s.2.2.2.1 1 s.2.2.2.2.1 s.2.2.2.2.2 s.1 0 m ≤ 597) := by
  by_cases q37 : c < 37
  · skip
    by_cases q33 : c < 33
    · skip
      exact lne_get ywcq_d20 (by omega) (by omega) (by omega) (by omega) hc hs
    · skip
      exact lne_get ywcq_d33 (by omega) (by omega) (by omega) (by omega) hc hs
  · skip
    by_cases q42 : c < 42
    · skip
      exact lne_get ywcq_d37 (by omega) (by omega) (by omega) (by omega) hc hs
    · skip
      exact lne_get ywcq_d42 (by omega) (by omega) (by omega) (by omega) hc hs
