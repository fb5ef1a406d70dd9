/-! BY NATURE, lists b. -/
def yb1 : LnT := [[], [], [], [], [], [], [], [], [], [], [], [], [], [], [], [], [], [], [], [], [], [], [], [], [], [], [], [(32, 0, 23, 6, 0, 18)], [(37, 0, 29, 6, 0, 19)], [(37, 0, 29, 6, 0, 20)], [(38, 0, 29, 6, 0, 21)], [], [], [(35, 0, 23, 6, 1, 18)], [], [(63, 0, 46, 3, 4, 9)], [], [(77, 0, 49, 5, 2, 23), (67, 0, 37, 6, 2, 23), (50, 0, 31, 8, 1, 23), (45, 0, 22, 9, 1, 23)], [(56, 0, 43, 7, 1, 23), (52, 0, 29, 8, 1, 23), (47, 0, 22, 9, 1, 23)], [(89, 0, 45, 4, 4, 24), (56, 0, 38, 7, 1, 24), (52, 0, 29, 8, 1, 24), (47, 0, 22, 9, 1, 24)], [(113, 0, 82, 6, 4, 21), (60, 0, 55, 12, 1, 26)], [(122, 0, 29, 6, 4, 21), (90, 0, 86, 2, 4, 13), (69, 0, 65, 10, 1, 26), (60, 0, 32, 12, 1, 26)], [], [], [], [], [], []]
def ybq : LnT := [[], [], [], [], [], [], [], [], [], [], [], [], [], [], [], [], [], [], [], [], [], [], [], [], [], [], [], [(18, 0, 17, 6, 0, 18)], [(23, 0, 22, 6, 0, 19)], [(25, 0, 24, 6, 0, 20)], [(25, 0, 24, 6, 0, 21)], [], [], [(19, 0, 17, 6, 1, 18)], [], [(42, 0, 41, 3, 4, 9)], [], [(47, 0, 33, 5, 2, 23), (27, 0, 18, 9, 2, 23)], [(35, 0, 33, 7, 1, 23), (20, 0, 10, 9, 1, 23)], [(54, 0, 33, 5, 4, 24), (32, 0, 24, 8, 1, 24), (23, 0, 12, 9, 1, 24)], [(60, 0, 59, 6, 4, 21), (44, 0, 42, 11, 1, 26), (26, 0, 12, 12, 1, 26)], [(75, 0, 74, 5, 4, 21), (46, 0, 42, 11, 3, 26), (26, 0, 12, 12, 1, 26)], [], [], [], [], [], []]
def tb0 : List (Nat × Nat × Nat) := [(5, 0, 26), (5, 0, 27), (6, 0, 26), (8, 0, 18), (8, 0, 22), (8, 0, 23), (8, 0, 24), (9, 0, 17), (9, 0, 22), (9, 0, 23), (9, 17, 0), (9, 22, 0), (9, 23, 0), (10, 0, 21), (10, 0, 22), (10, 22, 0), (11, 0, 21), (12, 20, 0), (13, 0, 18), (13, 0, 19), (13, 19, 0), (14, 0, 17), (14, 0, 18), (15, 0, 17), (18, 0, 0), (18, 0, 6), (18, 0, 13), (18, 0, 14), (19, 0, 0), (19, 0, 9), (19, 0, 13), (20, 0, 0), (21, 0, 0), (21, 0, 10), (21, 0, 11), (22, 0, 7), (22, 0, 8), (22, 6, 0), (23, 0, 5), (23, 0, 6), (23, 0, 7), (23, 0, 8), (23, 5, 0), (24, 0, 6), (24, 0, 7), (24, 0, 8), (25, 0, 6), (25, 0, 7), (25, 6, 0), (25, 7, 0), (26, 0, 5), (26, 0, 6), (26, 5, 0), (26, 6, 0)]
def tb1 : List (Nat × Nat × Nat) := [(5, 0, 26), (5, 0, 27), (6, 0, 26), (8, 0, 18), (8, 0, 22), (8, 0, 23), (8, 0, 24), (9, 0, 17), (9, 0, 22), (9, 0, 23), (9, 17, 0), (9, 22, 0), (9, 23, 0), (10, 0, 21), (10, 0, 22), (10, 22, 0), (11, 0, 21), (12, 20, 0), (13, 0, 18), (13, 0, 19), (13, 19, 0), (14, 0, 17), (14, 0, 18), (15, 0, 17), (18, 0, 0), (18, 0, 6), (18, 0, 13), (18, 0, 14), (19, 0, 0), (19, 0, 9), (19, 0, 13), (20, 0, 0), (21, 0, 0), (21, 0, 10), (21, 0, 11), (22, 0, 7), (22, 0, 8), (22, 6, 0), (23, 0, 5), (23, 0, 6), (23, 0, 7), (23, 0, 8), (23, 5, 0), (24, 0, 6), (24, 0, 7), (24, 0, 8), (25, 0, 6), (25, 0, 7), (25, 6, 0), (25, 7, 0), (26, 0, 5), (26, 0, 6), (26, 5, 0), (26, 6, 0)]
theorem yb1_k : lnkb yb1 = true := by decide +kernel
theorem yb1_w : lnw yb1 2 = true := by decide +kernel
theorem ybq_k : lnkb ybq = true := by decide +kernel
theorem ybq_w : lnw ybq 1 = true := by decide +kernel
theorem yb1_z0 : lny yb1 xr1 fg1 fx1 1 3 2 false tb0 = true := by decide +kernel
theorem yb1_z1 : lny yb1 xr1 fg1 fx1 1 3 2 true tb1 = true := by decide +kernel
theorem yb1_z {o : Bool} {k q1 q2 : Nat} (h : (k, q1, q2) ∈ (if o then tb1 else tb0)) : lnz yb1 xr1 fg1 fx1 1 3 2 k q1 q2 (zow o k q1 q2) = true := by
  cases o with
  | false => exact lny_get yb1_z0 h
  | true => exact lny_get yb1_z1 h
theorem ybq_z0 : lny ybq xrq fgq fxq 0 1 1 false tb0 = true := by decide +kernel
theorem ybq_z1 : lny ybq xrq fgq fxq 0 1 1 true tb1 = true := by decide +kernel
theorem ybq_z {o : Bool} {k q1 q2 : Nat} (h : (k, q1, q2) ∈ (if o then tb1 else tb0)) : lnz ybq xrq fgq fxq 0 1 1 k q1 q2 (zow o k q1 q2) = true := by
  cases o with
  | false => exact lny_get ybq_z0 h
  | true => exact lny_get ybq_z1 h
theorem yb1_d20 : lne false false yb1 fr1 fg1 1 2 3 2 2 2 2 2 887 20 33 6 20 = true := by decide +kernel
theorem yb1_d33 : lne false false yb1 fr1 fg1 1 2 3 2 2 2 2 2 887 33 37 6 20 = true := by decide +kernel
theorem yb1_d37 : lne false false yb1 fr1 fg1 1 2 3 2 2 2 2 2 887 37 42 6 20 = true := by decide +kernel
theorem yb1_d42 : lne false false yb1 fr1 fg1 1 2 3 2 2 2 2 2 887 42 48 6 20 = true := by decide +kernel
theorem yb1_all {c m : Nat} (m6 : 6 ≤ m) (h20 : 20 ≤ c) (h47 : c ≤ 47) (hc : c + 2 * m ≤ 58) {s : T6} (hs : s ∈ lng yb1 c) : (false = false → 5 ≤ 58 - 2 * m - c → dpD false fr1 fg1 0 1 2 3 2 2 2 2 s.2.2.1 s.2.2.2.1 2 s.2.2.2.2.1 s.2.2.2.2.2 s.1 (58 - 2 * m - c) m ≤ 887) ∧ (false = true → dpD false fr1 fg1 5 1 2 3 2 2 2 2 s.2.2.1 s.2.2.2.1 2 s.2.2.2.2.1 s.2.2.2.2.2 s.1 0 m ≤ 887) := by
  by_cases q37 : c < 37
  · skip
    by_cases q33 : c < 33
    · skip
      exact lne_get yb1_d20 (by omega) (by omega) (by omega) (by omega) hc hs
    · skip
      exact lne_get yb1_d33 (by omega) (by omega) (by omega) (by omega) hc hs
  · skip
    by_cases q42 : c < 42
    · skip
      exact lne_get yb1_d37 (by omega) (by omega) (by omega) (by omega) hc hs
    · skip
      exact lne_get yb1_d42 (by omega) (by omega) (by omega) (by omega) hc hs
theorem ybq_d20 : lne false false ybq frq fgq 0 1 1 1 3 2 1 1 597 20 33 6 20 = true := by decide +kernel
theorem ybq_d33 : lne false false ybq frq fgq 0 1 1 1 3 2 1 1 597 33 37 6 20 = true := by decide +kernel
theorem ybq_d37 : lne false false ybq frq fgq 0 1 1 1 3 2 1 1 597 37 42 6 20 = true := by decide +kernel
theorem ybq_d42 : lne false false ybq frq fgq 0 1 1 1 3 2 1 1 597 42 48 6 20 = true := by decide +kernel
theorem ybq_all {c m : Nat} (m6 : 6 ≤ m) (h20 : 20 ≤ c) (h47 : c ≤ 47) (hc : c + 2 * m ≤ 58) {s : T6} (hs : s ∈ lng ybq c) : (false = false → 5 ≤ 58 - 2 * m - c → dpD false frq fgq 0 0 1 1 1 3 2 1 s.2.2.1 s.2.2.2.1 1 s.2.2.2.2.1 s.2.2.2.2.2 s.1 (58 - 2 * m - c) m ≤ 597) ∧ (false = true → dpD false frq fgq 5 0 1 1 1 3 2 1 s.2.2.1 s.2.2.2.1 1 s.2.2.2.2.1 s.2.2.2.2.2 s.1 0 m ≤ 597) := by
  by_cases q37 : c < 37
  · skip
    by_cases q33 : c < 33
    · skip
      exact lne_get ybq_d20 (by omega) (by omega) (by omega) (by omega) hc hs
    · skip
      exact lne_get ybq_d33 (by omega) (by omega) (by omega) (by omega) hc hs
  · skip
    by_cases q42 : c < 42
    · skip
      exact lne_get ybq_d37 (by omega) (by omega) (by omega) (by omega) hc hs
    · skip
      exact lne_get ybq_d42 (by omega) (by omega) (by omega) (by omega) hc hs
