/-! BY NATURE, lists we. -/
def ywe1 : LnT := [[], [], [], [], [], [], [], [], [], [], [], [], [], [], [], [], [], [], [], [], [], [], [], [], [], [], [], [(23, 0, 19, 4, 0, 18)], [(25, 0, 20, 4, 0, 19)], [], [], [(31, 0, 27, 5, 0, 22)], [(33, 0, 29, 5, 0, 23)], [(35, 0, 30, 5, 0, 24)], [(37, 0, 33, 5, 0, 25)], [(43, 0, 39, 6, 0, 26)], [(49, 0, 43, 7, 2, 27)], [(49, 0, 44, 7, 0, 28)], [(49, 0, 45, 7, 0, 29)], [(55, 0, 51, 9, 0, 30)], [(67, 0, 63, 10, 2, 31)], [(69, 0, 64, 10, 2, 32)], [(73, 0, 65, 10, 2, 33)], [], [], [], [], []]
def yweq : LnT := [[], [], [], [], [], [], [], [], [], [], [], [], [], [], [], [], [], [], [], [], [], [], [], [], [], [], [], [(15, 0, 14, 4, 0, 18)], [(15, 0, 14, 4, 0, 19)], [], [], [(18, 0, 17, 5, 0, 22)], [(18, 0, 17, 5, 0, 23)], [(22, 0, 21, 5, 0, 24)], [(22, 0, 21, 5, 0, 25)], [(23, 0, 22, 6, 0, 26)], [(31, 0, 27, 7, 2, 27)], [(31, 0, 30, 7, 0, 28)], [(31, 0, 30, 7, 0, 29)], [(34, 0, 33, 9, 0, 30)], [(40, 0, 39, 10, 2, 31)], [(40, 0, 39, 10, 2, 32)], [(45, 0, 41, 10, 2, 33)], [], [], [], [], []]
def twe0 : List (Nat × Nat × Nat) := [(18, 0, 0), (18, 0, 9), (19, 0, 0), (22, 0, 0), (22, 0, 5), (22, 0, 9), (22, 0, 10), (22, 0, 11), (22, 5, 0), (23, 0, 0), (23, 0, 9), (23, 0, 10), (24, 0, 0), (24, 0, 9), (25, 0, 0), (26, 0, 0), (27, 0, 0), (27, 0, 5), (27, 0, 6), (27, 5, 0), (27, 6, 0), (28, 0, 0), (28, 0, 5), (28, 5, 0), (29, 0, 0), (30, 0, 0), (31, 0, 0), (32, 0, 0), (33, 0, 0)]
def twe1 : List (Nat × Nat × Nat) := [(18, 0, 0), (18, 0, 9), (19, 0, 0), (22, 0, 0), (22, 0, 5), (22, 0, 9), (22, 0, 10), (22, 0, 11), (22, 5, 0), (23, 0, 0), (23, 0, 9), (23, 0, 10), (24, 0, 0), (24, 0, 9), (25, 0, 0), (26, 0, 0), (27, 0, 0), (27, 0, 5), (27, 0, 6), (27, 5, 0), (27, 6, 0), (28, 0, 0), (28, 0, 5), (28, 5, 0), (29, 0, 0), (30, 0, 0), (31, 0, 0), (32, 0, 0), (33, 0, 0)]
theorem ywe1_k : lnkb ywe1 = true := by decide +kernel
theorem ywe1_w : lnw ywe1 2 = true := by decide +kernel
theorem yweq_k : lnkb yweq = true := by decide +kernel
theorem yweq_w : lnw yweq 1 = true := by decide +kernel
theorem ywe1_z0 : lny ywe1 yw1 fg1 fx1 1 3 2 false twe0 = true := by decide +kernel
theorem ywe1_z1 : lny ywe1 yw1 fg1 fx1 1 3 2 true twe1 = true := by decide +kernel
theorem ywe1_z {o : Bool} {k q1 q2 : Nat} (h : (k, q1, q2) ∈ (if o then twe1 else twe0)) : lnz ywe1 yw1 fg1 fx1 1 3 2 k q1 q2 (zow o k q1 q2) = true := by
  cases o with
  | false => exact lny_get ywe1_z0 h
  | true => exact lny_get ywe1_z1 h
theorem yweq_z0 : lny yweq ywq fgq fxq 0 1 1 false twe0 = true := by decide +kernel
theorem yweq_z1 : lny yweq ywq fgq fxq 0 1 1 true twe1 = true := by decide +kernel
theorem yweq_z {o : Bool} {k q1 q2 : Nat} (h : (k, q1, q2) ∈ (if o then twe1 else twe0)) : lnz yweq ywq fgq fxq 0 1 1 k q1 q2 (zow o k q1 q2) = true := by
  cases o with
  | false => exact lny_get yweq_z0 h
  | true => exact lny_get yweq_z1 h
theorem ywe1_d20 : lne true true ywe1 fr1 fg1 1 2 3 2 2 2 2 2 887 20 33 3 20 = true := by decide +kernel
theorem ywe1_d33 : lne true true ywe1 fr1 fg1 1 2 3 2 2 2 2 2 887 33 37 3 20 = true := by decide +kernel
theorem ywe1_d37 : lne true true ywe1 fr1 fg1 1 2 3 2 2 2 2 2 887 37 42 3 20 = true := by decide +kernel
theorem ywe1_d42 : lne true true ywe1 fr1 fg1 1 2 3 2 2 2 2 2 887 42 48 3 20 = true := by decide +kernel
theorem ywe1_all {c m : Nat} (m3 : 3 ≤ m) (h20 : 20 ≤ c) (h47 : c ≤ 47) (hc : c + 2 * m ≤ 58) {s : T6} (hs : s ∈ lng ywe1 c) : (true = false → 5 ≤ 58 - 2 * m - c → dpD true fr1 fg1 0 1 2 3 2 2 2 2 s.2.2.1 s.2.2.2.1 2 s.2.2.2.2.1 s.2.2.2.2.2 s.1 (58 - 2 * m - c) m ≤ 887) ∧ (true = true → dpD true fr1 fg1 5 1 2 3 2 2 2 2 s.2.2.1 s.2.2.2.1 2 s.2.2.2.2.1 s.2.2.2.2.2 s.1 0 m ≤ 887) := by
  by_cases q37 : c < 37
  · skip
    by_cases q33 : c < 33
    · skip
      exact lne_get ywe1_d20 (by omega) (by omega) (by omega) (by omega) hc hs
    · skip
      exact lne_get ywe1_d33 (by omega) (by omega) (by omega) (by omega) hc hs
  · skip
    by_cases q42 : c < 42
    · skip
      exact lne_get ywe1_d37 (by omega) (by omega) (by omega) (by omega) hc hs
    · skip
      exact lne_get ywe1_d42 (by omega) (by omega) (by omega) (by omega) hc hs
theorem yweq_d20 : lne true true yweq frq fgq 0 1 1 1 3 2 1 1 597 20 33 3 20 = true := by decide +kernel
theorem yweq_d33 : lne true true yweq frq fgq 0 1 1 1 3 2 1 1 597 33 37 3 20 = true := by decide +kernel
theorem yweq_d37 : lne true true yweq frq fgq 0 1 1 1 3 2 1 1 597 37 42 3 20 = true := by decide +kernel
theorem yweq_d42 : lne true true yweq frq fgq 0 1 1 1 3 2 1 1 597 42 48 3 20 = true := by decide +kernel
theorem yweq_all {c m : Nat} (m3 : 3 ≤ m) (h20 : 20 ≤ c) (h47 : c ≤ 47) (hc : c + 2 * m ≤ 58) {s : T6} (hs : s ∈ lng yweq c) : (true = false → 5 ≤ 58 - 2 * m - c → dpD true frq fgq 0 0 1 1 1 3 2 1 s.2.2.1 s.2.2.2.1 1 s.2.2.2.2.1 s.2.2.2.2.2 s.1 (58 - 2 * m - c) m ≤ 597) ∧ (true = true → dpD true frq fgq 5 0 1 1 1 3 2 1 s.2.2.1 s.2.2.2.1 1 s.2.2.2.2.1 s.2.2.2.2.2 s.1 0 m ≤ 597) := by
  by_cases q37 : c < 37
  · skip
    by_cases q33 : c < 33
    · skip
      exact lne_get yweq_d20 (by omega) (by omega) (by omega) (by omega) hc hs
    · skip
      exact lne_get yweq_d33 (by omega) (by omega) (by omega) (by omega) hc hs
  · skip
    by_cases q42 : c < 42
    · skip
      exact lne_get yweq_d37 (by omega) (by omega) (by omega) (by omega) hc hs
    · skip
      exact lne_get yweq_d42 (by omega) (by omega) (by omega) (by omega) hc hs
