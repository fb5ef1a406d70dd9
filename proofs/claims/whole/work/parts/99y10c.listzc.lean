/-! BY NATURE, lists zc. -/
def yzc1 : LnT := [[], [], [], [], [], [], [], [], [], [], [], [], [], [], [], [], [], [], [], [], [], [], [], [], [], [], [], [], [], [], [], [], [], [], [], [(44, 0, 8, 3, 4, 9)], [], [], [], [(58, 0, 6, 2, 4, 8)], [(66, 0, 29, 6, 4, 21)], [(86, 0, 29, 4, 4, 21), (70, 0, 23, 6, 3, 21)], [], [], [], [], [], []]
def yzcq : LnT := [[], [], [], [], [], [], [], [], [], [], [], [], [], [], [], [], [], [], [], [], [], [], [], [], [], [], [], [], [], [], [], [], [], [], [], [(27, 0, 7, 3, 4, 9)], [], [], [], [(36, 0, 7, 2, 4, 8)], [(45, 0, 24, 6, 4, 21)], [(48, 0, 24, 5, 4, 21), (28, 0, 15, 6, 3, 21)], [], [], [], [], [], []]
def tzc0 : List (Nat × Nat × Nat) := [(5, 0, 26), (5, 0, 27), (6, 0, 26), (8, 0, 18), (8, 0, 22), (8, 0, 23), (8, 0, 24), (9, 0, 17), (9, 0, 22), (9, 0, 23), (10, 0, 21), (10, 0, 22), (11, 0, 21), (13, 0, 18), (13, 0, 19), (14, 0, 17), (14, 0, 18), (15, 0, 17), (18, 0, 13), (18, 0, 14), (19, 0, 13), (21, 0, 10), (21, 0, 11)]
def tzc1 : List (Nat × Nat × Nat) := [(5, 0, 26), (5, 0, 27), (6, 0, 26), (8, 0, 18), (8, 0, 22), (8, 0, 23), (8, 0, 24), (9, 0, 17), (9, 0, 22), (9, 0, 23), (10, 0, 21), (10, 0, 22), (11, 0, 21), (13, 0, 18), (13, 0, 19), (14, 0, 17), (14, 0, 18), (15, 0, 17), (18, 0, 13), (18, 0, 14), (19, 0, 13), (21, 0, 10), (21, 0, 11)]
theorem yzc1_k : lnkb yzc1 = true := by decide +kernel
theorem yzc1_w : lnw yzc1 2 = true := by decide +kernel
theorem yzcq_k : lnkb yzcq = true := by decide +kernel
theorem yzcq_w : lnw yzcq 1 = true := by decide +kernel
theorem yzc1_z0 : lny yzc1 xr1 fh1 fx1 1 3 2 false tzc0 = true := by decide +kernel
theorem yzc1_z1 : lny yzc1 xr1 fh1 fx1 1 3 2 true tzc1 = true := by decide +kernel
theorem yzc1_z {o : Bool} {k q1 q2 : Nat} (h : (k, q1, q2) ∈ (if o then tzc1 else tzc0)) : lnz yzc1 xr1 fh1 fx1 1 3 2 k q1 q2 (zow o k q1 q2) = true := by
  cases o with
  | false => exact lny_get yzc1_z0 h
  | true => exact lny_get yzc1_z1 h
theorem yzcq_z0 : lny yzcq xrq fhq fxq 0 1 1 false tzc0 = true := by decide +kernel
theorem yzcq_z1 : lny yzcq xrq fhq fxq 0 1 1 true tzc1 = true := by decide +kernel
theorem yzcq_z {o : Bool} {k q1 q2 : Nat} (h : (k, q1, q2) ∈ (if o then tzc1 else tzc0)) : lnz yzcq xrq fhq fxq 0 1 1 k q1 q2 (zow o k q1 q2) = true := by
  cases o with
  | false => exact lny_get yzcq_z0 h
  | true => exact lny_get yzcq_z1 h
theorem yzc1_d20 : lne true false yzc1 fr1 fg1 1 2 3 2 2 2 2 2 887 20 33 6 20 = true := by decide +kernel
theorem yzc1_d33 : lne true false yzc1 fr1 fg1 1 2 3 2 2 2 2 2 887 33 37 6 20 = true := by decide +kernel
theorem yzc1_d37 : lne true false yzc1 fr1 fg1 1 2 3 2 2 2 2 2 887 37 42 6 20 = true := by decide +kernel
theorem yzc1_d42 : lne true false yzc1 fr1 fg1 1 2 3 2 2 2 2 2 887 42 48 6 20 = true := by decide +kernel
theorem yzc1_all {c m : Nat} (m6 : 6 ≤ m) (h20 : 20 ≤ c) (h47 : c ≤ 47) (hc : c + 2 * m ≤ 58) {s : T6} (hs : s ∈ lng yzc1 c) : (false = false → 5 ≤ 58 - 2 * m - c → dpD true fr1 fg1 0 1 2 3 2 2 2 2 s.2.2.1 s.2.2.2.1 2 s.2.2.2.2.1 s.2.2.2.2.2 s.1 (58 - 2 * m - c) m ≤ 887) ∧ (false = true → dpD true fr1 fg1 5 1 2 3 2 2 2 2 s.2.2.1 s.2.2.2.1 2 s.2.2.2.2.1 s.2.2.2.2.2 s.1 0 m ≤ 887) := by
  by_cases q37 : c < 37
  · skip
    by_cases q33 : c < 33
    · skip
      exact lne_get yzc1_d20 (by omega) (by omega) (by omega) (by omega) hc hs
    · skip
      exact lne_get yzc1_d33 (by omega) (by omega) (by omega) (by omega) hc hs
  · skip
    by_cases q42 : c < 42
    · skip
      exact lne_get yzc1_d37 (by omega) (by omega) (by omega) (by omega) hc hs
    · skip
      exact lne_get yzc1_d42 (by omega) (by omega) (by omega) (by omega) hc hs
theorem yzcq_d20 : lne true false yzcq frq fgq 0 1 1 1 3 2 1 1 597 20 33 6 20 = true := by decide +kernel
theorem yzcq_d33 : lne true false yzcq frq fgq 0 1 1 1 3 2 1 1 597 33 37 6 20 = true := by decide +kernel
theorem yzcq_d37 : lne true false yzcq frq fgq 0 1 1 1 3 2 1 1 597 37 42 6 20 = true := by decide +kernel
theorem yzcq_d42 : lne true false yzcq frq fgq 0 1 1 1 3 2 1 1 597 42 48 6 20 = true := by decide +kernel
theorem yzcq_all {c m : Nat} (m6 : 6 ≤ m) (h20 : 20 ≤ c) (h47 : c ≤ 47) (hc : c + 2 * m ≤ 58) {s : T6} (hs : s ∈ lng yzcq c) : (false = false → 5 ≤ 58 - 2 * m - c → dpD true frq fgq 0 0 1 1 1 3 2 1 s.2.2.1 s.2.2.2.1 1 s.2.2.2.2.1 s.2.2.2.2.2 s.1 (58 - 2 * m - c) m ≤ 597) ∧ (false = true → dpD true frq fgq 5 0 1 1 1 3 2 1 s.2.2.1 s.2.2.2.1 1 s.2.2.2.2.1 s.2.2.2.2.2 s.1 0 m ≤ 597) := by
  by_cases q37 : c < 37
  · skip
    by_cases q33 : c < 33
    · skip
      exact lne_get yzcq_d20 (by omega) (by omega) (by omega) (by omega) hc hs
    · skip
      exact lne_get yzcq_d33 (by omega) (by omega) (by omega) (by omega) hc hs
  · skip
    by_cases q42 : c < 42
    · skip
      exact lne_get yzcq_d37 (by omega) (by omega) (by omega) (by omega) hc hs
    · skip
      exact lne_get yzcq_d42 (by omega) (by omega) (by omega) (by omega) hc hs
