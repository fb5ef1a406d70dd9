/-! BY NATURE, lists va. -/
def yva1 : LnT := [[], [], [], [], [], [], [], [], [], [], [], [], [], [], [], [], [], [], [], [], [], [], [], [], [], [], [], [], [], [], [], [], [], [], [], [], [(53, 0, 49, 9, 0, 27)], [(65, 0, 61, 9, 0, 28)], [(65, 0, 61, 9, 0, 29)], [], [], [(85, 0, 37, 6, 2, 23), (54, 0, 49, 9, 1, 27)], [(93, 0, 53, 6, 2, 24), (66, 0, 61, 9, 1, 28)], [(93, 0, 73, 6, 2, 25), (68, 0, 61, 9, 1, 29)], [(110, 0, 67, 7, 6, 30), (64, 0, 41, 9, 1, 30)], [(128, 0, 76, 6, 3, 31), (119, 0, 51, 7, 6, 31), (70, 0, 59, 11, 6, 31), (70, 0, 41, 12, 1, 31)], [(143, 0, 85, 5, 3, 31), (128, 0, 61, 6, 3, 31), (119, 0, 85, 3, 6, 14), (74, 0, 56, 11, 2, 31), (69, 0, 41, 12, 1, 31)], [(149, 0, 103, 5, 4, 31), (128, 0, 61, 6, 3, 31), (119, 0, 109, 3, 6, 15), (74, 0, 56, 11, 2, 31), (69, 0, 41, 12, 1, 31)]]
def yvaq : LnT := [[], [], [], [], [], [], [], [], [], [], [], [], [], [], [], [], [], [], [], [], [], [], [], [], [], [], [], [], [], [], [], [], [], [], [], [], [(31, 0, 30, 9, 0, 27)], [(37, 0, 36, 9, 0, 28)], [(37, 0, 36, 9, 0, 29)], [], [], [(41, 0, 30, 9, 2, 27)], [(51, 0, 40, 6, 2, 24), (38, 0, 36, 9, 1, 28)], [(57, 0, 51, 6, 2, 25), (43, 0, 42, 9, 1, 29)], [(60, 0, 48, 9, 6, 30)], [(62, 0, 53, 8, 6, 31), (32, 0, 21, 12, 2, 31)], [(78, 0, 75, 6, 6, 31), (35, 0, 27, 12, 2, 31)], [(90, 0, 75, 5, 4, 31), (85, 0, 84, 6, 6, 31), (37, 0, 29, 12, 2, 31)]]
def tva0 : List (Nat × Nat × Nat) := [(12, 0, 26), (13, 0, 22), (13, 0, 23), (13, 0, 24), (13, 0, 25), (13, 23, 0), (13, 24, 0), (13, 25, 0), (14, 0, 22), (14, 0, 23), (14, 0, 24), (14, 23, 0), (14, 24, 0), (15, 0, 22), (15, 0, 23), (15, 23, 0), (16, 0, 22), (21, 0, 17), (22, 0, 13), (22, 0, 14), (22, 0, 15), (22, 0, 16), (22, 11, 0), (22, 12, 0), (23, 0, 9), (23, 0, 10), (23, 0, 11), (23, 0, 13), (23, 0, 14), (23, 0, 15), (23, 11, 0), (24, 0, 9), (24, 0, 10), (24, 0, 13), (24, 0, 14), (25, 0, 9), (25, 0, 10), (25, 0, 11), (25, 0, 12), (25, 0, 13), (26, 0, 9), (26, 0, 10), (26, 0, 11), (26, 0, 12), (26, 8, 0), (27, 0, 0), (27, 0, 5), (27, 0, 6), (27, 0, 7), (27, 0, 8), (27, 5, 0), (27, 5, 5), (27, 5, 6), (27, 6, 0), (27, 6, 5), (27, 7, 0), (27, 8, 0), (27, 9, 0), (27, 10, 0), (27, 11, 0), (28, 0, 0), (28, 0, 5), (28, 0, 6), (28, 0, 7), (28, 0, 8), (28, 5, 0), (28, 5, 5), (28, 7, 0), (28, 8, 0), (28, 9, 0), (28, 10, 0), (29, 0, 0), (29, 0, 5), (29, 0, 6), (29, 0, 7), (29, 0, 8), (29, 5, 0), (29, 6, 0), (29, 7, 0), (29, 8, 0), (29, 9, 0), (30, 0, 5), (30, 0, 6), (30, 0, 7), (30, 0, 8), (30, 5, 0), (30, 6, 0), (30, 7, 0), (30, 8, 0), (31, 0, 5), (31, 5, 0), (31, 6, 0), (31, 7, 0)]
def tva1 : List (Nat × Nat × Nat) := [(13, 0, 22), (13, 0, 23), (13, 0, 24), (13, 0, 25), (13, 23, 0), (13, 24, 0), (13, 25, 0), (14, 0, 22), (14, 0, 23), (14, 0, 24), (14, 23, 0), (14, 24, 0), (15, 23, 0), (21, 0, 17), (22, 0, 13), (22, 0, 14), (22, 0, 15), (22, 0, 16), (22, 11, 0), (22, 12, 0), (23, 0, 9), (23, 0, 10), (23, 0, 11), (23, 0, 13), (23, 0, 14), (23, 0, 15), (23, 11, 0), (24, 0, 9), (24, 0, 10), (24, 0, 13), (24, 0, 14), (25, 0, 9), (25, 0, 10), (25, 0, 11), (25, 0, 12), (25, 0, 13), (26, 0, 9), (26, 0, 10), (26, 0, 11), (26, 0, 12), (26, 8, 0), (27, 0, 0), (27, 0, 5), (27, 0, 6), (27, 0, 7), (27, 0, 8), (27, 5, 0), (27, 5, 5), (27, 5, 6), (27, 6, 0), (27, 6, 5), (27, 7, 0), (27, 8, 0), (27, 9, 0), (27, 10, 0), (27, 11, 0), (28, 0, 0), (28, 0, 5), (28, 0, 6), (28, 0, 7), (28, 0, 8), (28, 5, 0), (28, 5, 5), (28, 7, 0), (28, 8, 0), (28, 9, 0), (28, 10, 0), (29, 0, 0), (29, 0, 5), (29, 0, 6), (29, 0, 7), (29, 0, 8), (29, 5, 0), (29, 6, 0), (29, 7, 0), (29, 8, 0), (29, 9, 0), (30, 0, 5), (30, 0, 6), (30, 0, 7), (30, 0, 8), (30, 5, 0), (30, 6, 0), (30, 7, 0), (30, 8, 0), (31, 0, 5), (31, 5, 0), (31, 6, 0), (31, 7, 0)]
theorem yva1_k : lnkb yva1 = true := by decide +kernel
theorem yva1_w : lnw yva1 2 = true := by decide +kernel
theorem yvaq_k : lnkb yvaq = true := by decide +kernel
theorem yvaq_w : lnw yvaq 1 = true := by decide +kernel
theorem yva1_z0 : lny yva1 xfa1 fg1 fx1 1 3 2 false tva0 = true := by decide +kernel
theorem yva1_z1 : lny yva1 xfa1 fg1 fx1 1 3 2 true tva1 = true := by decide +kernel
theorem yva1_z {o : Bool} {k q1 q2 : Nat} (h : (k, q1, q2) ∈ (if o then tva1 else tva0)) : lnz yva1 xfa1 fg1 fx1 1 3 2 k q1 q2 (zow o k q1 q2) = true := by
  cases o with
  | false => exact lny_get yva1_z0 h
  | true => exact lny_get yva1_z1 h
theorem yvaq_z0 : lny yvaq xfaq fgq fxq 0 1 1 false tva0 = true := by decide +kernel
theorem yvaq_z1 : lny yvaq xfaq fgq fxq 0 1 1 true tva1 = true := by decide +kernel
theorem yvaq_z {o : Bool} {k q1 q2 : Nat} (h : (k, q1, q2) ∈ (if o then tva1 else tva0)) : lnz yvaq xfaq fgq fxq 0 1 1 k q1 q2 (zow o k q1 q2) = true := by
  cases o with
  | false => exact lny_get yvaq_z0 h
  | true => exact lny_get yvaq_z1 h
theorem yva1_d20 : lne false false yva1 fr1 fg1 1 2 3 2 2 2 2 2 887 20 33 3 6 = true := by decide +kernel
theorem yva1_d33 : lne false false yva1 fr1 fg1 1 2 3 2 2 2 2 2 887 33 37 3 6 = true := by decide +kernel
theorem yva1_d37 : lne false false yva1 fr1 fg1 1 2 3 2 2 2 2 2 887 37 42 3 6 = true := by decide +kernel
theorem yva1_d42 : lne false false yva1 fr1 fg1 1 2 3 2 2 2 2 2 887 42 48 3 6 = true := by decide +kernel
theorem yva1_all {c m : Nat} (m3 : 3 ≤ m) (m5 : m < 6) (h20 : 20 ≤ c) (h47 : c ≤ 47) (hc : c + 2 * m ≤ 58) {s : T6} (hs : s ∈ lng yva1 c) : (false = false → 5 ≤ 58 - 2 * m - c → dpD false fr1 fg1 0 1 2 3 2 2 2 2 s.2.2.1 s.2.2.2.1 2 s.2.2.2.2.1 s.2.2.2.2.2 s.1 (58 - 2 * m - c) m ≤ 887) ∧ (false = true → dpD false fr1 fg1 5 1 2 3 2 2 2 2 s.2.2.1 s.2.2.2.1 2 s.2.2.2.2.1 s.2.2.2.2.2 s.1 0 m ≤ 887) := by
  by_cases q37 : c < 37
  · skip
    by_cases q33 : c < 33
    · skip
      exact lne_get yva1_d20 (by omega) (by omega) (by omega) (by omega) hc hs
    · skip
      exact lne_get yva1_d33 (by omega) (by omega) (by omega) (by omega) hc hs
  · skip
    by_cases q42 : c < 42
    · skip
      exact lne_get yva1_d37 (by omega) (by omega) (by omega) (by omega) hc hs
    · skip
      exact lne_get yva1_d42 (by omega) (by omega) (by omega) (by omega) hc hs
theorem yvaq_d20 : lne false false yvaq frq fgq 0 1 1 1 3 2 1 1 597 20 33 3 6 = true := by decide +kernel
theorem yvaq_d33 : lne false false yvaq frq fgq 0 1 1 1 3 2 1 1 597 33 37 3 6 = true := by decide +kernel
theorem yvaq_d37 : lne false false yvaq frq fgq 0 1 1 1 3 2 1 1 597 37 42 3 6 = true := by decide +kernel
theorem yvaq_d42 : lne false false yvaq frq fgq 0 1 1 1 3 2 1 1 597 42 48 3 6 = true := by decide +kernel
theorem yvaq_all {c m : Nat} (m3 : 3 ≤ m) (m5 : m < 6) (h20 : 20 ≤ c) (h47 : c ≤ 47) (hc : c + 2 * m ≤ 58) {s : T6} (hs : s ∈ lng yvaq c) : (false = false → 5 ≤ 58 - 2 * m - c → dpD false frq fgq 0 0 1 1 1 3 2 1 s.2.2.1 s.2.2.2.1 1 s.2.2.2.2.1 s.2.2.2.2.2 s.1 (58 - 2 * m - c) m ≤ 597) ∧ (false = true → dpD false frq fgq 5 0 1 1 1 3 2 1 s.2.2.1 s.2.2.2.1 1 s.2.2.2.2.1 s.2.2.2.2.2 s.1 0 m ≤ 597) := by
  by_cases q37 : c < 37
  · skip
    by_cases q33 : c < 33
    · skip
      exact lne_get yvaq_d20 (by omega) (by omega) (by omega) (by omega) hc hs
    · skip
      exact lne_get yvaq_d33 (by omega) (by omega) (by omega) (by omega) hc hs
  · skip
    by_cases q42 : c < 42
    · skip
      exact lne_get yvaq_d37 (by omega) (by omega) (by omega) (by omega) hc hs
    · skip
      exact lne_get yvaq_d42 (by omega) (by omega) (by omega) (by omega) hc hs
