/-! BY NATURE, lists wa. -/
def ywa1 : LnT := [[], [], [], [], [], [], [], [], [], [], [], [], [], [], [], [], [], [], [], [], [], [], [], [], [], [], [], [], [], [], [], [], [], [], [], [], [(47, 0, 43, 7, 0, 27)], [(49, 0, 44, 7, 0, 28)], [(49, 0, 45, 7, 0, 29)], [], [], [(69, 0, 43, 7, 2, 27)], [(73, 0, 51, 5, 2, 24), (52, 0, 48, 7, 1, 28)], [(77, 0, 59, 5, 2, 25), (55, 0, 51, 7, 1, 29)], [(107, 0, 55, 7, 6, 30), (56, 0, 35, 9, 1, 30)], [(119, 0, 53, 7, 6, 31), (68, 0, 63, 10, 6, 31)], [(125, 0, 85, 6, 6, 32), (93, 0, 51, 8, 2, 32), (66, 0, 43, 10, 1, 32)], [(140, 0, 45, 6, 5, 29), (125, 0, 109, 6, 6, 33), (93, 0, 51, 8, 2, 33), (68, 0, 43, 10, 1, 33)]]
def ywaq : LnT := [[], [], [], [], [], [], [], [], [], [], [], [], [], [], [], [], [], [], [], [], [], [], [], [], [], [], [], [], [], [], [], [], [], [], [], [], [(28, 0, 27, 7, 0, 27)], [(31, 0, 30, 7, 0, 28)], [(31, 0, 30, 7, 0, 29)], [], [], [(37, 0, 27, 7, 2, 27)], [(45, 0, 40, 7, 2, 28)], [(45, 0, 42, 7, 2, 29)], [(60, 0, 38, 9, 6, 30)], [(60, 0, 53, 9, 6, 31), (25, 0, 13, 10, 1, 31)], [(78, 0, 75, 6, 6, 32), (37, 0, 22, 10, 2, 32)], [(90, 0, 59, 5, 5, 33), (85, 0, 84, 6, 6, 33), (43, 0, 28, 10, 2, 33)]]
def twa0 : List (Nat × Nat × Nat) := [(12, 0, 26), (13, 0, 22), (13, 0, 23), (13, 0, 24), (13, 0, 25), (13, 23, 0), (13, 24, 0), (13, 25, 0), (14, 0, 22), (14, 0, 23), (14, 0, 24), (14, 23, 0), (14, 24, 0), (15, 0, 22), (15, 0, 23), (15, 23, 0), (16, 0, 22), (21, 0, 17), (22, 0, 13), (22, 0, 14), (22, 0, 15), (22, 0, 16), (22, 11, 0), (22, 12, 0), (23, 0, 9), (23, 0, 10), (23, 0, 11), (23, 0, 13), (23, 0, 14), (23, 0, 15), (23, 11, 0), (24, 0, 9), (24, 0, 10), (24, 0, 13), (24, 0, 14), (25, 0, 9), (25, 0, 10), (25, 0, 11), (25, 0, 12), (25, 0, 13), (26, 0, 9), (26, 0, 10), (26, 0, 11), (26, 0, 12), (26, 8, 0), (27, 0, 0), (27, 0, 5), (27, 0, 6), (27, 0, 7), (27, 0, 8), (27, 0, 9), (27, 0, 10), (27, 0, 11), (27, 5, 0), (27, 5, 5), (27, 5, 6), (27, 6, 0), (27, 6, 5), (27, 7, 0), (27, 8, 0), (27, 9, 0), (27, 10, 0), (27, 11, 0), (28, 0, 0), (28, 0, 5), (28, 0, 6), (28, 0, 7), (28, 0, 8), (28, 0, 9), (28, 0, 10), (28, 5, 0), (28, 5, 5), (28, 6, 0), (28, 7, 0), (28, 8, 0), (28, 9, 0), (28, 10, 0), (29, 0, 0), (29, 0, 5), (29, 0, 6), (29, 0, 7), (29, 0, 8), (29, 0, 9), (29, 5, 0), (29, 6, 0), (29, 7, 0), (29, 8, 0), (29, 9, 0), (30, 0, 5), (30, 0, 6), (30, 0, 7), (30, 0, 8), (30, 5, 0), (30, 6, 0), (30, 7, 0), (30, 8, 0), (31, 0, 5), (31, 0, 6), (31, 0, 7), (31, 5, 0), (31, 6, 0), (31, 7, 0), (32, 0, 5), (32, 0, 6), (32, 5, 0), (32, 6, 0), (33, 0, 5), (33, 5, 0)]
def twa1 : List (Nat × Nat × Nat) := [(12, 0, 26), (13, 0, 22), (13, 0, 23), (13, 0, 24), (13, 0, 25), (13, 23, 0), (13, 24, 0), (13, 25, 0), (14, 0, 22), (14, 0, 23), (14, 0, 24), (14, 23, 0), (14, 24, 0), (15, 0, 22), (15, 0, 23), (15, 23, 0), (16, 0, 22), (21, 0, 17), (22, 0, 13), (22, 0, 14), (22, 0, 15), (22, 0, 16), (22, 11, 0), (22, 12, 0), (23, 0, 9), (23, 0, 10), (23, 0, 11), (23, 0, 13), (23, 0, 14), (23, 0, 15), (23, 11, 0), (24, 0, 9), (24, 0, 10), (24, 0, 13), (24, 0, 14), (25, 0, 9), (25, 0, 10), (25, 0, 11), (25, 0, 12), (25, 0, 13), (26, 0, 9), (26, 0, 10), (26, 0, 11), (26, 0, 12), (26, 8, 0), (27, 0, 0), (27, 0, 5), (27, 0, 6), (27, 0, 7), (27, 0, 8), (27, 0, 9), (27, 0, 10), (27, 0, 11), (27, 5, 0), (27, 5, 5), (27, 5, 6), (27, 6, 0), (27, 6, 5), (27, 7, 0), (27, 8, 0), (27, 9, 0), (27, 10, 0), (27, 11, 0), (28, 0, 0), (28, 0, 5), (28, 0, 6), (28, 0, 7), (28, 0, 8), (28, 0, 9), (28, 0, 10), (28, 5, 0), (28, 5, 5), (28, 6, 0), (28, 7, 0), (28, 8, 0), (28, 9, 0), (28, 10, 0), (29, 0, 0), (29, 0, 5), (29, 0, 6), (29, 0, 7), (29, 0, 8), (29, 0, 9), (29, 5, 0), (29, 6, 0), (29, 7, 0), (29, 8, 0), (29, 9, 0), (30, 0, 5), (30, 0, 6), (30, 0, 7), (30, 0, 8), (30, 5, 0), (30, 6, 0), (30, 7, 0), (30, 8, 0), (31, 0, 5), (31, 0, 6), (31, 0, 7), (31, 5, 0), (31, 6, 0), (31, 7, 0), (32, 0, 5), (32, 0, 6), (32, 5, 0), (32, 6, 0), (33, 0, 5), (33, 5, 0)]
theorem ywa1_k : lnkb ywa1 = true := by decide +kernel
theorem ywa1_w : lnw ywa1 2 = true := by decide +kernel
theorem ywaq_k : lnkb ywaq = true := by decide +kernel
theorem ywaq_w : lnw ywaq 1 = true := by decide +kernel
theorem ywa1_z0 : lny ywa1 yw1 fg1 fx1 1 3 2 false twa0 = true := by decide +kernel
theorem ywa1_z1 : lny ywa1 yw1 fg1 fx1 1 3 2 true twa1 = true := by decide +kernel
theorem ywa1_z {o : Bool} {k q1 q2 : Nat} (h : (k, q1, q2) ∈ (if o then twa1 else twa0)) : lnz ywa1 yw1 fg1 fx1 1 3 2 k q1 q2 (zow o k q1 q2) = true := by
  cases o with
  | false => exact lny_get ywa1_z0 h
  | true => exact lny_get ywa1_z1 h
theorem ywaq_z0 : lny ywaq ywq fgq fxq 0 1 1 false twa0 = true := by decide +kernel
theorem ywaq_z1 : lny ywaq ywq fgq fxq 0 1 1 true twa1 = true := by decide +kernel
theorem ywaq_z {o : Bool} {k q1 q2 : Nat} (h : (k, q1, q2) ∈ (if o then twa1 else twa0)) : lnz ywaq ywq fgq fxq 0 1 1 k q1 q2 (zow o k q1 q2) = true := by
  cases o with
  | false => exact lny_get ywaq_z0 h
  | true => exact lny_get ywaq_z1 h
theorem ywa1_d20 : lne false false ywa1 fr1 fg1 1 2 3 2 2 2 2 2 887 20 33 3 6 = true := by decide +kernel
theorem ywa1_d33 : lne false false ywa1 fr1 fg1 1 2 3 2 2 2 2 2 887 33 37 3 6 = true := by decide +kernel
theorem ywa1_d37 : lne false false ywa1 fr1 fg1 1 2 3 2 2 2 2 2 887 37 42 3 6 = true := by decide +kernel
theorem ywa1_d42 : lne false false ywa1 fr1 fg1 1 2 3 2 2 2 2 2 887 42 48 3 6 = true := by decide +kernel
theorem ywa1_all {c m : Nat} (m3 : 3 ≤ m) (m5 : m < 6) (h20 : 20 ≤ c) (h47 : c ≤ 47) (hc : c + 2 * m ≤ 58) {s : T6} (hs : s ∈ lng ywa1 c) : (false = false → 5 ≤ 58 - 2 * m - c → dpD false fr1 fg1 0 1 2 3 2 2 2 2 s.2.2.1 s.2.2.2.1 2 s.2.2.2.2.1 s.2.2.2.2.2 s.1 (58 - 2 * m - c) m ≤ 887) ∧ (false = true → dpD false fr1 fg1 5 1 2 3 2 2 2 2 s.2.2.1 s.2.2.2.1 2 s.2.2.2.2.1 s.2.2.2.2.2 s.1 0 m ≤ 887) := by
  by_cases q37 : c < 37
  · skip
    by_cases q33 : c < 33
    · skip
      exact lne_get ywa1_d20 (by omega) (by omega) (by omega) (by omega) hc hs
    · skip
      exact lne_get ywa1_d33 (by omega) (by omega) (by omega) (by omega) hc hs
  · skip
    by_cases q42 : c < 42
    · skip
      exact lne_get ywa1_d37 (by omega) (by omega) (by omega) (by omega) hc hs
    · skip
      exact lne_get ywa1_d42 (by omega) (by omega) (by omega) (by omega) hc hs
theorem ywaq_d20 : lne false false ywaq frq fgq 0 1 1 1 3 2 1 1 597 20 33 3 6 = true := by decide +kernel
theorem ywaq_d33 : lne false false ywaq frq fgq 0 1 1 1 3 2 1 1 597 33 37 3 6 = true := by decide +kernel
theorem ywaq_d37 : lne false false ywaq frq fgq 0 1 1 1 3 2 1 1 597 37 42 3 6 = true := by decide +kernel
theorem ywaq_d42 : lne false false ywaq frq fgq 0 1 1 1 3 2 1 1 597 42 48 3 6 = true := by decide +kernel
theorem ywaq_all {c m : Nat} (m3 : 3 ≤ m) (m5 : m < 6) (h20 : 20 ≤ c) (h47 : c ≤ 47) (hc : c + 2 * m ≤ 58) {s : T6} (hs : s ∈ lng ywaq c) : (false = false → 5 ≤ 58 - 2 * m - c → dpD false frq fgq 0 0 1 1 1 3 2 1 s.2.2.1 s.2.2.2.1 1 s.2.2.2.2.1 s.2.2.2.2.2 s.1 (58 - 2 * m - c) m ≤ 597) ∧ (false = true → dpD false frq fgq 5 0 1 1 1 3 2 1 s.2.2.1 s.2.2.2.1 1 s.2.2.2.2.1 s.2.2.2.2.2 s.1 0 m ≤ 597) := by
  by_cases q37 : c < 37
  · skip
    by_cases q33 : c < 33
    · skip
      exact lne_get ywaq_d20 (by omega) (by omega) (by omega) (by omega) hc hs
    · skip
      exact lne_get ywaq_d33 (by omega) (by omega) (by omega) (by omega) hc hs
  · skip
    by_cases q42 : c < 42
    · skip
      exact lne_get ywaq_d37 (by omega) (by omega) (by omega) (by omega) hc hs
    · skip
      exact lne_get ywaq_d42 (by omega) (by omega) (by omega) (by omega) hc hs
