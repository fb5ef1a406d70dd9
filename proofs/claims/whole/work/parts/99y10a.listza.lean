/-! BY NATURE, lists za. -/
def yza1 : LnT := [[], [], [], [], [], [], [], [], [], [], [], [], [], [], [], [], [], [], [], [], [], [], [], [], [], [], [], [], [], [], [], [], [], [], [], [], [], [], [], [], [], [], [(59, 0, 43, 9, 2, 23)], [(59, 0, 45, 9, 2, 24)], [(86, 0, 45, 9, 6, 25)], [(102, 0, 49, 8, 6, 26), (94, 0, 32, 9, 3, 26), (63, 0, 31, 12, 2, 26)], [(112, 0, 49, 7, 6, 26), (104, 0, 37, 8, 3, 26), (94, 0, 32, 9, 3, 26), (63, 0, 31, 12, 2, 26)], [(118, 0, 49, 7, 6, 26), (104, 0, 37, 8, 3, 26), (94, 0, 32, 9, 3, 26), (63, 0, 31, 12, 2, 26)]]
def yzaq : LnT := [[], [], [], [], [], [], [], [], [], [], [], [], [], [], [], [], [], [], [], [], [], [], [], [], [], [], [], [], [], [], [], [], [], [], [], [], [], [], [], [], [], [], [(36, 0, 33, 9, 2, 23)], [(36, 0, 33, 9, 2, 24)], [(60, 0, 34, 9, 6, 25)], [(62, 0, 42, 8, 6, 26), (40, 0, 18, 12, 3, 26)], [(70, 0, 42, 7, 6, 26), (40, 0, 22, 12, 3, 26)], [(72, 0, 42, 7, 6, 26), (46, 0, 22, 12, 3, 26)]]
def tza0 : List (Nat × Nat × Nat) := [(12, 0, 26), (13, 0, 22), (13, 0, 23), (13, 0, 24), (13, 0, 25), (14, 0, 22), (14, 0, 23), (14, 0, 24), (15, 0, 22), (15, 0, 23), (16, 0, 22), (21, 0, 17), (22, 0, 13), (22, 0, 14), (22, 0, 15), (22, 0, 16), (23, 0, 10), (23, 0, 11), (23, 0, 13), (23, 0, 14), (23, 0, 15), (24, 0, 10), (24, 0, 13), (24, 0, 14), (25, 0, 10), (25, 0, 11), (25, 0, 12), (25, 0, 13), (26, 0, 10), (26, 0, 11), (26, 0, 12)]
def tza1 : List (Nat × Nat × Nat) := [(12, 0, 26), (13, 0, 22), (13, 0, 23), (13, 0, 24), (13, 0, 25), (14, 0, 22), (14, 0, 23), (14, 0, 24), (15, 0, 22), (15, 0, 23), (16, 0, 22), (21, 0, 17), (22, 0, 13), (22, 0, 14), (22, 0, 15), (22, 0, 16), (23, 0, 10), (23, 0, 11), (23, 0, 13), (23, 0, 14), (23, 0, 15), (24, 0, 10), (24, 0, 13), (24, 0, 14), (25, 0, 10), (25, 0, 11), (25, 0, 12), (25, 0, 13), (26, 0, 10), (26, 0, 11), (26, 0, 12)]
theorem yza1_k : lnkb yza1 = true := by decide +kernel
theorem yza1_w : lnw yza1 2 = true := by decide +kernel
theorem yzaq_k : lnkb yzaq = true := by decide +kernel
theorem yzaq_w : lnw yzaq 1 = true := by decide +kernel
theorem yza1_z0 : lny yza1 xr1 fh1 fx1 1 3 2 false tza0 = true := by decide +kernel
theorem yza1_z1 : lny yza1 xr1 fh1 fx1 1 3 2 true tza1 = true := by decide +kernel
theorem yza1_z {o : Bool} {k q1 q2 : Nat} (h : (k, q1, q2) ∈ (if o then tza1 else tza0)) : lnz yza1 xr1 fh1 fx1 1 3 2 k q1 q2 (zow o k q1 q2) = true := by
  cases o with
  | false => exact lny_get yza1_z0 h
  | true => exact lny_get yza1_z1 h
theorem yzaq_z0 : lny yzaq xrq fhq fxq 0 1 1 false tza0 = true := by decide +kernel
theorem yzaq_z1 : lny yzaq xrq fhq fxq 0 1 1 true tza1 = true := by decide +kernel
theorem yzaq_z {o : Bool} {k q1 q2 : Nat} (h : (k, q1, q2) ∈ (if o then tza1 else tza0)) : lnz yzaq xrq fhq fxq 0 1 1 k q1 q2 (zow o k q1 q2) = true := by
  cases o with
  | false => exact lny_get yzaq_z0 h
  | true => exact lny_get yzaq_z1 h
theorem yza1_d20 : lne false false yza1 fr1 fg1 1 2 3 2 2 2 2 2 887 20 33 3 6 = true := by decide +kernel
theorem yza1_d33 : lne false false yza1 fr1 fg1 1 2 3 2 2 2 2 2 887 33 37 3 6 = true := by decide +kernel
theorem yza1_d37 : lne false false yza1 fr1 fg1 1 2 3 2 2 2 2 2 887 37 42 3 6 = true := by decide +kernel
theorem yza1_d42 : lne false false yza1 fr1 fg1 1 2 3 2 2 2 2 2 887 42 48 3 6 = true := by decide +kernel
theorem yza1_all {c m : Nat} (m3 : 3 ≤ m) (m5 : m < 6) (h20 : 20 ≤ c) (h47 : c ≤ 47) (hc : c + 2 * m ≤ 58) {s : T6} (hs : s ∈ lng yza1 c) : (false = false → 5 ≤ 58 - 2 * m - c → dpD false fr1 fg1 0 1 2 3 2 2 2 2 s.2.2.1 s.2.2.2.1 2 s.2.2.2.2.1 s.2.2.2.2.2 s.1 (58 - 2 * m - c) m ≤ 887) ∧ (false = true → dpD false fr1 fg1 5 1 2 3 2 2 2 2 s.2.2.1 s.2.2.2.1 2 s.2.2.2.2.1 s.2.2.2.2.2 s.1 0 m ≤ 887) := by
  by_cases q37 : c < 37
  · skip
    by_cases q33 : c < 33
    · skip
      exact lne_get yza1_d20 (by omega) (by omega) (by omega) (by omega) hc hs
    · skip
      exact lne_get yza1_d33 (by omega) (by omega) (by omega) (by omega) hc hs
  · skip
    by_cases q42 : c < 42
    · skip
      exact lne_get yza1_d37 (by omega) (by omega) (by omega) (by omega) hc hs
    · skip
      exact lne_get yza1_d42 (by omega) (by omega) (by omega) (by omega) hc hs
theorem yzaq_d20 : lne false false yzaq frq fgq 0 1 1 1 3 2 1 1 597 20 33 3 6 = true := by decide +kernel
theorem yzaq_d33 : lne false false yzaq frq fgq 0 1 1 1 3 2 1 1 597 33 37 3 6 = true := by decide +kernel
theorem yzaq_d37 : lne false false yzaq frq fgq 0 1 1 1 3 2 1 1 597 37 42 3 6 = true := by decide +kernel
theorem yzaq_d42 : lne false false yzaq frq fgq 0 1 1 1 3 2 1 1 597 42 48 3 6 = true := by decide +kernel
theorem yzaq_all {c m : Nat} (m3 : 3 ≤ m) (m5 : m < 6) (h20 : 20 ≤ c) (h47 : c ≤ 47) (hc : c + 2 * m ≤ 58) {s : T6} (hs : s ∈ lng yzaq c) : (false = false → 5 ≤ 58 - 2 * m - c → dpD false frq fgq 0 0 1 1 1 3 2 1 s.2.2.1 s.2.2.2.1 1 s.2.2.2.2.1 s.2.2.2.2.2 s.1 (58 - 2 * m - c) m ≤ 597) ∧ (false = true → dpD false frq fgq 5 0 1 1 1 3 2 1 s.2.2.1 s.2.2.2.1 1 s.2.2.2.2.1 s.2.2.2.2.2 s.1 0 m ≤ 597) := by
  by_cases q37 : c < 37
  · skip
    by_cases q33 : c < 33
    · skip
      exact lne_get yzaq_d20 (by omega) (by omega) (by omega) (by omega) hc hs
    · skip
      exact lne_get yzaq_d33 (by omega) (by omega) (by omega) (by omega) hc hs
  · skip
    by_cases q42 : c < 42
    · skip
      exact lne_get yzaq_d37 (by omega) (by omega) (by omega) (by omega) hc hs
    · skip
      exact lne_get yzaq_d42 (by omega) (by omega) (by omega) (by omega) hc hs
