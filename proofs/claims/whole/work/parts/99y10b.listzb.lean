/-! BY NATURE, lists zb. -/
def yzb1 : LnT := [[], [], [], [], [], [], [], [], [], [], [], [], [], [], [], [], [], [], [], [], [], [], [], [], [], [], [], [], [], [], [], [], [], [], [], [], [], [], [], [], [], [(50, 0, 34, 9, 2, 22)], [], [], [], [], [], []]
def yzbq : LnT := [[], [], [], [], [], [], [], [], [], [], [], [], [], [], [], [], [], [], [], [], [], [], [], [], [], [], [], [], [], [], [], [], [], [], [], [], [], [], [], [], [], [(31, 0, 28, 9, 2, 22)], [], [], [], [], [], []]
def tzb0 : List (Nat × Nat × Nat) := [(22, 0, 10)]
def tzb1 : List (Nat × Nat × Nat) := [(22, 0, 10)]
theorem yzb1_k : lnkb yzb1 = true := by decide +kernel
theorem yzb1_w : lnw yzb1 2 = true := by decide +kernel
theorem yzbq_k : lnkb yzbq = true := by decide +kernel
theorem yzbq_w : lnw yzbq 1 = true := by decide +kernel
theorem yzb1_z0 : lny yzb1 xr1 fh1 fx1 1 3 2 false tzb0 = true := by decide +kernel
theorem yzb1_z1 : lny yzb1 xr1 fh1 fx1 1 3 2 true tzb1 = true := by decide +kernel
theorem yzb1_z {o : Bool} {k q1 q2 : Nat} (h : (k, q1, q2) ∈ (if o then tzb1 else tzb0)) : lnz yzb1 xr1 fh1 fx1 1 3 2 k q1 q2 (zow o k q1 q2) = true := by
  cases o with
  | false => exact lny_get yzb1_z0 h
  | true => exact lny_get yzb1_z1 h
theorem yzbq_z0 : lny yzbq xrq fhq fxq 0 1 1 false tzb0 = true := by decide +kernel
theorem yzbq_z1 : lny yzbq xrq fhq fxq 0 1 1 true tzb1 = true := by decide +kernel
theorem yzbq_z {o : Bool} {k q1 q2 : Nat} (h : (k, q1, q2) ∈ (if o then tzb1 else tzb0)) : lnz yzbq xrq fhq fxq 0 1 1 k q1 q2 (zow o k q1 q2) = true := by
  cases o with
  | false => exact lny_get yzbq_z0 h
  | true => exact lny_get yzbq_z1 h
theorem yzb1_d20 : lne false false yzb1 fr1 fg1 1 2 3 2 2 2 2 2 887 20 33 6 20 = true := by decide +kernel
theorem yzb1_d33 : lne false false yzb1 fr1 fg1 1 2 3 2 2 2 2 2 887 33 37 6 20 = true := by decide +kernel
theorem yzb1_d37 : lne false false yzb1 fr1 fg1 1 2 3 2 2 2 2 2 887 37 42 6 20 = true := by decide +kernel
theorem yzb1_d42 : lne false false yzb1 fr1 fg1 1 2 3 2 2 2 2 2 887 42 48 6 20 = true := by decide +kernel
theorem yzb1_all {c m : Nat} (m6 : 6 ≤ m) (h20 : 20 ≤ c) (h47 : c ≤ 47) (hc : c + 2 * m ≤ 58) {s : T6} (hs : s ∈ lng yzb1 c) : (false = false → 5 ≤ 58 - 2 * m - c → dpD false fr1 fg1 0 1 2 3 2 2 2 2 s.2.2.1 s.2.2.2.1 2 s.2.2.2.2.1 s.2.2.2.2.2 s.1 (58 - 2 * m - c) m ≤ 887) ∧ (false = true → dpD false fr1 fg1 5 1 2 3 2 2 2 2 s.2.2.1 s.2.2.2.1 2 s.2.2.2.2.1 s.2.2.2.2.2 s.1 0 m ≤ 887) := by
  by_cases q37 : c < 37
  · skip
    by_cases q33 : c < 33
    · skip
      exact lne_get yzb1_d20 (by omega) (by omega) (by omega) (by omega) hc hs
    · skip
      exact lne_get yzb1_d33 (by omega) (by omega) (by omega) (by omega) hc hs
  · skip
    by_cases q42 : c < 42
    · skip
      exact lne_get yzb1_d37 (by omega) (by omega) (by omega) (by omega) hc hs
    · skip
      exact lne_get yzb1_d42 (by omega) (by omega) (by omega) (by omega) hc hs
theorem yzbq_d20 : lne false false yzbq frq fgq 0 1 1 1 3 2 1 1 597 20 33 6 20 = true := by decide +kernel
theorem yzbq_d33 : lne false false yzbq frq fgq 0 1 1 1 3 2 1 1 597 33 37 6 20 = true := by decide +kernel
theorem yzbq_d37 : lne false false yzbq frq fgq 0 1 1 1 3 2 1 1 597 37 42 6 20 = true := by decide +kernel
theorem yzbq_d42 : lne false false yzbq frq fgq 0 1 1 1 3 2 1 1 597 42 48 6 20 = true := by decide +kernel
theorem yzbq_all {c m : Nat} (m6 : 6 ≤ m) (h20 : 20 ≤ c) (h47 : c ≤ 47) (hc : c + 2 * m ≤ 58) {s : T6} (hs : s ∈ lng yzbq c) : (false = false → 5 ≤ 58 - 2 * m - c → dpD false frq fgq 0 0 1 1 1 3 2 1 s.2.2.1 s.2.2.2.1 1 s.2.2.2.2.1 s.2.2.2.2.2 s.1 (58 - 2 * m - c) m ≤ 597) ∧ (false = true → dpD false frq fgq 5 0 1 1 1 3 2 1 s.2.2.1 s.2.2.2.1 1 s.2.2.2.2.1 s.2.2.2.2.2 s.1 0 m ≤ 597) := by
  by_cases q37 : c < 37
  · skip
    by_cases q33 : c < 33
    · skip
      exact lne_get yzbq_d20 (by omega) (by omega) (by omega) (by omega) hc hs
    · skip
      exact lne_get yzbq_d33 (by omega) (by omega) (by omega) (by omega) hc hs
  · skip
    by_cases q42 : c < 42
    · skip
      exact lne_get yzbq_d37 (by omega) (by omega) (by omega) (by omega) hc hs
    · skip
      exact lne_get yzbq_d42 (by omega) (by omega) (by omega) (by omega) hc hs
