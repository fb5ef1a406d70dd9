/-! BY NATURE, lists ze. -/
def yze1 : LnT := [[], [], [], [], [], [], [], [], [], [], [], [], [], [], [], [], [], [], [], [], [], [], [], [], [], [], [], [], [], [], [], [], [], [], [], [], [], [], [], [], [], [(50, 0, 34, 9, 2, 22)], [(59, 0, 43, 9, 2, 23)], [], [], [], [], []]
def yzeq : LnT := [[], [], [], [], [], [], [], [], [], [], [], [], [], [], [], [], [], [], [], [], [], [], [], [], [], [], [], [], [], [], [], [], [], [], [], [], [], [], [], [], [], [(31, 0, 28, 9, 2, 22)], [(36, 0, 33, 9, 2, 23)], [], [], [], [], []]
def tze0 : List (Nat × Nat × Nat) := [(22, 0, 10), (22, 0, 11), (23, 0, 10)]
def tze1 : List (Nat × Nat × Nat) := [(22, 0, 10), (22, 0, 11), (23, 0, 10)]
theorem yze1_k : lnkb yze1 = true := by decide +kernel
theorem yze1_w : lnw yze1 2 = true := by decide +kernel
theorem yzeq_k : lnkb yzeq = true := by decide +kernel
theorem yzeq_w : lnw yzeq 1 = true := by decide +kernel
theorem yze1_z0 : lny yze1 xr1 fh1 fx1 1 3 2 false tze0 = true := by decide +kernel
theorem yze1_z1 : lny yze1 xr1 fh1 fx1 1 3 2 true tze1 = true := by decide +kernel
theorem yze1_z {o : Bool} {k q1 q2 : Nat} (h : (k, q1, q2) ∈ (if o then tze1 else tze0)) : lnz yze1 xr1 fh1 fx1 1 3 2 k q1 q2 (zow o k q1 q2) = true := by
  cases o with
  | false => exact lny_get yze1_z0 h
  | true => exact lny_get yze1_z1 h
theorem yzeq_z0 : lny yzeq xrq fhq fxq 0 1 1 false tze0 = true := by decide +kernel
theorem yzeq_z1 : lny yzeq xrq fhq fxq 0 1 1 true tze1 = true := by decide +kernel
theorem yzeq_z {o : Bool} {k q1 q2 : Nat} (h : (k, q1, q2) ∈ (if o then tze1 else tze0)) : lnz yzeq xrq fhq fxq 0 1 1 k q1 q2 (zow o k q1 q2) = true := by
  cases o with
  | false => exact lny_get yzeq_z0 h
  | true => exact lny_get yzeq_z1 h
theorem yze1_d20 : lne true true yze1 fr1 fg1 1 2 3 2 2 2 2 2 887 20 33 3 20 = true := by decide +kernel
theorem yze1_d33 : lne true true yze1 fr1 fg1 1 2 3 2 2 2 2 2 887 33 37 3 20 = true := by decide +kernel
theorem yze1_d37 : lne true true yze1 fr1 fg1 1 2 3 2 2 2 2 2 887 37 42 3 20 = true := by decide +kernel
theorem yze1_d42 : lne true true yze1 fr1 fg1 1 2 3 2 2 2 2 2 887 42 48 3 20 = true := by decide +kernel
theorem yze1_all {c m : Nat} (m3 : 3 ≤ m) (h20 : 20 ≤ c) (h47 : c ≤ 47) (hc : c + 2 * m ≤ 58) {s : T6} (hs : s ∈ lng yze1 c) : (true = false → 5 ≤ 58 - 2 * m - c → dpD true fr1 fg1 0 1 2 3 2 2 2 2 s.2.2.1 s.2.2.2.1 2 s.2.2.2.2.1 s.2.2.2.2.2 s.1 (58 - 2 * m - c) m ≤ 887) ∧ (true = true → dpD true fr1 fg1 5 1 2 3 2 2 2 2 s.2.2.1 s.2.2.2.1 2 s.2.2.2.2.1 s.2.2.2.2.2 s.1 0 m ≤ 887) := by
  by_cases q37 : c < 37
  · skip
    by_cases q33 : c < 33
    · skip
      exact lne_get yze1_d20 (by omega) (by omega) (by omega) (by omega) hc hs
    · skip
      exact lne_get yze1_d33 (by omega) (by omega) (by omega) (by omega) hc hs
  · skip
    by_cases q42 : c < 42
    · skip
      exact lne_get yze1_d37 (by omega) (by omega) (by omega) (by omega) hc hs
    · skip
      exact lne_get yze1_d42 (by omega) (by omega) (by omega) (by omega) hc hs
theorem yzeq_d20 : lne true true yzeq frq fgq 0 1 1 1 3 2 1 1 597 20 33 3 20 = true := by decide +kernel
theorem yzeq_d33 : lne true true yzeq frq fgq 0 1 1 1 3 2 1 1 597 33 37 3 20 = true := by decide +kernel
theorem yzeq_d37 : lne true true yzeq frq fgq 0 1 1 1 3 2 1 1 597 37 42 3 20 = true := by decide +kernel
theorem yzeq_d42 : lne true true yzeq frq fgq 0 1 1 1 3 2 1 1 597 42 48 3 20 = true := by decide +kernel
theorem yzeq_all {c m : Nat} (m3 : 3 ≤ m) (h20 : 20 ≤ c) (h47 : c ≤ 47) (hc : c + 2 * m ≤ 58) {s : T6} (hs : s ∈ lng yzeq c) : (true = false → 5 ≤ 58 - 2 * m - c → dpD true frq fgq 0 0 1 1 1 3 2 1 s.2.2.1 s.2.2.2.1 1 s.2.2.2.2.1 s.2.2.2.2.2 s.1 (58 - 2 * m - c) m ≤ 597) ∧ (true = true → dpD true frq fgq 5 0 1 1 1 3 2 1 s.2.2.1 s.2.2.2.1 1 s.2.2.2.2.1 s.2.2.2.2.2 s.1 0 m ≤ 597) := by
  by_cases q37 : c < 37
  · skip
    by_cases q33 : c < 33
    · skip
      exact lne_get yzeq_d20 (by omega) (by omega) (by omega) (by omega) hc hs
    · skip
      exact lne_get yzeq_d33 (by omega) (by omega) (by omega) (by omega) hc hs
  · skip
    by_cases q42 : c < 42
    · skip
      exact lne_get yzeq_d37 (by omega) (by omega) (by omega) (by omega) hc hs
    · skip
      exact lne_get yzeq_d42 (by omega) (by omega) (by omega) (by omega) hc hs
