/-! BY NATURE, lists vb. -/
def yvb1 : LnT := [[], [], [], [], [], [], [], [], [], [], [], [], [], [], [], [], [], [], [], [], [], [], [], [], [], [], [], [], [], [], [], [(35, 0, 31, 5, 0, 22)], [(41, 0, 37, 6, 0, 23)], [(45, 0, 41, 6, 0, 24)], [(45, 0, 41, 6, 0, 25)], [], [], [(38, 0, 31, 5, 1, 22)], [], [(65, 0, 41, 6, 2, 25)], [(73, 0, 31, 5, 2, 22)], [(85, 0, 37, 6, 2, 23), (54, 0, 49, 9, 1, 27)], [], [], [], [], [], []]
def yvbq : LnT := [[], [], [], [], [], [], [], [], [], [], [], [], [], [], [], [], [], [], [], [], [], [], [], [], [], [], [], [], [], [], [], [(19, 0, 18, 5, 0, 22)], [(20, 0, 19, 6, 0, 23)], [(25, 0, 24, 6, 0, 24)], [(28, 0, 27, 6, 0, 25)], [], [], [(20, 0, 18, 5, 1, 22)], [], [(39, 0, 27, 6, 2, 25)], [(39, 0, 18, 5, 2, 22)], [(41, 0, 30, 9, 2, 27)], [], [], [], [], [], []]
def tvb0 : List (Nat × Nat × Nat) := [(21, 0, 9), (22, 0, 0), (22, 0, 6), (22, 0, 9), (22, 0, 10), (23, 0, 0), (23, 0, 9), (24, 0, 0), (25, 0, 0), (25, 0, 5), (25, 5, 0), (27, 0, 5), (27, 5, 0)]
def tvb1 : List (Nat × Nat × Nat) := [(21, 0, 9), (22, 0, 0), (22, 0, 6), (22, 0, 9), (22, 0, 10), (23, 0, 0), (23, 0, 9), (24, 0, 0), (25, 0, 0), (25, 0, 5), (25, 5, 0), (27, 0, 5), (27, 5, 0)]
theorem yvb1_k : lnkb yvb1 = true := by decide +kernel
theorem yvb1_w : lnw yvb1 2 = true := by decide +kernel
theorem yvbq_k : lnkb yvbq = true := by decide +kernel
theorem yvbq_w : lnw yvbq 1 = true := by decide +kernel
theorem yvb1_z0 : lny yvb1 xfa1 fg1 fx1 1 3 2 false tvb0 = true := by decide +kernel
theorem yvb1_z1 : lny yvb1 xfa1 fg1 fx1 1 3 2 true tvb1 = true := by decide +kernel
theorem yvb1_z {o : Bool} {k q1 q2 : Nat} (h : (k, q1, q2) ∈ (if o then tvb1 else tvb0)) : lnz yvb1 xfa1 fg1 fx1 1 3 2 k q1 q2 (zow o k q1 q2) = true := by
  cases o with
  | false => exact lny_get yvb1_z0 h
  | true => exact lny_get yvb1_z1 h
theorem yvbq_z0 : lny yvbq xfaq fgq fxq 0 1 1 false tvb0 = true := by decide +kernel
theorem yvbq_z1 : lny yvbq xfaq fgq fxq 0 1 1 true tvb1 = true := by decide +kernel
theorem yvbq_z {o : Bool} {k q1 q2 : Nat} (h : (k, q1, q2) ∈ (if o then tvb1 else tvb0)) : lnz yvbq xfaq fgq fxq 0 1 1 k q1 q2 (zow o k q1 q2) = true := by
  cases o with
  | false => exact lny_get yvbq_z0 h
  | true => exact lny_get yvbq_z1 h
theorem yvb1_d20 : lne false false yvb1 fr1 fg1 1 2 3 2 2 2 2 2 887 20 33 6 20 = true := by decide +kernel
theorem yvb1_d33 : lne false false yvb1 fr1 fg1 1 2 3 2 2 2 2 2 887 33 37 6 20 = true := by decide +kernel
theorem yvb1_d37 : lne false false yvb1 fr1 fg1 1 2 3 2 2 2 2 2 887 37 42 6 20 = true := by decide +kernel
theorem yvb1_d42 : lne false false yvb1 fr1 fg1 1 2 3 2 2 2 2 2 887 42 48 6 20 = true := by decide +kernel
theorem yvb1_all {c m : Nat} (m6 : 6 ≤ m) (h20 : 20 ≤ c) (h47 : c ≤ 47) (hc : c + 2 * m ≤ 58) {s : T6} (hs : s ∈ lng yvb1 c) : (false = false → 5 ≤ 58 - 2 * m - c → dpD false fr1 fg1 0 1 2 3 2 2 2 2 s.2.2.1 s.2.2.2.1 2 s.2.2.2.2.1 s.2.2.2.2.2 s.1 (58 - 2 * m - c) m ≤ 887) ∧ (false = true → dpD false fr1 fg1 5 1 2 3 2 2 2 2 s.2.2.1 s.2.2.2.1 2 s.2.2.2.2.1 s.2.2.2.2.2 s.1 0 m ≤ 887) := by
  by_cases q37 : c < 37
  · skip
    by_cases q33 : c < 33
    · skip
      exact lne_get yvb1_d20 (by omega) (by omega) (by omega) (by omega) hc hs
    · skip
      exact lne_get yvb1_d33 (by omega) (by omega) (by omega) (by omega) hc hs
  · skip
    by_cases q42 : c < 42
    · skip
      exact lne_get yvb1_d37 (by omega) (by omega) (by omega) (by omega) hc hs
    · skip
      exact lne_get yvb1_d42 (by omega) (by omega) (by omega) (by omega) hc hs
theorem yvbq_d20 : lne false false yvbq frq fgq 0 1 1 1 3 2 1 1 597 20 33 6 20 = true := by decide +kernel
theorem yvbq_d33 : lne false false yvbq frq fgq 0 1 1 1 3 2 1 1 597 33 37 6 20 = true := by decide +kernel
theorem yvbq_d37 : lne false false yvbq frq fgq 0 1 1 1 3 2 1 1 597 37 42 6 20 = true := by decide +kernel
theorem yvbq_d42 : lne false false yvbq frq fgq 0 1 1 1 3 2 1 1 597 42 48 6 20 = true := by decide +kernel
theorem yvbq_all {c m : Nat} (m6 : 6 ≤ m) (h20 : 20 ≤ c) (h47 : c ≤ 47) (hc : c + 2 * m ≤ 58) {s : T6} (hs : s ∈ lng yvbq c) : (false = false → 5 ≤ 58 - 2 * m - c → dpD false frq fgq 0 0 1 1 1 3 2 1 s.2.2.1 s.2.2.2.1 1 s.2.2.2.2.1 s.2.2.2.2.2 s.1 (58 - 2 * m - c) m ≤ 597) ∧ (false = true → dpD false frq fgq 5 0 1 1 1 3 2 1 s.2.2.1 s.2.2.2.1 1 s.2.2.2.2.1 s.2.2.2.2.2 s.1 0 m ≤ 597) := by
  by_cases q37 : c < 37
  · skip
    by_cases q33 : c < 33
    · skip
      exact lne_get yvbq_d20 (by omega) (by omega) (by omega) (by omega) hc hs
    · skip
      exact lne_get yvbq_d33 (by omega) (by omega) (by omega) (by omega) hc hs
  · skip
    by_cases q42 : c < 42
    · skip
      exact lne_get yvbq_d37 (by omega) (by omega) (by omega) (by omega) hc hs
    · skip
      exact lne_get yvbq_d42 (by omega) (by omega) (by omega) (by omega) hc hs
/-! BY NATURE, lists d. -/
def yd1 : LnT := [[], [], [], [], [], [], [], [], [], [], [], [], [], [], [], [], [], [], [], [], [], [], [], [], [], [], [], [], [], [], [], [], [], [], [], [], [], [], [], [], [], [(109, 0, 43, 7, 2, 23), (101, 0, 29, 8, 2, 23), (91, 0, 22, 9, 2, 23)], [], [], [], [], [], []]
def ydq : LnT := [[], [], [], [], [], [], [], [], [], [], [], [], [], [], [], [], [], [], [], [], [], [], [], [], [], [], [], [], [], [], [], [], [], [], [], [], [], [], [], [], [], [(69, 0, 33, 8, 2, 23), (39, 0, 9, 9, 2, 23)], [], [], [], [], [], []]
def td0 : List (Nat × Nat × Nat) := [(23, 0, 9)]
def td1 : List (Nat × Nat × Nat) := [(23, 0, 9)]
theorem yd1_k : lnkb yd1 = true := by decide +kernel
theorem yd1_w : lnw yd1 2 = true := by decide +kernel
theorem ydq_k : lnkb ydq = true := by decide +kernel
theorem ydq_w : lnw ydq 1 = true := by decide +kernel
theorem yd1_z0 : lny yd1 xr1 fg1 fx1 1 3 2 false td0 = true := by decide +kernel
theorem yd1_z1 : lny yd1 xr1 fg1 fx1 1 3 2 true td1 = true := by decide +kernel
theorem yd1_z {o : Bool} {k q1 q2 : Nat} (h : (k, q1, q2) ∈ (if o then td1 else td0)) : lnz yd1 xr1 fg1 fx1 1 3 2 k q1 q2 (zow o k q1 q2) = true := by
  cases o with
  | false => exact lny_get yd1_z0 h
  | true => exact lny_get yd1_z1 h
theorem ydq_z0 : lny ydq xrq fgq fxq 0 1 1 false td0 = true := by decide +kernel
theorem ydq_z1 : lny ydq xrq fgq fxq 0 1 1 true td1 = true := by decide +kernel
theorem ydq_z {o : Bool} {k q1 q2 : Nat} (h : (k, q1, q2) ∈ (if o then td1 else td0)) : lnz ydq xrq fgq fxq 0 1 1 k q1 q2 (zow o k q1 q2) = true := by
  cases o with
  | false => exact lny_get ydq_z0 h
  | true => exact lny_get ydq_z1 h
theorem yd1_d20 : lne false false yd1 fr1 fg1 1 2 3 2 2 2 2 2 887 20 33 3 5 = true := by decide +kernel
theorem yd1_d33 : lne false false yd1 fr1 fg1 1 2 3 2 2 2 2 2 887 33 37 3 5 = true := by decide +kernel
theorem yd1_d37 : lne false false yd1 fr1 fg1 1 2 3 2 2 2 2 2 887 37 42 3 5 = true := by decide +kernel
theorem yd1_d42 : lne false false yd1 fr1 fg1 1 2 3 2 2 2 2 2 887 42 48 3 5 = true := by decide +kernel
theorem yd1_all {c m : Nat} (m3 : 3 ≤ m) (m5 : m < 5) (h20 : 20 ≤ c) (h47 : c ≤ 47) (hc : c + 2 * m ≤ 58) {s : T6} (hs : s ∈ lng yd1 c) : (false = false → 5 ≤ 58 - 2 * m - c → dpD false fr1 fg1 0 1 2 3 2 2 2 2 s.2.2.1 s.2.2.2.1 2 s.2.2.2.2.1 s.2.2.2.2.2 s.1 (58 - 2 * m - c) m ≤ 887) ∧ (false = true → dpD false fr1 fg1 5 1 2 3 2 2 2 2 s.2.2.1 s.2.2.2.1 2 s.2.2.2.2.1 s.2.2.2.2.2 s.1 0 m ≤ 887) := by
  by_cases q37 : c < 37
  · skip
    by_cases q33 : c < 33
    · skip
      exact lne_get yd1_d20 (by omega) (by omega) (by omega) (by omega) hc hs
    · skip
      exact lne_get yd1_d33 (by omega) (by omega) (by omega) (by omega) hc hs
  · skip
    by_cases q42 : c < 42
    · skip
      exact lne_get yd1_d37 (by omega) (by omega) (by omega) (by omega) hc hs
    · skip
      exact lne_get yd1_d42 (by omega) (by omega) (by omega) (by omega) hc hs
theorem ydq_d20 : lne false false ydq frq fgq 0 1 1 1 3 2 1 1 597 20 33 3 5 = true := by decide +kernel
theorem ydq_d33 : lne false false ydq frq fgq 0 1 1 1 3 2 1 1 597 33 37 3 5 = true := by decide +kernel
theorem ydq_d37 : lne false false ydq frq fgq 0 1 1 1 3 2 1 1 597 37 42 3 5 = true := by decide +kernel
theorem ydq_d42 : lne false false ydq frq fgq 0 1 1 1 3 2 1 1 597 42 48 3 5 = true := by decide +kernel
theorem ydq_all {c m : Nat} (m3 : 3 ≤ m) (m5 : m < 5) (h20 : 20 ≤ c) (h47 : c ≤ 47) (hc : c + 2 * m ≤ 58) {s : T6} (hs : s ∈ lng ydq c) : (false = false → 5 ≤ 58 - 2 * m - c → dpD false frq fgq 0 0 1 1 1 3 2 1 s.2.2.1 s.2.2.2.1 1 s.2.2.2.2.1 s.2.2.2.2.2 s.1 (58 - 2 * m - c) m ≤ 597) ∧ (false = true → dpD false frq fgq 5 0 1 1 1 3 2 1 s.2.2.1 s.2.2.2.1 1 s.2.2.2.2.1 s.2.2.2.2.2 s.1 0 m ≤ 597) := by
  by_cases q37 : c < 37
  · skip
    by_cases q33 : c < 33
    · skip
      exact lne_get ydq_d20 (by omega) (by omega) (by omega) (by omega) hc hs
    · skip
      exact lne_get ydq_d33 (by omega) (by omega) (by omega) (by omega) hc hs
  · skip
    by_cases q42 : c < 42
    · skip
      exact lne_get ydq_d37 (by omega) (by omega) (by omega) (by omega) hc hs
    · skip
      exact lne_get ydq_d42 (by omega) (by omega) (by omega) (by omega) hc hs
/-! BY NATURE, lists g. -/
def yg1 : LnT := [[], [], [], [], [], [], [], [], [], [], [], [], [], [], [], [], [], [], [], [], [], [], [], [], [], [], [], [(32, 0, 23, 6, 0, 18)], [(37, 0, 29, 6, 0, 19)], [], [], [(44, 0, 34, 9, 0, 22)], [(53, 0, 43, 9, 0, 23)], [(53, 0, 45, 9, 0, 24)], [(53, 0, 45, 9, 0, 25)], [(59, 0, 49, 12, 0, 26)], [(71, 0, 58, 12, 2, 27)], [(77, 0, 67, 12, 0, 28)], [(77, 0, 67, 12, 0, 29)], [(83, 0, 67, 16, 0, 30)], [(98, 0, 79, 18, 2, 31)], [(113, 0, 97, 18, 2, 32)], [(113, 0, 97, 18, 2, 33)], [], [], [], [], []]
def ygq : LnT := [[], [], [], [], [], [], [], [], [], [], [], [], [], [], [], [], [], [], [], [], [], [], [], [], [], [], [], [(18, 0, 17, 6, 0, 18)], [(23, 0, 22, 6, 0, 19)], [], [], [(29, 0, 28, 9, 0, 22)], [(34, 0, 33, 9, 0, 23)], [(34, 0, 33, 9, 0, 24)], [(35, 0, 34, 9, 0, 25)], [(43, 0, 42, 12, 0, 26)], [(45, 0, 44, 12, 2, 27)], [(47, 0, 46, 12, 0, 28)], [(52, 0, 51, 12, 0, 29)], [(57, 0, 56, 16, 0, 30)], [(59, 0, 58, 18, 2, 31)], [(70, 0, 69, 18, 2, 32)], [(76, 0, 75, 18, 2, 33)], [], [], [], [], []]
def tg0 : List (Nat × Nat × Nat) := [(18, 0, 0), (18, 0, 9), (19, 0, 0), (22, 0, 0), (22, 0, 5), (22, 0, 9), (22, 0, 10), (22, 0, 11), (22, 5, 0), (23, 0, 0), (23, 0, 9), (23, 0, 10), (24, 0, 0), (24, 0, 9), (25, 0, 0), (26, 0, 0), (27, 0, 0), (27, 0, 5), (27, 0, 6), (27, 5, 0), (27, 6, 0), (28, 0, 0), (28, 0, 5), (28, 5, 0), (29, 0, 0), (30, 0, 0), (31, 0, 0), (32, 0, 0), (33, 0, 0)]
def tg1 : List (Nat × Nat × Nat) := [(18, 0, 0), (18, 0, 9), (19, 0, 0), (22, 0, 0), (22, 0, 5), (22, 0, 9), (22, 0, 10), (22, 0, 11), (22, 5, 0), (23, 0, 0), (23, 0, 9), (23, 0, 10), (24, 0, 0), (24, 0, 9), (25, 0, 0), (26, 0, 0), (27, 0, 0), (27, 0, 5), (27, 0, 6), (27, 5, 0), (27, 6, 0), (28, 0, 0), (28, 0, 5), (28, 5, 0), (29, 0, 0), (30, 0, 0), (31, 0, 0), (32, 0, 0), (33, 0, 0)]
theorem yg1_k : lnkb yg1 = true := by decide +kernel
theorem yg1_w : lnw yg1 2 = true := by decide +kernel
theorem ygq_k : lnkb ygq = true := by decide +kernel
theorem ygq_w : lnw ygq 1 = true := by decide +kernel
theorem yg1_z0 : lny yg1 xr1 fg1 fx1 1 3 2 false tg0 = true := by decide +kernel
theorem yg1_z1 : lny yg1 xr1 fg1 fx1 1 3 2 true tg1 = true := by decide +kernel
theorem yg1_z {o : Bool} {k q1 q2 : Nat} (h : (k, q1, q2) ∈ (if o then tg1 else tg0)) : lnz yg1 xr1 fg1 fx1 1 3 2 k q1 q2 (zow o k q1 q2) = true := by
  cases o with
  | false => exact lny_get yg1_z0 h
  | true => exact lny_get yg1_z1 h
theorem ygq_z0 : lny ygq xrq fgq fxq 0 1 1 false tg0 = true := by decide +kernel
theorem ygq_z1 : lny ygq xrq fgq fxq 0 1 1 true tg1 = true := by decide +kernel
theorem ygq_z {o : Bool} {k q1 q2 : Nat} (h : (k, q1, q2) ∈ (if o then tg1 else tg0)) : lnz ygq xrq fgq fxq 0 1 1 k q1 q2 (zow o k q1 q2) = true := by
  cases o with
  | false => exact lny_get ygq_z0 h
  | true => exact lny_get ygq_z1 h
theorem yg1_d20 : lne true true yg1 fr1 fg1 1 2 3 2 2 2 2 2 887 20 33 3 8 = true := by decide +kernel
theorem yg1_d33 : lne true true yg1 fr1 fg1 1 2 3 2 2 2 2 2 887 33 37 3 8 = true := by decide +kernel
theorem yg1_d37 : lne true true yg1 fr1 fg1 1 2 3 2 2 2 2 2 887 37 42 3 8 = true := by decide +kernel
theorem yg1_d42 : lne true true yg1 fr1 fg1 1 2 3 2 2 2 2 2 887 42 48 3 8 = true := by decide +kernel
theorem yg1_all {c m : Nat} (m3 : 3 ≤ m) (m5 : m < 8) (h20 : 20 ≤ c) (h47 : c ≤ 47) (hc : c + 2 * m ≤ 58) {s : T6} (hs : s ∈ lng yg1 c) : (true = false → 5 ≤ 58 - 2 * m - c → dpD true fr1 fg1 0 1 2 3 2 2 2 2 s.2.2.1 s.2.2.2.1 2 s.2.2.2.2.1 s.2.2.2.2.2 s.1 (58 - 2 * m - c) m ≤ 887) ∧ (true = true → dpD true fr1 fg1 5 1 2 3 2 2 2 2 s.2.2.1 s.2.2.2.1 2 s.2.2.2.2.1 s.2.2.2.2.2 s.1 0 m ≤ 887) := by
  by_cases q37 : c < 37
  · skip
    by_cases q33 : c < 33
    · skip
      exact lne_get yg1_d20 (by omega) (by omega) (by omega) (by omega) hc hs
    · skip
      exact lne_get yg1_d33 (by omega) (by omega) (by omega) (by omega) hc hs
  · skip
    by_cases q42 : c < 42
    · skip
      exact lne_get yg1_d37 (by omega) (by omega) (by omega) (by omega) hc hs
    · skip
      exact lne_get yg1_d42 (by omega) (by omega) (by omega) (by omega) hc hs
theorem ygq_d20 : lne true true ygq frq fgq 0 1 1 1 3 2 1 1 597 20 33 3 8 = true := by decide +kernel
theorem ygq_d33 : lne true true ygq frq fgq 0 1 1 1 3 2 1 1 597 33 37 3 8 = true := by decide +kernel
theorem ygq_d37 : lne true true ygq frq fgq 0 1 1 1 3 2 1 1 597 37 42 3 8 = true := by decide +kernel
theorem ygq_d42 : lne true true ygq frq fgq 0 1 1 1 3 2 1 1 597 42 48 3 8 = true := by decide +kernel
theorem ygq_all {c m : Nat} (m3 : 3 ≤ m) (m5 : m < 8) (h20 : 20 ≤ c) (h47 : c ≤ 47) (hc : c + 2 * m ≤ 58) {s : T6} (hs : s ∈ lng ygq c) : (true = false → 5 ≤ 58 - 2 * m - c → dpD true frq fgq 0 0 1 1 1 3 2 1 s.2.2.1 s.2.2.2.1 1 s.2.2.2.2.1 s.2.2.2.2.2 s.1 (58 - 2 * m - c) m ≤ 597) ∧ (true = true → dpD true frq fgq 5 0 1 1 1 3 2 1 s.2.2.1 s.2.2.2.1 1 s.2.2.2.2.1 s.2.2.2.2.2 s.1 0 m ≤ 597) := by
  by_cases q37 : c < 37
  · skip
    by_cases q33 : c < 33
    · skip
      exact lne_get ygq_d20 (by omega) (by omega) (by omega) (by omega) hc hs
    · skip
      exact lne_get ygq_d33 (by omega) (by omega) (by omega) (by omega) hc hs
  · skip
    by_cases q42 : c < 42
    · skip
      exact lne_get ygq_d37 (by omega) (by omega) (by omega) (by omega) hc hs
    · skip
      exact lne_get ygq_d42 (by omega) (by omega) (by omega) (by omega) hc hs
/-! BY NATURE, lists h. -/
def yh1 : LnT := [[], [], [], [], [], [], [], [], [], [], [], [], [], [], [], [], [], [], [], [], [], [], [], [], [], [], [], [], [], [], [], [], [], [], [], [], [(67, 0, 23, 6, 2, 18)], [], [], [], [], [], [], [], [], [], [], []]
def yhq : LnT := [[], [], [], [], [], [], [], [], [], [], [], [], [], [], [], [], [], [], [], [], [], [], [], [], [], [], [], [], [], [], [], [], [], [], [], [], [(37, 0, 17, 6, 2, 18)], [], [], [], [], [], [], [], [], [], [], []]
def th0 : List (Nat × Nat × Nat) := [(18, 0, 9)]
def th1 : List (Nat × Nat × Nat) := [(18, 0, 9)]
theorem yh1_k : lnkb yh1 = true := by decide +kernel
theorem yh1_w : lnw yh1 2 = true := by decide +kernel
theorem yhq_k : lnkb yhq = true := by decide +kernel
theorem yhq_w : lnw yhq 1 = true := by decide +kernel
theorem yh1_z0 : lny yh1 xr1 fg1 fx1 1 3 2 false th0 = true := by decide +kernel
theorem yh1_z1 : lny yh1 xr1 fg1 fx1 1 3 2 true th1 = true := by decide +kernel
theorem yh1_z {o : Bool} {k q1 q2 : Nat} (h : (k, q1, q2) ∈ (if o then th1 else th0)) : lnz yh1 xr1 fg1 fx1 1 3 2 k q1 q2 (zow o k q1 q2) = true := by
  cases o with
  | false => exact lny_get yh1_z0 h
  | true => exact lny_get yh1_z1 h
theorem yhq_z0 : lny yhq xrq fgq fxq 0 1 1 false th0 = true := by decide +kernel
theorem yhq_z1 : lny yhq xrq fgq fxq 0 1 1 true th1 = true := by decide +kernel
theorem yhq_z {o : Bool} {k q1 q2 : Nat} (h : (k, q1, q2) ∈ (if o then th1 else th0)) : lnz yhq xrq fgq fxq 0 1 1 k q1 q2 (zow o k q1 q2) = true := by
  cases o with
  | false => exact lny_get yhq_z0 h
  | true => exact lny_get yhq_z1 h
theorem yh1_d20 : lne true true yh1 fr1 fg1 1 2 3 2 2 2 2 2 887 20 33 8 11 = true := by decide +kernel
theorem yh1_d33 : lne true true yh1 fr1 fg1 1 2 3 2 2 2 2 2 887 33 37 8 11 = true := by decide +kernel
theorem yh1_d37 : lne true true yh1 fr1 fg1 1 2 3 2 2 2 2 2 887 37 42 8 11 = true := by decide +kernel
theorem yh1_d42 : lne true true yh1 fr1 fg1 1 2 3 2 2 2 2 2 887 42 48 8 11 = true := by decide +kernel
theorem yh1_all {c m : Nat} (m3 : 8 ≤ m) (m5 : m < 11) (h20 : 20 ≤ c) (h47 : c ≤ 47) (hc : c + 2 * m ≤ 58) {s : T6} (hs : s ∈ lng yh1 c) : (true = false → 5 ≤ 58 - 2 * m - c → dpD true fr1 fg1 0 1 2 3 2 2 2 2 s.2.2.1 s.2.2.2.1 2 s.2.2.2.2.1 s.2.2.2.2.2 s.1 (58 - 2 * m - c) m ≤ 887) ∧ (true = true → dpD true fr1 fg1 5 1 2 3 2 2 2 2 s.2.2.1 s.2.2.2.1 2 s.2.2.2.2.1 s.2.2.2.2.2 s.1 0 m ≤ 887) := by
  by_cases q37 : c < 37
  · skip
    by_cases q33 : c < 33
    · skip
      exact lne_get yh1_d20 (by omega) (by omega) (by omega) (by omega) hc hs
    · skip
      exact lne_get yh1_d33 (by omega) (by omega) (by omega) (by omega) hc hs
  · skip
    by_cases q42 : c < 42
    · skip
      exact lne_get yh1_d37 (by omega) (by omega) (by omega) (by omega) hc hs
    · skip
      exact lne_get yh1_d42 (by omega) (by omega) (by omega) (by omega) hc hs
theorem yhq_d20 : lne true true yhq frq fgq 0 1 1 1 3 2 1 1 597 20 33 8 11 = true := by decide +kernel
theorem yhq_d33 : lne true true yhq frq fgq 0 1 1 1 3 2 1 1 597 33 37 8 11 = true := by decide +kernel
theorem yhq_d37 : lne true true yhq frq fgq 0 1 1 1 3 2 1 1 597 37 42 8 11 = true := by decide +kernel
theorem yhq_d42 : lne true true yhq frq fgq 0 1 1 1 3 2 1 1 597 42 48 8 11 = true := by decide +kernel
theorem yhq_all {c m : Nat} (m3 : 8 ≤ m) (m5 : m < 11) (h20 : 20 ≤ c) (h47 : c ≤ 47) (hc : c + 2 * m ≤ 58) {s : T6} (hs : s ∈ lng yhq c) : (true = false → 5 ≤ 58 - 2 * m - c → dpD true frq fgq 0 0 1 1 1 3 2 1 s.2.2.1 s.2.2.2.1 1 s.2.2.2.2.1 s.2.2.2.2.2 s.1 (58 - 2 * m - c) m ≤ 597) ∧ (true = true → dpD true frq fgq 5 0 1 1 1 3 2 1 s.2.2.1 s.2.2.2.1 1 s.2.2.2.2.1 s.2.2.2.2.2 s.1 0 m ≤ 597) := by
  by_cases q37 : c < 37
  · skip
    by_cases q33 : c < 33
    · skip
      exact lne_get yhq_d20 (by omega) (by omega) (by omega) (by omega) hc hs
    · skip
      exact lne_get yhq_d33 (by omega) (by omega) (by omega) (by omega) hc hs
  · skip
    by_cases q42 : c < 42
    · skip
      exact lne_get yhq_d37 (by omega) (by omega) (by omega) (by omega) hc hs
    · skip
      exact lne_get yhq_d42 (by omega) (by omega) (by omega) (by omega) hc hs
/-! BY NATURE, lists i. -/
def yi1 : LnT := [[], [], [], [], [], [], [], [], [], [], [], [], [], [], [], [], [], [], [], [], [], [], [], [], [], [], [], [], [], [], [], [], [], [], [], [], [], [(77, 0, 29, 5, 2, 19), (67, 0, 16, 6, 2, 19)], [], [], [], [], [], [], [], [], [], []]
def yiq : LnT := [[], [], [], [], [], [], [], [], [], [], [], [], [], [], [], [], [], [], [], [], [], [], [], [], [], [], [], [], [], [], [], [], [], [], [], [], [], [(47, 0, 22, 5, 2, 19), (27, 0, 6, 6, 2, 19)], [], [], [], [], [], [], [], [], [], []]
def ti0 : List (Nat × Nat × Nat) := [(19, 0, 9)]
def ti1 : List (Nat × Nat × Nat) := [(19, 0, 9)]
theorem yi1_k : lnkb yi1 = true := by decide +kernel
theorem yi1_w : lnw yi1 2 = true := by decide +kernel
theorem yiq_k : lnkb yiq = true := by decide +kernel
theorem yiq_w : lnw yiq 1 = true := by decide +kernel
theorem yi1_z0 : lny yi1 xr1 fg1 fx1 1 3 2 false ti0 = true := by decide +kernel
theorem yi1_z1 : lny yi1 xr1 fg1 fx1 1 3 2 true ti1 = true := by decide +kernel
theorem yi1_z {o : Bool} {k q1 q2 : Nat} (h : (k, q1, q2) ∈ (if o then ti1 else ti0)) : lnz yi1 xr1 fg1 fx1 1 3 2 k q1 q2 (zow o k q1 q2) = true := by
  cases o with
  | false => exact lny_get yi1_z0 h
  | true => exact lny_get yi1_z1 h
theorem yiq_z0 : lny yiq xrq fgq fxq 0 1 1 false ti0 = true := by decide +kernel
theorem yiq_z1 : lny yiq xrq fgq fxq 0 1 1 true ti1 = true := by decide +kernel
theorem yiq_z {o : Bool} {k q1 q2 : Nat} (h : (k, q1, q2) ∈ (if o then ti1 else ti0)) : lnz yiq xrq fgq fxq 0 1 1 k q1 q2 (zow o k q1 q2) = true := by
  cases o with
  | false => exact lny_get yiq_z0 h
  | true => exact lny_get yiq_z1 h
theorem yi1_d20 : lne true false yi1 fr1 fg1 1 2 3 2 2 2 2 2 887 20 33 6 8 = true := by decide +kernel
theorem yi1_d33 : lne true false yi1 fr1 fg1 1 2 3 2 2 2 2 2 887 33 37 6 8 = true := by decide +kernel
theorem yi1_d37 : lne true false yi1 fr1 fg1 1 2 3 2 2 2 2 2 887 37 42 6 8 = true := by decide +kernel
theorem yi1_d42 : lne true false yi1 fr1 fg1 1 2 3 2 2 2 2 2 887 42 48 6 8 = true := by decide +kernel
theorem yi1_all {c m : Nat} (m3 : 6 ≤ m) (m5 : m < 8) (h20 : 20 ≤ c) (h47 : c ≤ 47) (hc : c + 2 * m ≤ 58) {s : T6} (hs : s ∈ lng yi1 c) : (false = false → 5 ≤ 58 - 2 * m - c → dpD true fr1 fg1 0 1 2 3 2 2 2 2 s.2.2.1 s.2.2.2.1 2 s.2.2.2.2.1 s.2.2.2.2.2 s.1 (58 - 2 * m - c) m ≤ 887) ∧ (false = true → dpD true fr1 fg1 5 1 2 3 2 2 2 2 s.2.2.1 s.2.2.2.1 2 s.2.2.2.2.1 s.2.2.2.2.2 s.1 0 m ≤ 887) := by
  by_cases q37 : c < 37
  · skip
    by_cases q33 : c < 33
    · skip
      exact lne_get yi1_d20 (by omega) (by omega) (by omega) (by omega) hc hs
    · skip
      exact lne_get yi1_d33 (by omega) (by omega) (by omega) (by omega) hc hs
  · skip
    by_cases q42 : c < 42
    · skip
      exact lne_get yi1_d37 (by omega) (by omega) (by omega) (by omega) hc hs
    · skip
      exact lne_get yi1_d42 (by omega) (by omega) (by omega) (by omega) hc hs
theorem yiq_d20 : lne true false yiq frq fgq 0 1 1 1 3 2 1 1 597 20 33 6 8 = true := by decide +kernel
theorem yiq_d33 : lne true false yiq frq fgq 0 1 1 1 3 2 1 1 597 33 37 6 8 = true := by decide +kernel
theorem yiq_d37 : lne true false yiq frq fgq 0 1 1 1 3 2 1 1 597 37 42 6 8 = true := by decide +kernel
theorem yiq_d42 : lne true false yiq frq fgq 0 1 1 1 3 2 1 1 597 42 48 6 8 = true := by decide +kernel
theorem yiq_all {c m : Nat} (m3 : 6 ≤ m) (m5 : m < 8) (h20 : 20 ≤ c) (h47 : c ≤ 47) (hc : c + 2 * m ≤ 58) {s : T6} (hs : s ∈ lng yiq c) : (false = false → 5 ≤ 58 - 2 * m - c → dpD true frq fgq 0 0 1 1 1 3 2 1 s.2.2.1 s.2.2.2.1 1 s.2.2.2.2.1 s.2.2.2.2.2 s.1 (58 - 2 * m - c) m ≤ 597) ∧ (false = true → dpD true frq fgq 5 0 1 1 1 3 2 1 s.2.2.1 s.2.2.2.1 1 s.2.2.2.2.1 s.2.2.2.2.2 s.1 0 m ≤ 597) := by
  by_cases q37 : c < 37
  · skip
    by_cases q33 : c < 33
    · skip
      exact lne_get yiq_d20 (by omega) (by omega) (by omega) (by omega) hc hs
    · skip
      exact lne_get yiq_d33 (by omega) (by omega) (by omega) (by omega) hc hs
  · skip
    by_cases q42 : c < 42
    · skip
      exact lne_get yiq_d37 (by omega) (by omega) (by omega) (by omega) hc hs
    · skip
      exact lne_get yiq_d42 (by omega) (by omega) (by omega) (by omega) hc hs
section PmY9
variable {f : Nat} {t C : Ty} {Γ0 Δ1 : List Ty} {Δ : List (Nat × Ty × Nat)} {o : Bool}
theorem nat_vb (w : TWf f (cxs Δ1 Γ0 (tAll tTop C)).length (Δ.map (fun a => a.1)) t) (he : TE (cxs Δ1 Γ0 (tAll tTop C)) Δ) (hΔ : Δ ≠ []) (m6 : 6 ≤ mch t) (co : COk f t 0) (hp : phf (fun _ => true) C = true) (hz : (tch C, cch Γ0, cch Δ1) ∈ (if o then tvb1 else tvb0)) (ho : (∀ b ∈ Γ0, nsch b = true ∨ (o = true ∧ tch b ≤ tch C + 5)) ∧ ∀ b ∈ Δ1, nsch b = true ∨ (o = true ∧ tch b ≤ tch C + 5)) (hb : cch (cxs Δ1 Γ0 (tAll tTop C)) + dch Δ + 2 * mch t ≤ 58) (h20 : 20 ≤ cch (cxs Δ1 Γ0 (tAll tTop C))) (h49 : cch (cxs Δ1 Γ0 (tAll tTop C)) ≤ 47) : NtV (cxs Δ1 Γ0 (tAll tTop C)) Δ f t 887 597 := by
  obtain ⟨oc0, oA⟩ := okc_low Δ1 he.1
  have oC := (ok_all.mp oA).2
  have ec : cch (cxs Δ1 Γ0 (tAll tTop C)) = 9 + tch C + cch Γ0 + cch Δ1 := by
    rw [cch_cx, tch_all, tch_top]
    omega
  exact zone_l (un := false) (ee := false) (L1 := yvb1) (Lq := yvbq) w he (Or.inr ⟨rfl, hΔ⟩) (Or.inr co) (CHo_of_COk f t [] co) ho hb h20 h49 (yv_R oC (by omega) hp) (yv_G oC (by omega) hp) yvb1_k yvbq_k yvb1_w yvbq_w (gr_R he.1 (by omega)) (gr_G he.1 (by omega)) (yvb1_z hz) (yvbq_z hz) (fun c h1 h2 h3 s hs => yvb1_all m6 h1 h2 h3 hs) (fun c h1 h2 h3 s hs => yvbq_all m6 h1 h2 h3 hs)
theorem nat_d (w : TWf f (cxs Δ1 Γ0 (tAll tTop C)).length (Δ.map (fun a => a.1)) t) (he : TE (cxs Δ1 Γ0 (tAll tTop C)) Δ) (hΔ : Δ ≠ []) (m3 : 3 ≤ mch t) (m5 : mch t < 5) (co : COk f t 0) (hz : (tch C, cch Γ0, cch Δ1) ∈ (if o then td1 else td0)) (ho : (∀ b ∈ Γ0, nsch b = true ∨ (o = true ∧ tch b ≤ tch C + 5)) ∧ ∀ b ∈ Δ1, nsch b = true ∨ (o = true ∧ tch b ≤ tch C + 5)) (hb : cch (cxs Δ1 Γ0 (tAll tTop C)) + dch Δ + 2 * mch t ≤ 58) (h20 : 20 ≤ cch (cxs Δ1 Γ0 (tAll tTop C))) (h49 : cch (cxs Δ1 Γ0 (tAll tTop C)) ≤ 47) : NtV (cxs Δ1 Γ0 (tAll tTop C)) Δ f t 887 597 := by
  obtain ⟨oc0, oA⟩ := okc_low Δ1 he.1
  have oC := (ok_all.mp oA).2
  have ec : cch (cxs Δ1 Γ0 (tAll tTop C)) = 9 + tch C + cch Γ0 + cch Δ1 := by
    rw [cch_cx, tch_all, tch_top]
    omega
  exact zone_l (un := false) (ee := false) (L1 := yd1) (Lq := ydq) w he (Or.inr ⟨rfl, hΔ⟩) (Or.inr co) (CHo_of_COk f t [] co) ho hb h20 h49 (form_R oC (by omega)) (form_G oC (by omega)) yd1_k ydq_k yd1_w ydq_w (gr_R he.1 (by omega)) (gr_G he.1 (by omega)) (yd1_z hz) (ydq_z hz) (fun c h1 h2 h3 s hs => yd1_all m3 m5 h1 h2 h3 hs) (fun c h1 h2 h3 s hs => ydq_all m3 m5 h1 h2 h3 hs)
theorem nat_g (w : TWf f (cxs Δ1 Γ0 (tAll tTop C)).length (Δ.map (fun a => a.1)) t) (he : TE (cxs Δ1 Γ0 (tAll tTop C)) Δ) (hΔ : Δ = []) (m3 : 3 ≤ mch t) (m5 : mch t < 8) (ch : CHo f t []) (hz : (tch C, cch Γ0, cch Δ1) ∈ (if o then tg1 else tg0)) (ho : (∀ b ∈ Γ0, nsch b = true ∨ (o = true ∧ tch b ≤ tch C + 5)) ∧ ∀ b ∈ Δ1, nsch b = true ∨ (o = true ∧ tch b ≤ tch C + 5)) (hb : cch (cxs Δ1 Γ0 (tAll tTop C)) + dch Δ + 2 * mch t ≤ 58) (h20 : 20 ≤ cch (cxs Δ1 Γ0 (tAll tTop C))) (h49 : cch (cxs Δ1 Γ0 (tAll tTop C)) ≤ 47) : NtV (cxs Δ1 Γ0 (tAll tTop C)) Δ f t 887 597 := by
  obtain ⟨oc0, oA⟩ := okc_low Δ1 he.1
  have oC := (ok_all.mp oA).2
  have ec : cch (cxs Δ1 Γ0 (tAll tTop C)) = 9 + tch C + cch Γ0 + cch Δ1 := by
    rw [cch_cx, tch_all, tch_top]
    omega
  exact zone_l (un := true) (ee := true) (L1 := yg1) (Lq := ygq) w he (Or.inl ⟨rfl, hΔ⟩) (Or.inl rfl) ch ho hb h20 h49 (form_R oC (by omega)) (form_G oC (by omega)) yg1_k ygq_k yg1_w ygq_w (gr_R he.1 (by omega)) (gr_G he.1 (by omega)) (yg1_z hz) (ygq_z hz) (fun c h1 h2 h3 s hs => yg1_all m3 m5 h1 h2 h3 hs) (fun c h1 h2 h3 s hs => ygq_all m3 m5 h1 h2 h3 hs)
theorem nat_h (w : TWf f (cxs Δ1 Γ0 (tAll tTop C)).length (Δ.map (fun a => a.1)) t) (he : TE (cxs Δ1 Γ0 (tAll tTop C)) Δ) (hΔ : Δ = []) (m3 : 8 ≤ mch t) (m5 : mch t < 11) (ch : CHo f t []) (hz : (tch C, cch Γ0, cch Δ1) ∈ (if o then th1 else th0)) (ho : (∀ b ∈ Γ0, nsch b = true ∨ (o = true ∧ tch b ≤ tch C + 5)) ∧ ∀ b ∈ Δ1, nsch b = true ∨ (o = true ∧ tch b ≤ tch C + 5)) (hb : cch (cxs Δ1 Γ0 (tAll tTop C)) + dch Δ + 2 * mch t ≤ 58) (h20 : 20 ≤ cch (cxs Δ1 Γ0 (tAll tTop C))) (h49 : cch (cxs Δ1 Γ0 (tAll tTop C)) ≤ 47) : NtV (cxs Δ1 Γ0 (tAll tTop C)) Δ f t 887 597 := by
  obtain ⟨oc0, oA⟩ := okc_low Δ1 he.1
  have oC := (ok_all.mp oA).2
  have ec : cch (cxs Δ1 Γ0 (tAll tTop C)) = 9 + tch C + cch Γ0 + cch Δ1 := by
    rw [cch_cx, tch_all, tch_top]
    omega
  exact zone_l (un := true) (ee := true) (L1 := yh1) (Lq := yhq) w he (Or.inl ⟨rfl, hΔ⟩) (Or.inl rfl) ch ho hb h20 h49 (form_R oC (by omega)) (form_G oC (by omega)) yh1_k yhq_k yh1_w yhq_w (gr_R he.1 (by omega)) (gr_G he.1 (by omega)) (yh1_z hz) (yhq_z hz) (fun c h1 h2 h3 s hs => yh1_all m3 m5 h1 h2 h3 hs) (fun c h1 h2 h3 s hs => yhq_all m3 m5 h1 h2 h3 hs)
theorem nat_i (w : TWf f (cxs Δ1 Γ0 (tAll tTop C)).length (Δ.map (fun a => a.1)) t) (he : TE (cxs Δ1 Γ0 (tAll tTop C)) Δ) (hΔ : Δ ≠ []) (m3 : 6 ≤ mch t) (m5 : mch t < 8) (ch : CHo f t []) (hz : (tch C, cch Γ0, cch Δ1) ∈ (if o then ti1 else ti0)) (ho : (∀ b ∈ Γ0, nsch b = true ∨ (o = true ∧ tch b ≤ tch C + 5)) ∧ ∀ b ∈ Δ1, nsch b = true ∨ (o = true ∧ tch b ≤ tch C + 5)) (hb : cch (cxs Δ1 Γ0 (tAll tTop C)) + dch Δ + 2 * mch t ≤ 58) (h20 : 20 ≤ cch (cxs Δ1 Γ0 (tAll tTop C))) (h49 : cch (cxs Δ1 Γ0 (tAll tTop C)) ≤ 47) : NtV (cxs Δ1 Γ0 (tAll tTop C)) Δ f t 887 597 := by
  obtain ⟨oc0, oA⟩ := okc_low Δ1 he.1
  have oC := (ok_all.mp oA).2
  have ec : cch (cxs Δ1 Γ0 (tAll tTop C)) = 9 + tch C + cch Γ0 + cch Δ1 := by
    rw [cch_cx, tch_all, tch_top]
    omega
  exact zone_l (un := true) (ee := false) (L1 := yi1) (Lq := yiq) w he (Or.inr ⟨rfl, hΔ⟩) (Or.inl rfl) ch ho hb h20 h49 (form_R oC (by omega)) (form_G oC (by omega)) yi1_k yiq_k yi1_w yiq_w (gr_R he.1 (by omega)) (gr_G he.1 (by omega)) (yi1_z hz) (yiq_z hz) (fun c h1 h2 h3 s hs => yi1_all m3 m5 h1 h2 h3 hs) (fun c h1 h2 h3 s hs => yiq_all m3 m5 h1 h2 h3 hs)
end PmY9
