section
-- from 99y05q
theorem neq_a0 : lnv neq xe0 xe1 xrq fgq fxq 0 1 1 false 0 10 = true := by sorry
theorem neq_a10 : lnv neq xe0 xe1 xrq fgq fxq 0 1 1 false 10 16 = true := by sorry
theorem neq_a16 : lnv neq xe0 xe1 xrq fgq fxq 0 1 1 false 16 39 = true := by sorry
theorem neq_b0 : lnv neq xe0 xe1 xrq fgq fxq 0 1 1 true 0 10 = true := by sorry
theorem neq_b10 : lnv neq xe0 xe1 xrq fgq fxq 0 1 1 true 10 16 = true := by sorry
theorem neq_b16 : lnv neq xe0 xe1 xrq fgq fxq 0 1 1 true 16 39 = true := by sorry
theorem neq_z {o : Bool} (k q1 q2 : Nat) (hz : znv xe0 xe1 o k q1 q2 = true) (k1 : 1 ≤ k) (k39 : k < 39) (z1 : q5 q1 = true) (z2 : q5 q2 = true) (hc : 9 + k + q1 + q2 ≤ 47) (h20 : 20 ≤ 9 + k + q1 + q2) : lnz neq xrq fgq fxq 0 1 1 k q1 q2 (zow o k q1 q2) = true := by sorry
end
section
-- from 99y05r
theorem ne1_a0 : lnv ne1 xe0 xe1 xr1 fg1 fx1 1 3 2 false 0 10 = true := by sorry
theorem ne1_a10 : lnv ne1 xe0 xe1 xr1 fg1 fx1 1 3 2 false 10 16 = true := by sorry
theorem ne1_a16 : lnv ne1 xe0 xe1 xr1 fg1 fx1 1 3 2 false 16 39 = true := by sorry
theorem ne1_b0 : lnv ne1 xe0 xe1 xr1 fg1 fx1 1 3 2 true 0 10 = true := by sorry
theorem ne1_b10 : lnv ne1 xe0 xe1 xr1 fg1 fx1 1 3 2 true 10 16 = true := by sorry
theorem ne1_b16 : lnv ne1 xe0 xe1 xr1 fg1 fx1 1 3 2 true 16 39 = true := by sorry
theorem ne1_z {o : Bool} (k q1 q2 : Nat) (hz : znv xe0 xe1 o k q1 q2 = true) (k1 : 1 ≤ k) (k39 : k < 39) (z1 : q5 q1 = true) (z2 : q5 q2 = true) (hc : 9 + k + q1 + q2 ≤ 47) (h20 : 20 ≤ 9 + k + q1 + q2) : lnz ne1 xr1 fg1 fx1 1 3 2 k q1 q2 (zow o k q1 q2) = true := by sorry
end
section
-- from 99y05s0
theorem ne1_d20_3 : lne true true ne1 fr1 fg1 1 2 3 2 2 2 2 2 887 20 21 3 16 = true := by sorry
theorem ne1_d21_3 : lne true true ne1 fr1 fg1 1 2 3 2 2 2 2 2 887 21 22 3 16 = true := by sorry
theorem ne1_d22_3 : lne true true ne1 fr1 fg1 1 2 3 2 2 2 2 2 887 22 23 3 16 = true := by sorry
theorem ne1_d23_3 : lne true true ne1 fr1 fg1 1 2 3 2 2 2 2 2 887 23 24 3 16 = true := by sorry
theorem ne1_d24_3 : lne true true ne1 fr1 fg1 1 2 3 2 2 2 2 2 887 24 25 3 16 = true := by sorry
end
section
-- from 99y05s1
theorem ne1_d25_3 : lne true true ne1 fr1 fg1 1 2 3 2 2 2 2 2 887 25 26 3 16 = true := by sorry
theorem ne1_d26_3 : lne true true ne1 fr1 fg1 1 2 3 2 2 2 2 2 887 26 27 3 16 = true := by sorry
theorem ne1_d27_3 : lne true true ne1 fr1 fg1 1 2 3 2 2 2 2 2 887 27 28 3 16 = true := by sorry
theorem ne1_d28_3 : lne true true ne1 fr1 fg1 1 2 3 2 2 2 2 2 887 28 29 3 16 = true := by sorry
theorem ne1_d29_3 : lne true true ne1 fr1 fg1 1 2 3 2 2 2 2 2 887 29 30 3 16 = true := by sorry
end
section
-- from 99y05s2
theorem ne1_d30_3 : lne true true ne1 fr1 fg1 1 2 3 2 2 2 2 2 887 30 36 3 16 = true := by sorry
theorem ne1_d36_3 : lne true true ne1 fr1 fg1 1 2 3 2 2 2 2 2 887 36 48 3 16 = true := by sorry
end
section
-- from 99y05s3
theorem ne1_d20_16 : lne true true ne1 fr1 fg1 1 2 3 2 2 2 2 2 887 20 21 16 17 = true := by sorry
theorem ne1_d20_17 : lne true true ne1 fr1 fg1 1 2 3 2 2 2 2 2 887 20 21 17 18 = true := by sorry
theorem ne1_d20_18 : lne true true ne1 fr1 fg1 1 2 3 2 2 2 2 2 887 20 21 18 19 = true := by sorry
theorem ne1_d20_19 : lne true true ne1 fr1 fg1 1 2 3 2 2 2 2 2 887 20 21 19 20 = true := by sorry
theorem ne1_d21_16 : lne true true ne1 fr1 fg1 1 2 3 2 2 2 2 2 887 21 22 16 17 = true := by sorry
theorem ne1_d21_17 : lne true true ne1 fr1 fg1 1 2 3 2 2 2 2 2 887 21 22 17 18 = true := by sorry
theorem ne1_d21_18 : lne true true ne1 fr1 fg1 1 2 3 2 2 2 2 2 887 21 22 18 19 = true := by sorry
theorem ne1_d22_16 : lne true true ne1 fr1 fg1 1 2 3 2 2 2 2 2 887 22 23 16 17 = true := by sorry
theorem ne1_d22_17 : lne true true ne1 fr1 fg1 1 2 3 2 2 2 2 2 887 22 23 17 18 = true := by sorry
theorem ne1_d22_18 : lne true true ne1 fr1 fg1 1 2 3 2 2 2 2 2 887 22 23 18 19 = true := by sorry
theorem ne1_d23_16 : lne true true ne1 fr1 fg1 1 2 3 2 2 2 2 2 887 23 24 16 17 = true := by sorry
theorem ne1_d23_17 : lne true true ne1 fr1 fg1 1 2 3 2 2 2 2 2 887 23 24 17 18 = true := by sorry
theorem ne1_d24_16 : lne true true ne1 fr1 fg1 1 2 3 2 2 2 2 2 887 24 25 16 17 = true := by sorry
theorem ne1_d24_17 : lne true true ne1 fr1 fg1 1 2 3 2 2 2 2 2 887 24 25 17 18 = true := by sorry
theorem ne1_d25_16 : lne true true ne1 fr1 fg1 1 2 3 2 2 2 2 2 887 25 26 16 17 = true := by sorry
theorem ne1_d26_16 : lne true true ne1 fr1 fg1 1 2 3 2 2 2 2 2 887 26 27 16 17 = true := by sorry
theorem ne1_all {c m : Nat} (m3 : 3 ≤ m) (h20 : 20 ≤ c) (h47 : c ≤ 47) (hc : c + 2 * m ≤ 58) {s : T6} (hs : s ∈ lng ne1 c) : (true = false → 5 ≤ 58 - 2 * m - c → dpD true fr1 fg1 0 1 2 3 2 2 2 2 s.2.2.1 s.2.2.2.1 2 s.2.2.2.2.1 s.2.2.2.2.2 s.1 (58 - 2 * m - c) m ≤ 887) ∧ (true = true → dpD true fr1 fg1 5 1 2 3 2 2 2 2 s.2.2.1 s.2.2.2.1 2 s.2.2.2.2.1 s.2.2.2.2.2 s.1 0 m ≤ 887) := by sorry
end
section
-- from 99y05t0
theorem neq_d20_3 : lne true true neq frq fgq 0 1 1 1 3 2 1 1 597 20 21 3 16 = true := by sorry
theorem neq_d21_3 : lne true true neq frq fgq 0 1 1 1 3 2 1 1 597 21 22 3 16 = true := by sorry
theorem neq_d22_3 : lne true true neq frq fgq 0 1 1 1 3 2 1 1 597 22 23 3 16 = true := by sorry
theorem neq_d23_3 : lne true true neq frq fgq 0 1 1 1 3 2 1 1 597 23 24 3 16 = true := by sorry
theorem neq_d24_3 : lne true true neq frq fgq 0 1 1 1 3 2 1 1 597 24 25 3 16 = true := by sorry
end
section
-- from 99y05t1
theorem neq_d25_3 : lne true true neq frq fgq 0 1 1 1 3 2 1 1 597 25 26 3 16 = true := by sorry
theorem neq_d26_3 : lne true true neq frq fgq 0 1 1 1 3 2 1 1 597 26 27 3 16 = true := by sorry
theorem neq_d27_3 : lne true true neq frq fgq 0 1 1 1 3 2 1 1 597 27 28 3 16 = true := by sorry
theorem neq_d28_3 : lne true true neq frq fgq 0 1 1 1 3 2 1 1 597 28 29 3 16 = true := by sorry
theorem neq_d29_3 : lne true true neq frq fgq 0 1 1 1 3 2 1 1 597 29 30 3 16 = true := by sorry
end
section
-- from 99y05t2
theorem neq_d30_3 : lne true true neq frq fgq 0 1 1 1 3 2 1 1 597 30 36 3 16 = true := by sorry
theorem neq_d36_3 : lne true true neq frq fgq 0 1 1 1 3 2 1 1 597 36 48 3 16 = true := by sorry
end
section
-- from 99y05t3
theorem neq_d20_16 : lne true true neq frq fgq 0 1 1 1 3 2 1 1 597 20 21 16 17 = true := by sorry
theorem neq_d20_17 : lne true true neq frq fgq 0 1 1 1 3 2 1 1 597 20 21 17 18 = true := by sorry
theorem neq_d20_18 : lne true true neq frq fgq 0 1 1 1 3 2 1 1 597 20 21 18 19 = true := by sorry
theorem neq_d20_19 : lne true true neq frq fgq 0 1 1 1 3 2 1 1 597 20 21 19 20 = true := by sorry
theorem neq_d21_16 : lne true true neq frq fgq 0 1 1 1 3 2 1 1 597 21 22 16 17 = true := by sorry
theorem neq_d21_17 : lne true true neq frq fgq 0 1 1 1 3 2 1 1 597 21 22 17 18 = true := by sorry
theorem neq_d21_18 : lne true true neq frq fgq 0 1 1 1 3 2 1 1 597 21 22 18 19 = true := by sorry
theorem neq_d22_16 : lne true true neq frq fgq 0 1 1 1 3 2 1 1 597 22 23 16 17 = true := by sorry
theorem neq_d22_17 : lne true true neq frq fgq 0 1 1 1 3 2 1 1 597 22 23 17 18 = true := by sorry
theorem neq_d22_18 : lne true true neq frq fgq 0 1 1 1 3 2 1 1 597 22 23 18 19 = true := by sorry
theorem neq_d23_16 : lne true true neq frq fgq 0 1 1 1 3 2 1 1 597 23 24 16 17 = true := by sorry
theorem neq_d23_17 : lne true true neq frq fgq 0 1 1 1 3 2 1 1 597 23 24 17 18 = true := by sorry
theorem neq_d24_16 : lne true true neq frq fgq 0 1 1 1 3 2 1 1 597 24 25 16 17 = true := by sorry
theorem neq_d24_17 : lne true true neq frq fgq 0 1 1 1 3 2 1 1 597 24 25 17 18 = true := by sorry
theorem neq_d25_16 : lne true true neq frq fgq 0 1 1 1 3 2 1 1 597 25 26 16 17 = true := by sorry
theorem neq_d26_16 : lne true true neq frq fgq 0 1 1 1 3 2 1 1 597 26 27 16 17 = true := by sorry
theorem neq_all {c m : Nat} (m3 : 3 ≤ m) (h20 : 20 ≤ c) (h47 : c ≤ 47) (hc : c + 2 * m ≤ 58) {s : T6} (hs : s ∈ lng neq c) : (true = false → 5 ≤ 58 - 2 * m - c → dpD true frq fgq 0 0 1 1 1 3 2 1 s.2.2.1 s.2.2.2.1 1 s.2.2.2.2.1 s.2.2.2.2.2 s.1 (58 - 2 * m - c) m ≤ 597) ∧ (true = true → dpD true frq fgq 5 0 1 1 1 3 2 1 s.2.2.1 s.2.2.2.1 1 s.2.2.2.2.1 s.2.2.2.2.2 s.1 0 m ≤ 597) := by sorry
end
section
-- from 99y06
def yw1 : FrT := [[], [], [], [], [], [], [], [], [], [(1, 5), (0, 7)], [(2, 5), (1, 7)], [(2, 5), (1, 7), (0, 9)], [(2, 5), (1, 7), (0, 9)], [(2, 7), (1, 9), (0, 11)], [(3, 7), (2, 9), (1, 11), (0, 12)], [(3, 7), (2, 10), (1, 12), (0, 13)], [(3, 7), (2, 10), (1, 12), (0, 14)], [(3, 9), (2, 11), (1, 13), (0, 15)], [(4, 9), (3, 11), (2, 15), (1, 16), (0, 19)], [(4, 9), (3, 15), (2, 16), (1, 19)], [(4, 9), (3, 15), (2, 17), (1, 19), (0, 21)], [(4, 11), (3, 15), (2, 19), (0, 23)], [(5, 11), (4, 19), (3, 21), (2, 23), (0, 27)], [(5, 19), (4, 21), (3, 23), (2, 25), (1, 27), (0, 29)], [(5, 19), (4, 21), (3, 25), (1, 29)], [(5, 19), (4, 23), (3, 27), (1, 29), (0, 33)], [(6, 27), (3, 33), (0, 39)], [(7, 27), (4, 35), (3, 36), (2, 37), (1, 39), (0, 43)], [(7, 27), (6, 29), (5, 35), (4, 36), (3, 37), (1, 43)], [(7, 27), (6, 33), (5, 35), (4, 37), (3, 39), (1, 43), (0, 45)], [(9, 33), (8, 35), (6, 39), (4, 43), (3, 45), (0, 51)], [(10, 33), (9, 35), (8, 43), (6, 51), (3, 54), (0, 63)], [(10, 33), (9, 43), (7, 51), (4, 55), (1, 63)], [(10, 33), (9, 43), (8, 45), (7, 51), (6, 53), (5, 55), (3, 56), (1, 63), (0, 65)], [(12, 43), (9, 45), (8, 51), (6, 63), (0, 75)], [(13, 43), (12, 63), (9, 69), (6, 75), (0, 87)], [(13, 63), (10, 69), (8, 75), (6, 81), (1, 87), (0, 93)], [(13, 63), (12, 65), (10, 69), (9, 75), (7, 81), (1, 93)], [(16, 51), (15, 53), (13, 63), (12, 75), (9, 87), (1, 93), (0, 105)], [(18, 87), (12, 91), (9, 105), (1, 107), (0, 123)], [(19, 87), (16, 91), (12, 111), (9, 114), (6, 117), (1, 123), (0, 135)]]
theorem yw1_f : xlf xfa1 xr1 yw1 2 = true := by sorry
theorem yw1_r : xlr xfa1 xga1 xr1 yw1 2 2 2 = true := by sorry
def ywq : FrT := [[], [], [], [], [], [], [], [], [], [(1, 4), (0, 5)], [(2, 2), (1, 4), (0, 5)], [(2, 2), (1, 4), (0, 5)], [(2, 3), (1, 7), (0, 8)], [(2, 5), (1, 7), (0, 8)], [(3, 3), (2, 5), (1, 7), (0, 8)], [(3, 3), (2, 6), (1, 10), (0, 11)], [(3, 4), (2, 8), (1, 10), (0, 11)], [(3, 6), (2, 8), (1, 10), (0, 11)], [(4, 4), (3, 6), (2, 9), (1, 13), (0, 14)], [(4, 4), (3, 7), (2, 11), (1, 13), (0, 14)], [(4, 5), (3, 9), (2, 11), (1, 13), (0, 14)], [(4, 7), (3, 9), (2, 13), (1, 16), (0, 17)], [(5, 5), (4, 9), (3, 11), (2, 14), (1, 16), (0, 17)], [(5, 7), (4, 9), (3, 12), (2, 14), (1, 16), (0, 17)], [(5, 7), (4, 11), (3, 12), (2, 19), (0, 21)], [(5, 9), (4, 15), (3, 18), (2, 19), (0, 21)], [(6, 12), (5, 13), (4, 16), (3, 18), (2, 20), (0, 22)], [(7, 10), (6, 12), (5, 13), (4, 17), (3, 19), (2, 25), (0, 27)], [(7, 10), (6, 15), (4, 21), (3, 27), (0, 30)], [(7, 13), (6, 21), (4, 25), (3, 27), (1, 28), (0, 30)], [(9, 15), (7, 19), (6, 21), (4, 25), (3, 28), (2, 31), (0, 33)], [(10, 13), (9, 15), (8, 17), (7, 19), (6, 24), (4, 27), (3, 36), (0, 39)], [(10, 13), (9, 18), (8, 19), (7, 22), (6, 30), (4, 35), (3, 36), (1, 37), (0, 39)], [(10, 16), (9, 24), (8, 27), (7, 28), (6, 30), (5, 33), (4, 37), (0, 41)], [(12, 19), (10, 22), (9, 25), (8, 29), (6, 36), (4, 37), (3, 45), (0, 48)], [(13, 17), (12, 24), (9, 27), (8, 31), (7, 34), (6, 39), (4, 47), (0, 51)], [(13, 22), (12, 24), (10, 25), (9, 33), (8, 39), (5, 45), (4, 49), (0, 53)], [(13, 22), (12, 31), (10, 33), (9, 37), (8, 41), (6, 54), (0, 60)], [(16, 23), (13, 29), (12, 42), (9, 51), (7, 52), (6, 54), (4, 59), (0, 63)], [(18, 33), (13, 40), (12, 42), (10, 49), (9, 51), (7, 52), (6, 57), (5, 58), (4, 61), (0, 65)], [(19, 31), (18, 33), (13, 40), (12, 48), (10, 49), (9, 54), (7, 55), (6, 72), (0, 78)]]
theorem ywq_f : xlf xfaq xrq ywq 1 = true := by sorry
theorem ywq_r : xlr xfaq xgaq xrq ywq 3 2 1 = true := by sorry
section PmY7
variable {C : Ty} {d : Nat}
theorem yw_R (o : ok d C = true) (hk : tch C ≤ 40) (hp : phf (fun _ => true) C = true) (k : kdt C = 1 ∨ kdt C = 4) : ∃ v ∈ frg yw1 (tch C), xt d C ≤ v.1 ∧ xa 0 (fun _ => 1 + 1) 3 1 d C ≤ v.2 := by sorry
theorem yw_G (o : ok d C = true) (hk : tch C ≤ 40) (hp : phf (fun _ => true) C = true) (k : kdt C = 1 ∨ kdt C = 4) : ∃ v ∈ frg ywq (tch C), xt d C ≤ v.1 ∧ xa 1 ngc 1 0 d C ≤ v.2 := by sorry
theorem yv_R (o : ok d C = true) (hk : tch C ≤ 40) (hp : phf (fun _ => true) C = true) : ∃ v ∈ frg xfa1 (tch C), xt d C ≤ v.1 ∧ xa 0 (fun _ => 1 + 1) 3 1 d C ≤ v.2 := by sorry
theorem yv_G (o : ok d C = true) (hk : tch C ≤ 40) (hp : phf (fun _ => true) C = true) : ∃ v ∈ frg xfaq (tch C), xt d C ≤ v.1 ∧ xa 1 ngc 1 0 d C ≤ v.2 := by sorry
end PmY7
def lny (L : LnT) (XR W : FrT) (X : List Nat) (hv s2 wB : Nat) (o : Bool) (T : List (Nat × Nat × Nat)) : Bool := T.all (fun a => lnz L XR W X hv s2 wB a.1 a.2.1 a.2.2 (zow o a.1 a.2.1 a.2.2))
theorem lny_get {L : LnT} {XR W : FrT} {X : List Nat} {hv s2 wB k q1 q2 : Nat} {o : Bool} {T : List (Nat × Nat × Nat)} (h : lny L XR W X hv s2 wB o T = true) (hT : (k, q1, q2) ∈ T) : lnz L XR W X hv s2 wB k q1 q2 (zow o k q1 q2) = true := by sorry
theorem grf_R {Γ0 Δ1 : List Ty} {β : Ty} (hc : okc (cxs Δ1 Γ0 β)) (q38 : cch Δ1 ≤ 38) (hfl : ∃ b ∈ Δ1, noh 0 b = false) (b : Bool) (y : Nat) (hy : 1 ≤ y) (h0 : ∀ j, j < (β :: Γ0).length → vw (onz 0 (fun _ => 1 + 1) (2 + 1) (vlr b 1) (β :: Γ0)) j ≤ y) : ∃ e ∈ frg fh1 (cch Δ1), 1 ≤ e.1 ∧ ∀ j, j < (cxs Δ1 Γ0 β).length → vw (onz 0 (fun _ => 1 + 1) (2 + 1) (vlr b 1) (cxs Δ1 Γ0 β)) j ≤ e.2 + e.1 * y := by sorry
theorem grf_G {Γ0 Δ1 : List Ty} {β : Ty} (hc : okc (cxs Δ1 Γ0 β)) (q38 : cch Δ1 ≤ 38) (hfl : ∃ b ∈ Δ1, noh 0 b = false) (y : Nat) (hy : 1 ≤ y) (h0 : ∀ j, j < (β :: Γ0).length → vw (onz 1 ngc 1 (fun x => x) (β :: Γ0)) j ≤ y) : ∃ e ∈ frg fhq (cch Δ1), 1 ≤ e.1 ∧ ∀ j, j < (cxs Δ1 Γ0 β).length → vw (onz 1 ngc 1 (fun x => x) (cxs Δ1 Γ0 β)) j ≤ e.2 + e.1 * y := by sorry
end
section
-- from 99y07b
def yb1 : LnT := [[], [], [], [], [], [], [], [], [], [], [], [], [], [], [], [], [], [], [], [], [], [], [], [], [], [], [], [(32, 0, 23, 6, 0, 18)], [(37, 0, 29, 6, 0, 19)], [(37, 0, 29, 6, 0, 20)], [(38, 0, 29, 6, 0, 21)], [], [], [(35, 0, 23, 6, 1, 18)], [], [(63, 0, 46, 3, 4, 9)], [], [(77, 0, 49, 5, 2, 23), (67, 0, 37, 6, 2, 23), (50, 0, 31, 8, 1, 23), (45, 0, 22, 9, 1, 23)], [(56, 0, 43, 7, 1, 23), (52, 0, 29, 8, 1, 23), (47, 0, 22, 9, 1, 23)], [(89, 0, 45, 4, 4, 24), (56, 0, 38, 7, 1, 24), (52, 0, 29, 8, 1, 24), (47, 0, 22, 9, 1, 24)], [(113, 0, 82, 6, 4, 21), (60, 0, 55, 12, 1, 26)], [(122, 0, 29, 6, 4, 21), (90, 0, 86, 2, 4, 13), (69, 0, 65, 10, 1, 26), (60, 0, 32, 12, 1, 26)], [], [], [], [], [], []]
def ybq : LnT := [[], [], [], [], [], [], [], [], [], [], [], [], [], [], [], [], [], [], [], [], [], [], [], [], [], [], [], [(18, 0, 17, 6, 0, 18)], [(23, 0, 22, 6, 0, 19)], [(25, 0, 24, 6, 0, 20)], [(25, 0, 24, 6, 0, 21)], [], [], [(19, 0, 17, 6, 1, 18)], [], [(42, 0, 41, 3, 4, 9)], [], [(47, 0, 33, 5, 2, 23), (27, 0, 18, 9, 2, 23)], [(35, 0, 33, 7, 1, 23), (20, 0, 10, 9, 1, 23)], [(54, 0, 33, 5, 4, 24), (32, 0, 24, 8, 1, 24), (23, 0, 12, 9, 1, 24)], [(60, 0, 59, 6, 4, 21), (44, 0, 42, 11, 1, 26), (26, 0, 12, 12, 1, 26)], [(75, 0, 74, 5, 4, 21), (46, 0, 42, 11, 3, 26), (26, 0, 12, 12, 1, 26)], [], [], [], [], [], []]
def tb0 : List (Nat × Nat × Nat) := [(5, 0, 26), (5, 0, 27), (6, 0, 26), (8, 0, 18), (8, 0, 22), (8, 0, 23), (8, 0, 24), (9, 0, 17), (9, 0, 22), (9, 0, 23), (9, 17, 0), (9, 22, 0), (9, 23, 0), (10, 0, 21), (10, 0, 22), (10, 22, 0), (11, 0, 21), (12, 20, 0), (13, 0, 18), (13, 0, 19), (13, 19, 0), (14, 0, 17), (14, 0, 18), (15, 0, 17), (18, 0, 0), (18, 0, 6), (18, 0, 13), (18, 0, 14), (19, 0, 0), (19, 0, 9), (19, 0, 13), (20, 0, 0), (21, 0, 0), (21, 0, 10), (21, 0, 11), (22, 0, 7), (22, 0, 8), (22, 6, 0), (23, 0, 5), (23, 0, 6), (23, 0, 7), (23, 0, 8), (23, 5, 0), (24, 0, 6), (24, 0, 7), (24, 0, 8), (25, 0, 6), (25, 0, 7), (25, 6, 0), (25, 7, 0), (26, 0, 5), (26, 0, 6), (26, 5, 0), (26, 6, 0)]
def tb1 : List (Nat × Nat × Nat) := [(5, 0, 26), (5, 0, 27), (6, 0, 26), (8, 0, 18), (8, 0, 22), (8, 0, 23), (8, 0, 24), (9, 0, 17), (9, 0, 22), (9, 0, 23), (9, 17, 0), (9, 22, 0), (9, 23, 0), (10, 0, 21), (10, 0, 22), (10, 22, 0), (11, 0, 21), (12, 20, 0), (13, 0, 18), (13, 0, 19), (13, 19, 0), (14, 0, 17), (14, 0, 18), (15, 0, 17), (18, 0, 0), (18, 0, 6), (18, 0, 13), (18, 0, 14), (19, 0, 0), (19, 0, 9), (19, 0, 13), (20, 0, 0), (21, 0, 0), (21, 0, 10), (21, 0, 11), (22, 0, 7), (22, 0, 8), (22, 6, 0), (23, 0, 5), (23, 0, 6), (23, 0, 7), (23, 0, 8), (23, 5, 0), (24, 0, 6), (24, 0, 7), (24, 0, 8), (25, 0, 6), (25, 0, 7), (25, 6, 0), (25, 7, 0), (26, 0, 5), (26, 0, 6), (26, 5, 0), (26, 6, 0)]
theorem yb1_k : lnkb yb1 = true := by sorry
theorem yb1_w : lnw yb1 2 = true := by sorry
theorem ybq_k : lnkb ybq = true := by sorry
theorem ybq_w : lnw ybq 1 = true := by sorry
theorem yb1_z0 : lny yb1 xr1 fg1 fx1 1 3 2 false tb0 = true := by sorry
theorem yb1_z1 : lny yb1 xr1 fg1 fx1 1 3 2 true tb1 = true := by sorry
theorem yb1_z {o : Bool} {k q1 q2 : Nat} (h : (k, q1, q2) ∈ (if o then tb1 else tb0)) : lnz yb1 xr1 fg1 fx1 1 3 2 k q1 q2 (zow o k q1 q2) = true := by sorry
theorem ybq_z0 : lny ybq xrq fgq fxq 0 1 1 false tb0 = true := by sorry
theorem ybq_z1 : lny ybq xrq fgq fxq 0 1 1 true tb1 = true := by sorry
theorem ybq_z {o : Bool} {k q1 q2 : Nat} (h : (k, q1, q2) ∈ (if o then tb1 else tb0)) : lnz ybq xrq fgq fxq 0 1 1 k q1 q2 (zow o k q1 q2) = true := by sorry
theorem yb1_d20 : lne false false yb1 fr1 fg1 1 2 3 2 2 2 2 2 887 20 33 6 20 = true := by sorry
theorem yb1_d33 : lne false false yb1 fr1 fg1 1 2 3 2 2 2 2 2 887 33 37 6 20 = true := by sorry
theorem yb1_d37 : lne false false yb1 fr1 fg1 1 2 3 2 2 2 2 2 887 37 42 6 20 = true := by sorry
theorem yb1_d42 : lne false false yb1 fr1 fg1 1 2 3 2 2 2 2 2 887 42 48 6 20 = true := by sorry
theorem yb1_all {c m : Nat} (m6 : 6 ≤ m) (h20 : 20 ≤ c) (h47 : c ≤ 47) (hc : c + 2 * m ≤ 58) {s : T6} (hs : s ∈ lng yb1 c) : (false = false → 5 ≤ 58 - 2 * m - c → dpD false fr1 fg1 0 1 2 3 2 2 2 2 s.2.2.1 s.2.2.2.1 2 s.2.2.2.2.1 s.2.2.2.2.2 s.1 (58 - 2 * m - c) m ≤ 887) ∧ (false = true → dpD false fr1 fg1 5 1 2 3 2 2 2 2 s.2.2.1 s.2.2.2.1 2 s.2.2.2.2.1 s.2.2.2.2.2 s.1 0 m ≤ 887) := by sorry
theorem ybq_d20 : lne false false ybq frq fgq 0 1 1 1 3 2 1 1 597 20 33 6 20 = true := by sorry
theorem ybq_d33 : lne false false ybq frq fgq 0 1 1 1 3 2 1 1 597 33 37 6 20 = true := by sorry
theorem ybq_d37 : lne false false ybq frq fgq 0 1 1 1 3 2 1 1 597 37 42 6 20 = true := by sorry
theorem ybq_d42 : lne false false ybq frq fgq 0 1 1 1 3 2 1 1 597 42 48 6 20 = true := by sorry
theorem ybq_all {c m : Nat} (m6 : 6 ≤ m) (h20 : 20 ≤ c) (h47 : c ≤ 47) (hc : c + 2 * m ≤ 58) {s : T6} (hs : s ∈ lng ybq c) : (false = false → 5 ≤ 58 - 2 * m - c → dpD false frq fgq 0 0 1 1 1 3 2 1 s.2.2.1 s.2.2.2.1 1 s.2.2.2.2.1 s.2.2.2.2.2 s.1 (58 - 2 * m - c) m ≤ 597) ∧ (false = true → dpD false frq fgq 5 0 1 1 1 3 2 1 s.2.2.1 s.2.2.2.1 1 s.2.2.2.2.1 s.2.2.2.2.2 s.1 0 m ≤ 597) := by sorry
end
section
-- from 99y08a
def ywa1 : LnT := [[], [], [], [], [], [], [], [], [], [], [], [], [], [], [], [], [], [], [], [], [], [], [], [], [], [], [], [], [], [], [], [], [], [], [], [], [(47, 0, 43, 7, 0, 27)], [(49, 0, 44, 7, 0, 28)], [(49, 0, 45, 7, 0, 29)], [], [], [(69, 0, 43, 7, 2, 27)], [(73, 0, 51, 5, 2, 24), (52, 0, 48, 7, 1, 28)], [(77, 0, 59, 5, 2, 25), (55, 0, 51, 7, 1, 29)], [(107, 0, 55, 7, 6, 30), (56, 0, 35, 9, 1, 30)], [(119, 0, 53, 7, 6, 31), (68, 0, 63, 10, 6, 31)], [(125, 0, 85, 6, 6, 32), (93, 0, 51, 8, 2, 32), (66, 0, 43, 10, 1, 32)], [(140, 0, 45, 6, 5, 29), (125, 0, 109, 6, 6, 33), (93, 0, 51, 8, 2, 33), (68, 0, 43, 10, 1, 33)]]
def ywaq : LnT := [[], [], [], [], [], [], [], [], [], [], [], [], [], [], [], [], [], [], [], [], [], [], [], [], [], [], [], [], [], [], [], [], [], [], [], [], [(28, 0, 27, 7, 0, 27)], [(31, 0, 30, 7, 0, 28)], [(31, 0, 30, 7, 0, 29)], [], [], [(37, 0, 27, 7, 2, 27)], [(45, 0, 40, 7, 2, 28)], [(45, 0, 42, 7, 2, 29)], [(60, 0, 38, 9, 6, 30)], [(60, 0, 53, 9, 6, 31), (25, 0, 13, 10, 1, 31)], [(78, 0, 75, 6, 6, 32), (37, 0, 22, 10, 2, 32)], [(90, 0, 59, 5, 5, 33), (85, 0, 84, 6, 6, 33), (43, 0, 28, 10, 2, 33)]]
def twa0 : List (Nat × Nat × Nat) := [(12, 0, 26), (13, 0, 22), (13, 0, 23), (13, 0, 24), (13, 0, 25), (13, 23, 0), (13, 24, 0), (13, 25, 0), (14, 0, 22), (14, 0, 23), (14, 0, 24), (14, 23, 0), (14, 24, 0), (15, 0, 22), (15, 0, 23), (15, 23, 0), (16, 0, 22), (21, 0, 17), (22, 0, 13), (22, 0, 14), (22, 0, 15), (22, 0, 16), (22, 11, 0), (22, 12, 0), (23, 0, 9), (23, 0, 10), (23, 0, 11), (23, 0, 13), (23, 0, 14), (23, 0, 15), (23, 11, 0), (24, 0, 9), (24, 0, 10), (24, 0, 13), (24, 0, 14), (25, 0, 9), (25, 0, 10), (25, 0, 11), (25, 0, 12), (25, 0, 13), (26, 0, 9), (26, 0, 10), (26, 0, 11), (26, 0, 12), (26, 8, 0), (27, 0, 0), (27, 0, 5), (27, 0, 6), (27, 0, 7), (27, 0, 8), (27, 0, 9), (27, 0, 10), (27, 0, 11), (27, 5, 0), (27, 5, 5), (27, 5, 6), (27, 6, 0), (27, 6, 5), (27, 7, 0), (27, 8, 0), (27, 9, 0), (27, 10, 0), (27, 11, 0), (28, 0, 0), (28, 0, 5), (28, 0, 6), (28, 0, 7), (28, 0, 8), (28, 0, 9), (28, 0, 10), (28, 5, 0), (28, 5, 5), (28, 6, 0), (28, 7, 0), (28, 8, 0), (28, 9, 0), (28, 10, 0), (29, 0, 0), (29, 0, 5), (29, 0, 6), (29, 0, 7), (29, 0, 8), (29, 0, 9), (29, 5, 0), (29, 6, 0), (29, 7, 0), (29, 8, 0), (29, 9, 0), (30, 0, 5), (30, 0, 6), (30, 0, 7), (30, 0, 8), (30, 5, 0), (30, 6, 0), (30, 7, 0), (30, 8, 0), (31, 0, 5), (31, 0, 6), (31, 0, 7), (31, 5, 0), (31, 6, 0), (31, 7, 0), (32, 0, 5), (32, 0, 6), (32, 5, 0), (32, 6, 0), (33, 0, 5), (33, 5, 0)]
def twa1 : List (Nat × Nat × Nat) := [(12, 0, 26), (13, 0, 22), (13, 0, 23), (13, 0, 24), (13, 0, 25), (13, 23, 0), (13, 24, 0), (13, 25, 0), (14, 0, 22), (14, 0, 23), (14, 0, 24), (14, 23, 0), (14, 24, 0), (15, 0, 22), (15, 0, 23), (15, 23, 0), (16, 0, 22), (21, 0, 17), (22, 0, 13), (22, 0, 14), (22, 0, 15), (22, 0, 16), (22, 11, 0), (22, 12, 0), (23, 0, 9), (23, 0, 10), (23, 0, 11), (23, 0, 13), (23, 0, 14), (23, 0, 15), (23, 11, 0), (24, 0, 9), (24, 0, 10), (24, 0, 13), (24, 0, 14), (25, 0, 9), (25, 0, 10), (25, 0, 11), (25, 0, 12), (25, 0, 13), (26, 0, 9), (26, 0, 10), (26, 0, 11), (26, 0, 12), (26, 8, 0), (27, 0, 0), (27, 0, 5), (27, 0, 6), (27, 0, 7), (27, 0, 8), (27, 0, 9), (27, 0, 10), (27, 0, 11), (27, 5, 0), (27, 5, 5), (27, 5, 6), (27, 6, 0), (27, 6, 5), (27, 7, 0), (27, 8, 0), (27, 9, 0), (27, 10, 0), (27, 11, 0), (28, 0, 0), (28, 0, 5), (28, 0, 6), (28, 0, 7), (28, 0, 8), (28, 0, 9), (28, 0, 10), (28, 5, 0), (28, 5, 5), (28, 6, 0), (28, 7, 0), (28, 8, 0), (28, 9, 0), (28, 10, 0), (29, 0, 0), (29, 0, 5), (29, 0, 6), (29, 0, 7), (29, 0, 8), (29, 0, 9), (29, 5, 0), (29, 6, 0), (29, 7, 0), (29, 8, 0), (29, 9, 0), (30, 0, 5), (30, 0, 6), (30, 0, 7), (30, 0, 8), (30, 5, 0), (30, 6, 0), (30, 7, 0), (30, 8, 0), (31, 0, 5), (31, 0, 6), (31, 0, 7), (31, 5, 0), (31, 6, 0), (31, 7, 0), (32, 0, 5), (32, 0, 6), (32, 5, 0), (32, 6, 0), (33, 0, 5), (33, 5, 0)]
theorem ywa1_k : lnkb ywa1 = true := by sorry
theorem ywa1_w : lnw ywa1 2 = true := by sorry
theorem ywaq_k : lnkb ywaq = true := by sorry
theorem ywaq_w : lnw ywaq 1 = true := by sorry
theorem ywa1_z0 : lny ywa1 yw1 fg1 fx1 1 3 2 false twa0 = true := by sorry
theorem ywa1_z1 : lny ywa1 yw1 fg1 fx1 1 3 2 true twa1 = true := by sorry
theorem ywa1_z {o : Bool} {k q1 q2 : Nat} (h : (k, q1, q2) ∈ (if o then twa1 else twa0)) : lnz ywa1 yw1 fg1 fx1 1 3 2 k q1 q2 (zow o k q1 q2) = true := by sorry
theorem ywaq_z0 : lny ywaq ywq fgq fxq 0 1 1 false twa0 = true := by sorry
theorem ywaq_z1 : lny ywaq ywq fgq fxq 0 1 1 true twa1 = true := by sorry
theorem ywaq_z {o : Bool} {k q1 q2 : Nat} (h : (k, q1, q2) ∈ (if o then twa1 else twa0)) : lnz ywaq ywq fgq fxq 0 1 1 k q1 q2 (zow o k q1 q2) = true := by sorry
theorem ywa1_d20 : lne false false ywa1 fr1 fg1 1 2 3 2 2 2 2 2 887 20 33 3 6 = true := by sorry
theorem ywa1_d33 : lne false false ywa1 fr1 fg1 1 2 3 2 2 2 2 2 887 33 37 3 6 = true := by sorry
theorem ywa1_d37 : lne false false ywa1 fr1 fg1 1 2 3 2 2 2 2 2 887 37 42 3 6 = true := by sorry
theorem ywa1_d42 : lne false false ywa1 fr1 fg1 1 2 3 2 2 2 2 2 887 42 48 3 6 = true := by sorry
theorem ywa1_all {c m : Nat} (m3 : 3 ≤ m) (m5 : m < 6) (h20 : 20 ≤ c) (h47 : c ≤ 47) (hc : c + 2 * m ≤ 58) {s : T6} (hs : s ∈ lng ywa1 c) : (false = false → 5 ≤ 58 - 2 * m - c → dpD false fr1 fg1 0 1 2 3 2 2 2 2 s.2.2.1 s.2.2.2.1 2 s.2.2.2.2.1 s.2.2.2.2.2 s.1 (58 - 2 * m - c) m ≤ 887) ∧ (false = true → dpD false fr1 fg1 5 1 2 3 2 2 2 2 s.2.2.1 s.2.2.2.1 2 s.2.2.2.2.1 s.2.2.2.2.2 s.1 0 m ≤ 887) := by sorry
theorem ywaq_d20 : lne false false ywaq frq fgq 0 1 1 1 3 2 1 1 597 20 33 3 6 = true := by sorry
theorem ywaq_d33 : lne false false ywaq frq fgq 0 1 1 1 3 2 1 1 597 33 37 3 6 = true := by sorry
theorem ywaq_d37 : lne false false ywaq frq fgq 0 1 1 1 3 2 1 1 597 37 42 3 6 = true := by sorry
theorem ywaq_d42 : lne false false ywaq frq fgq 0 1 1 1 3 2 1 1 597 42 48 3 6 = true := by sorry
theorem ywaq_all {c m : Nat} (m3 : 3 ≤ m) (m5 : m < 6) (h20 : 20 ≤ c) (h47 : c ≤ 47) (hc : c + 2 * m ≤ 58) {s : T6} (hs : s ∈ lng ywaq c) : (false = false → 5 ≤ 58 - 2 * m - c → dpD false frq fgq 0 0 1 1 1 3 2 1 s.2.2.1 s.2.2.2.1 1 s.2.2.2.2.1 s.2.2.2.2.2 s.1 (58 - 2 * m - c) m ≤ 597) ∧ (false = true → dpD false frq fgq 5 0 1 1 1 3 2 1 s.2.2.1 s.2.2.2.1 1 s.2.2.2.2.1 s.2.2.2.2.2 s.1 0 m ≤ 597) := by sorry
end
section
-- from 99y08c
def ywc1 : LnT := [[], [], [], [], [], [], [], [], [], [], [], [], [], [], [], [], [], [], [], [], [], [], [], [], [], [], [], [(23, 0, 19, 4, 0, 18)], [(25, 0, 20, 4, 0, 19)], [(25, 0, 21, 4, 0, 20)], [(27, 0, 23, 4, 0, 21)], [], [(33, 0, 29, 5, 0, 23)], [(35, 0, 30, 5, 1, 24)], [(37, 0, 33, 5, 0, 25)], [(51, 0, 19, 1, 4, 9)], [], [(53, 0, 20, 4, 2, 19), (35, 0, 31, 5, 1, 23)], [(49, 0, 45, 7, 1, 29)], [(57, 0, 33, 5, 2, 25)], [(83, 0, 27, 5, 4, 22), (44, 0, 39, 6, 4, 26)], [(95, 0, 29, 4, 3, 23), (83, 0, 27, 5, 4, 23), (61, 0, 57, 6, 4, 27), (46, 0, 27, 7, 1, 27)], [], [], [], [], [], []]
def ywcq : LnT := [[], [], [], [], [], [], [], [], [], [], [], [], [], [], [], [], [], [], [], [], [], [], [], [], [], [], [], [(15, 0, 14, 4, 0, 18)], [(15, 0, 14, 4, 0, 19)], [(15, 0, 14, 4, 0, 20)], [(18, 0, 17, 4, 0, 21)], [], [(18, 0, 17, 5, 0, 23)], [(22, 0, 21, 5, 1, 24)], [(22, 0, 21, 5, 0, 25)], [(27, 0, 17, 1, 4, 9)], [], [(31, 0, 17, 5, 2, 23)], [(31, 0, 30, 7, 1, 29)], [(37, 0, 21, 5, 2, 25)], [(47, 0, 23, 5, 4, 26), (20, 0, 12, 6, 1, 26)], [(51, 0, 40, 5, 4, 23), (29, 0, 27, 7, 1, 27)], [], [], [], [], [], []]
def twc0 : List (Nat × Nat × Nat) := [(5, 0, 26), (5, 0, 27), (6, 0, 26), (8, 0, 18), (8, 0, 22), (8, 0, 23), (8, 0, 24), (9, 0, 17), (9, 0, 22), (9, 0, 23), (9, 17, 0), (9, 22, 0), (9, 23, 0), (10, 0, 21), (10, 0, 22), (10, 22, 0), (11, 0, 21), (12, 20, 0), (13, 0, 18), (13, 0, 19), (13, 19, 0), (14, 0, 17), (14, 0, 18), (15, 0, 17), (18, 0, 0), (18, 0, 6), (18, 0, 13), (18, 0, 14), (19, 0, 0), (19, 0, 9), (19, 0, 13), (20, 0, 0), (21, 0, 0), (21, 0, 9), (21, 0, 10), (21, 0, 11), (22, 0, 6), (22, 0, 7), (22, 0, 8), (22, 0, 9), (22, 0, 10), (22, 6, 0), (23, 0, 0), (23, 0, 5), (23, 0, 6), (23, 0, 7), (23, 0, 8), (23, 0, 9), (23, 5, 0), (24, 0, 0), (24, 0, 6), (24, 0, 7), (24, 0, 8), (25, 0, 0), (25, 0, 5), (25, 0, 6), (25, 0, 7), (25, 5, 0), (25, 6, 0), (25, 7, 0), (26, 0, 5), (26, 0, 6), (26, 5, 0), (26, 6, 0), (27, 0, 5), (27, 5, 0), (29, 0, 0)]
def twc1 : List (Nat × Nat × Nat) := [(5, 0, 26), (5, 0, 27), (6, 0, 26), (8, 0, 18), (8, 0, 22), (8, 0, 23), (8, 0, 24), (9, 0, 17), (9, 0, 22), (9, 0, 23), (9, 17, 0), (9, 22, 0), (9, 23, 0), (10, 0, 21), (10, 22, 0), (11, 0, 21), (12, 20, 0), (13, 0, 18), (13, 0, 19), (13, 19, 0), (14, 0, 17), (14, 0, 18), (15, 0, 17), (18, 0, 0), (18, 0, 6), (18, 0, 13), (18, 0, 14), (19, 0, 0), (19, 0, 9), (19, 0, 13), (20, 0, 0), (21, 0, 0), (21, 0, 9), (21, 0, 10), (21, 0, 11), (22, 0, 6), (22, 0, 7), (22, 0, 8), (22, 0, 9), (22, 0, 10), (22, 6, 0), (23, 0, 0), (23, 0, 5), (23, 0, 6), (23, 0, 7), (23, 0, 8), (23, 0, 9), (23, 5, 0), (24, 0, 0), (24, 0, 6), (24, 0, 7), (24, 0, 8), (25, 0, 0), (25, 0, 5), (25, 0, 6), (25, 0, 7), (25, 5, 0), (25, 6, 0), (25, 7, 0), (26, 0, 5), (26, 0, 6), (26, 5, 0), (26, 6, 0), (27, 0, 5), (27, 5, 0), (29, 0, 0)]
theorem ywc1_k : lnkb ywc1 = true := by sorry
theorem ywc1_w : lnw ywc1 2 = true := by sorry
theorem ywcq_k : lnkb ywcq = true := by sorry
theorem ywcq_w : lnw ywcq 1 = true := by sorry
theorem ywc1_z0 : lny ywc1 yw1 fg1 fx1 1 3 2 false twc0 = true := by sorry
theorem ywc1_z1 : lny ywc1 yw1 fg1 fx1 1 3 2 true twc1 = true := by sorry
theorem ywc1_z {o : Bool} {k q1 q2 : Nat} (h : (k, q1, q2) ∈ (if o then twc1 else twc0)) : lnz ywc1 yw1 fg1 fx1 1 3 2 k q1 q2 (zow o k q1 q2) = true := by sorry
theorem ywcq_z0 : lny ywcq ywq fgq fxq 0 1 1 false twc0 = true := by sorry
theorem ywcq_z1 : lny ywcq ywq fgq fxq 0 1 1 true twc1 = true := by sorry
theorem ywcq_z {o : Bool} {k q1 q2 : Nat} (h : (k, q1, q2) ∈ (if o then twc1 else twc0)) : lnz ywcq ywq fgq fxq 0 1 1 k q1 q2 (zow o k q1 q2) = true := by sorry
theorem ywc1_d20 : lne true false ywc1 fr1 fg1 1 2 3 2 2 2 2 2 887 20 33 6 20 = true := by sorry
theorem ywc1_d33 : lne true false ywc1 fr1 fg1 1 2 3 2 2 2 2 2 887 33 37 6 20 = true := by sorry
theorem ywc1_d37 : lne true false ywc1 fr1 fg1 1 2 3 2 2 2 2 2 887 37 42 6 20 = true := by sorry
theorem ywc1_d42 : lne true false ywc1 fr1 fg1 1 2 3 2 2 2 2 2 887 42 48 6 20 = true := by sorry
theorem ywc1_all {c m : Nat} (m6 : 6 ≤ m) (h20 : 20 ≤ c) (h47 : c ≤ 47) (hc : c + 2 * m ≤ 58) {s : T6} (hs : s ∈ lng ywc1 c) : (false = false → 5 ≤ 58 - 2 * m - c → dpD true fr1 fg1 0 1 2 3 2 2 2 2 s.2.2.1 s.2.2.2.1 2 s.2.2.2.2.1 s.2.2.2.2.2 s.1 (58 - 2 * m - c) m ≤ 887) ∧ (false = true → dpD true fr1 fg1 5 1 2 3 2 2 2 2 s.2.2.1 s.2.2.2.1 2 s.2.2.2.2.1 s.2.2.2.2.2 s.1 0 m ≤ 887) := by sorry
theorem ywcq_d20 : lne true false ywcq frq fgq 0 1 1 1 3 2 1 1 597 20 33 6 20 = true := by sorry
theorem ywcq_d33 : lne true false ywcq frq fgq 0 1 1 1 3 2 1 1 597 33 37 6 20 = true := by sorry
theorem ywcq_d37 : lne true false ywcq frq fgq 0 1 1 1 3 2 1 1 597 37 42 6 20 = true := by sorry
theorem ywcq_d42 : lne true false ywcq frq fgq 0 1 1 1 3 2 1 1 597 42 48 6 20 = true := by sorry
theorem ywcq_all {c m : Nat} (m6 : 6 ≤ m) (h20 : 20 ≤ c) (h47 : c ≤ 47) (hc : c + 2 * m ≤ 58) {s : T6} (hs : s ∈ lng ywcq c) : (false = false → 5 ≤ 58 - 2 * m - c → dpD true frq fgq 0 0 1 1 1 3 2 1 s.2.2.1 s.2.2.2.1 1 s.2.2.2.2.1 s.2.2.2.2.2 s.1 (58 - 2 * m - c) m ≤ 597) ∧ (false = true → dpD true frq fgq 5 0 1 1 1 3 2 1 s.2.2.1 s.2.2.2.1 1 s.2.2.2.2.1 s.2.2.2.2.2 s.1 0 m ≤ 597) := by sorry
end
section
-- from 99y08e
def ywe1 : LnT := [[], [], [], [], [], [], [], [], [], [], [], [], [], [], [], [], [], [], [], [], [], [], [], [], [], [], [], [(23, 0, 19, 4, 0, 18)], [(25, 0, 20, 4, 0, 19)], [], [], [(31, 0, 27, 5, 0, 22)], [(33, 0, 29, 5, 0, 23)], [(35, 0, 30, 5, 0, 24)], [(37, 0, 33, 5, 0, 25)], [(43, 0, 39, 6, 0, 26)], [(49, 0, 43, 7, 2, 27)], [(49, 0, 44, 7, 0, 28)], [(49, 0, 45, 7, 0, 29)], [(55, 0, 51, 9, 0, 30)], [(67, 0, 63, 10, 2, 31)], [(69, 0, 64, 10, 2, 32)], [(73, 0, 65, 10, 2, 33)], [], [], [], [], []]
def yweq : LnT := [[], [], [], [], [], [], [], [], [], [], [], [], [], [], [], [], [], [], [], [], [], [], [], [], [], [], [], [(15, 0, 14, 4, 0, 18)], [(15, 0, 14, 4, 0, 19)], [], [], [(18, 0, 17, 5, 0, 22)], [(18, 0, 17, 5, 0, 23)], [(22, 0, 21, 5, 0, 24)], [(22, 0, 21, 5, 0, 25)], [(23, 0, 22, 6, 0, 26)], [(31, 0, 27, 7, 2, 27)], [(31, 0, 30, 7, 0, 28)], [(31, 0, 30, 7, 0, 29)], [(34, 0, 33, 9, 0, 30)], [(40, 0, 39, 10, 2, 31)], [(40, 0, 39, 10, 2, 32)], [(45, 0, 41, 10, 2, 33)], [], [], [], [], []]
def twe0 : List (Nat × Nat × Nat) := [(18, 0, 0), (18, 0, 9), (19, 0, 0), (22, 0, 0), (22, 0, 5), (22, 0, 9), (22, 0, 10), (22, 0, 11), (22, 5, 0), (23, 0, 0), (23, 0, 9), (23, 0, 10), (24, 0, 0), (24, 0, 9), (25, 0, 0), (26, 0, 0), (27, 0, 0), (27, 0, 5), (27, 0, 6), (27, 5, 0), (27, 6, 0), (28, 0, 0), (28, 0, 5), (28, 5, 0), (29, 0, 0), (30, 0, 0), (31, 0, 0), (32, 0, 0), (33, 0, 0)]
def twe1 : List (Nat × Nat × Nat) := [(18, 0, 0), (18, 0, 9), (19, 0, 0), (22, 0, 0), (22, 0, 5), (22, 0, 9), (22, 0, 10), (22, 0, 11), (22, 5, 0), (23, 0, 0), (23, 0, 9), (23, 0, 10), (24, 0, 0), (24, 0, 9), (25, 0, 0), (26, 0, 0), (27, 0, 0), (27, 0, 5), (27, 0, 6), (27, 5, 0), (27, 6, 0), (28, 0, 0), (28, 0, 5), (28, 5, 0), (29, 0, 0), (30, 0, 0), (31, 0, 0), (32, 0, 0), (33, 0, 0)]
theorem ywe1_k : lnkb ywe1 = true := by sorry
theorem ywe1_w : lnw ywe1 2 = true := by sorry
theorem yweq_k : lnkb yweq = true := by sorry
theorem yweq_w : lnw yweq 1 = true := by sorry
theorem ywe1_z0 : lny ywe1 yw1 fg1 fx1 1 3 2 false twe0 = true := by sorry
theorem ywe1_z1 : lny ywe1 yw1 fg1 fx1 1 3 2 true twe1 = true := by sorry
theorem ywe1_z {o : Bool} {k q1 q2 : Nat} (h : (k, q1, q2) ∈ (if o then twe1 else twe0)) : lnz ywe1 yw1 fg1 fx1 1 3 2 k q1 q2 (zow o k q1 q2) = true := by sorry
theorem yweq_z0 : lny yweq ywq fgq fxq 0 1 1 false twe0 = true := by sorry
theorem yweq_z1 : lny yweq ywq fgq fxq 0 1 1 true twe1 = true := by sorry
theorem yweq_z {o : Bool} {k q1 q2 : Nat} (h : (k, q1, q2) ∈ (if o then twe1 else twe0)) : lnz yweq ywq fgq fxq 0 1 1 k q1 q2 (zow o k q1 q2) = true := by sorry
theorem ywe1_d20 : lne true true ywe1 fr1 fg1 1 2 3 2 2 2 2 2 887 20 33 3 20 = true := by sorry
theorem ywe1_d33 : lne true true ywe1 fr1 fg1 1 2 3 2 2 2 2 2 887 33 37 3 20 = true := by sorry
theorem ywe1_d37 : lne true true ywe1 fr1 fg1 1 2 3 2 2 2 2 2 887 37 42 3 20 = true := by sorry
theorem ywe1_d42 : lne true true ywe1 fr1 fg1 1 2 3 2 2 2 2 2 887 42 48 3 20 = true := by sorry
theorem ywe1_all {c m : Nat} (m3 : 3 ≤ m) (h20 : 20 ≤ c) (h47 : c ≤ 47) (hc : c + 2 * m ≤ 58) {s : T6} (hs : s ∈ lng ywe1 c) : (true = false → 5 ≤ 58 - 2 * m - c → dpD true fr1 fg1 0 1 2 3 2 2 2 2 s.2.2.1 s.2.2.2.1 2 s.2.2.2.2.1 s.2.2.2.2.2 s.1 (58 - 2 * m - c) m ≤ 887) ∧ (true = true → dpD true fr1 fg1 5 1 2 3 2 2 2 2 s.2.2.1 s.2.2.2.1 2 s.2.2.2.2.1 s.2.2.2.2.2 s.1 0 m ≤ 887) := by sorry
theorem yweq_d20 : lne true true yweq frq fgq 0 1 1 1 3 2 1 1 597 20 33 3 20 = true := by sorry
theorem yweq_d33 : lne true true yweq frq fgq 0 1 1 1 3 2 1 1 597 33 37 3 20 = true := by sorry
theorem yweq_d37 : lne true true yweq frq fgq 0 1 1 1 3 2 1 1 597 37 42 3 20 = true := by sorry
theorem yweq_d42 : lne true true yweq frq fgq 0 1 1 1 3 2 1 1 597 42 48 3 20 = true := by sorry
theorem yweq_all {c m : Nat} (m3 : 3 ≤ m) (h20 : 20 ≤ c) (h47 : c ≤ 47) (hc : c + 2 * m ≤ 58) {s : T6} (hs : s ∈ lng yweq c) : (true = false → 5 ≤ 58 - 2 * m - c → dpD true frq fgq 0 0 1 1 1 3 2 1 s.2.2.1 s.2.2.2.1 1 s.2.2.2.2.1 s.2.2.2.2.2 s.1 (58 - 2 * m - c) m ≤ 597) ∧ (true = true → dpD true frq fgq 5 0 1 1 1 3 2 1 s.2.2.1 s.2.2.2.1 1 s.2.2.2.2.1 s.2.2.2.2.2 s.1 0 m ≤ 597) := by sorry
end
section
-- from 99y09a
def yva1 : LnT := [[], [], [], [], [], [], [], [], [], [], [], [], [], [], [], [], [], [], [], [], [], [], [], [], [], [], [], [], [], [], [], [], [], [], [], [], [(53, 0, 49, 9, 0, 27)], [(65, 0, 61, 9, 0, 28)], [(65, 0, 61, 9, 0, 29)], [], [], [(85, 0, 37, 6, 2, 23), (54, 0, 49, 9, 1, 27)], [(93, 0, 53, 6, 2, 24), (66, 0, 61, 9, 1, 28)], [(93, 0, 73, 6, 2, 25), (68, 0, 61, 9, 1, 29)], [(110, 0, 67, 7, 6, 30), (64, 0, 41, 9, 1, 30)], [(128, 0, 76, 6, 3, 31), (119, 0, 51, 7, 6, 31), (70, 0, 59, 11, 6, 31), (70, 0, 41, 12, 1, 31)], [(143, 0, 85, 5, 3, 31), (128, 0, 61, 6, 3, 31), (119, 0, 85, 3, 6, 14), (74, 0, 56, 11, 2, 31), (69, 0, 41, 12, 1, 31)], [(149, 0, 103, 5, 4, 31), (128, 0, 61, 6, 3, 31), (119, 0, 109, 3, 6, 15), (74, 0, 56, 11, 2, 31), (69, 0, 41, 12, 1, 31)]]
def yvaq : LnT := [[], [], [], [], [], [], [], [], [], [], [], [], [], [], [], [], [], [], [], [], [], [], [], [], [], [], [], [], [], [], [], [], [], [], [], [], [(31, 0, 30, 9, 0, 27)], [(37, 0, 36, 9, 0, 28)], [(37, 0, 36, 9, 0, 29)], [], [], [(41, 0, 30, 9, 2, 27)], [(51, 0, 40, 6, 2, 24), (38, 0, 36, 9, 1, 28)], [(57, 0, 51, 6, 2, 25), (43, 0, 42, 9, 1, 29)], [(60, 0, 48, 9, 6, 30)], [(62, 0, 53, 8, 6, 31), (32, 0, 21, 12, 2, 31)], [(78, 0, 75, 6, 6, 31), (35, 0, 27, 12, 2, 31)], [(90, 0, 75, 5, 4, 31), (85, 0, 84, 6, 6, 31), (37, 0, 29, 12, 2, 31)]]
def tva0 : List (Nat × Nat × Nat) := [(12, 0, 26), (13, 0, 22), (13, 0, 23), (13, 0, 24), (13, 0, 25), (13, 23, 0), (13, 24, 0), (13, 25, 0), (14, 0, 22), (14, 0, 23), (14, 0, 24), (14, 23, 0), (14, 24, 0), (15, 0, 22), (15, 0, 23), (15, 23, 0), (16, 0, 22), (21, 0, 17), (22, 0, 13), (22, 0, 14), (22, 0, 15), (22, 0, 16), (22, 11, 0), (22, 12, 0), (23, 0, 9), (23, 0, 10), (23, 0, 11), (23, 0, 13), (23, 0, 14), (23, 0, 15), (23, 11, 0), (24, 0, 9), (24, 0, 10), (24, 0, 13), (24, 0, 14), (25, 0, 9), (25, 0, 10), (25, 0, 11), (25, 0, 12), (25, 0, 13), (26, 0, 9), (26, 0, 10), (26, 0, 11), (26, 0, 12), (26, 8, 0), (27, 0, 0), (27, 0, 5), (27, 0, 6), (27, 0, 7), (27, 0, 8), (27, 5, 0), (27, 5, 5), (27, 5, 6), (27, 6, 0), (27, 6, 5), (27, 7, 0), (27, 8, 0), (27, 9, 0), (27, 10, 0), (27, 11, 0), (28, 0, 0), (28, 0, 5), (28, 0, 6), (28, 0, 7), (28, 0, 8), (28, 5, 0), (28, 5, 5), (28, 7, 0), (28, 8, 0), (28, 9, 0), (28, 10, 0), (29, 0, 0), (29, 0, 5), (29, 0, 6), (29, 0, 7), (29, 0, 8), (29, 5, 0), (29, 6, 0), (29, 7, 0), (29, 8, 0), (29, 9, 0), (30, 0, 5), (30, 0, 6), (30, 0, 7), (30, 0, 8), (30, 5, 0), (30, 6, 0), (30, 7, 0), (30, 8, 0), (31, 0, 5), (31, 5, 0), (31, 6, 0), (31, 7, 0)]
def tva1 : List (Nat × Nat × Nat) := [(13, 0, 22), (13, 0, 23), (13, 0, 24), (13, 0, 25), (13, 23, 0), (13, 24, 0), (13, 25, 0), (14, 0, 22), (14, 0, 23), (14, 0, 24), (14, 23, 0), (14, 24, 0), (15, 23, 0), (21, 0, 17), (22, 0, 13), (22, 0, 14), (22, 0, 15), (22, 0, 16), (22, 11, 0), (22, 12, 0), (23, 0, 9), (23, 0, 10), (23, 0, 11), (23, 0, 13), (23, 0, 14), (23, 0, 15), (23, 11, 0), (24, 0, 9), (24, 0, 10), (24, 0, 13), (24, 0, 14), (25, 0, 9), (25, 0, 10), (25, 0, 11), (25, 0, 12), (25, 0, 13), (26, 0, 9), (26, 0, 10), (26, 0, 11), (26, 0, 12), (26, 8, 0), (27, 0, 0), (27, 0, 5), (27, 0, 6), (27, 0, 7), (27, 0, 8), (27, 5, 0), (27, 5, 5), (27, 5, 6), (27, 6, 0), (27, 6, 5), (27, 7, 0), (27, 8, 0), (27, 9, 0), (27, 10, 0), (27, 11, 0), (28, 0, 0), (28, 0, 5), (28, 0, 6), (28, 0, 7), (28, 0, 8), (28, 5, 0), (28, 5, 5), (28, 7, 0), (28, 8, 0), (28, 9, 0), (28, 10, 0), (29, 0, 0), (29, 0, 5), (29, 0, 6), (29, 0, 7), (29, 0, 8), (29, 5, 0), (29, 6, 0), (29, 7, 0), (29, 8, 0), (29, 9, 0), (30, 0, 5), (30, 0, 6), (30, 0, 7), (30, 0, 8), (30, 5, 0), (30, 6, 0), (30, 7, 0), (30, 8, 0), (31, 0, 5), (31, 5, 0), (31, 6, 0), (31, 7, 0)]
theorem yva1_k : lnkb yva1 = true := by sorry
theorem yva1_w : lnw yva1 2 = true := by sorry
theorem yvaq_k : lnkb yvaq = true := by sorry
theorem yvaq_w : lnw yvaq 1 = true := by sorry
theorem yva1_z0 : lny yva1 xfa1 fg1 fx1 1 3 2 false tva0 = true := by sorry
theorem yva1_z1 : lny yva1 xfa1 fg1 fx1 1 3 2 true tva1 = true := by sorry
theorem yva1_z {o : Bool} {k q1 q2 : Nat} (h : (k, q1, q2) ∈ (if o then tva1 else tva0)) : lnz yva1 xfa1 fg1 fx1 1 3 2 k q1 q2 (zow o k q1 q2) = true := by sorry
theorem yvaq_z0 : lny yvaq xfaq fgq fxq 0 1 1 false tva0 = true := by sorry
theorem yvaq_z1 : lny yvaq xfaq fgq fxq 0 1 1 true tva1 = true := by sorry
theorem yvaq_z {o : Bool} {k q1 q2 : Nat} (h : (k, q1, q2) ∈ (if o then tva1 else tva0)) : lnz yvaq xfaq fgq fxq 0 1 1 k q1 q2 (zow o k q1 q2) = true := by sorry
theorem yva1_d20 : lne false false yva1 fr1 fg1 1 2 3 2 2 2 2 2 887 20 33 3 6 = true := by sorry
theorem yva1_d33 : lne false false yva1 fr1 fg1 1 2 3 2 2 2 2 2 887 33 37 3 6 = true := by sorry
theorem yva1_d37 : lne false false yva1 fr1 fg1 1 2 3 2 2 2 2 2 887 37 42 3 6 = true := by sorry
theorem yva1_d42 : lne false false yva1 fr1 fg1 1 2 3 2 2 2 2 2 887 42 48 3 6 = true := by sorry
theorem yva1_all {c m : Nat} (m3 : 3 ≤ m) (m5 : m < 6) (h20 : 20 ≤ c) (h47 : c ≤ 47) (hc : c + 2 * m ≤ 58) {s : T6} (hs : s ∈ lng yva1 c) : (false = false → 5 ≤ 58 - 2 * m - c → dpD false fr1 fg1 0 1 2 3 2 2 2 2 s.2.2.1 s.2.2.2.1 2 s.2.2.2.2.1 s.2.2.2.2.2 s.1 (58 - 2 * m - c) m ≤ 887) ∧ (false = true → dpD false fr1 fg1 5 1 2 3 2 2 2 2 s.2.2.1 s.2.2.2.1 2 s.2.2.2.2.1 s.2.2.2.2.2 s.1 0 m ≤ 887) := by sorry
theorem yvaq_d20 : lne false false yvaq frq fgq 0 1 1 1 3 2 1 1 597 20 33 3 6 = true := by sorry
theorem yvaq_d33 : lne false false yvaq frq fgq 0 1 1 1 3 2 1 1 597 33 37 3 6 = true := by sorry
theorem yvaq_d37 : lne false false yvaq frq fgq 0 1 1 1 3 2 1 1 597 37 42 3 6 = true := by sorry
theorem yvaq_d42 : lne false false yvaq frq fgq 0 1 1 1 3 2 1 1 597 42 48 3 6 = true := by sorry
theorem yvaq_all {c m : Nat} (m3 : 3 ≤ m) (m5 : m < 6) (h20 : 20 ≤ c) (h47 : c ≤ 47) (hc : c + 2 * m ≤ 58) {s : T6} (hs : s ∈ lng yvaq c) : (false = false → 5 ≤ 58 - 2 * m - c → dpD false frq fgq 0 0 1 1 1 3 2 1 s.2.2.1 s.2.2.2.1 1 s.2.2.2.2.1 s.2.2.2.2.2 s.1 (58 - 2 * m - c) m ≤ 597) ∧ (false = true → dpD false frq fgq 5 0 1 1 1 3 2 1 s.2.2.1 s.2.2.2.1 1 s.2.2.2.2.1 s.2.2.2.2.2 s.1 0 m ≤ 597) := by sorry
end
section
-- from 99y09c
def yvc1 : LnT := [[], [], [], [], [], [], [], [], [], [], [], [], [], [], [], [], [], [], [], [], [], [], [], [], [], [], [], [(25, 0, 21, 4, 0, 18)], [(29, 0, 25, 4, 0, 19)], [(31, 0, 27, 4, 0, 20)], [(31, 0, 27, 4, 0, 21)], [], [], [(28, 0, 21, 4, 1, 18)], [(45, 0, 41, 5, 0, 25), (41, 0, 25, 6, 0, 25)], [(51, 0, 19, 1, 4, 9)], [], [(61, 0, 25, 4, 2, 19), (42, 0, 37, 6, 1, 23)], [(44, 0, 37, 6, 1, 23)], [(71, 0, 41, 5, 4, 25), (44, 0, 25, 6, 1, 25)], [(83, 0, 45, 4, 4, 25), (53, 0, 43, 6, 2, 26)], [(104, 0, 25, 4, 3, 19), (83, 0, 57, 4, 4, 22), (53, 0, 49, 6, 2, 26)], [], [], [], [], [], []]
def yvcq : LnT := [[], [], [], [], [], [], [], [], [], [], [], [], [], [], [], [], [], [], [], [], [], [], [], [], [], [], [], [(15, 0, 14, 4, 0, 18)], [(15, 0, 14, 4, 0, 19)], [(15, 0, 14, 4, 0, 20)], [(19, 0, 18, 4, 0, 21)], [], [], [(16, 0, 14, 4, 1, 18)], [(28, 0, 27, 6, 0, 25)], [(27, 0, 17, 1, 4, 9)], [], [(31, 0, 19, 6, 2, 23)], [(21, 0, 19, 6, 1, 23)], [(39, 0, 27, 6, 4, 25)], [(47, 0, 27, 5, 4, 26), (26, 0, 18, 6, 1, 26)], [(51, 0, 40, 5, 4, 22), (29, 0, 27, 6, 1, 26)], [], [], [], [], [], []]
def tvc0 : List (Nat × Nat × Nat) := [(5, 0, 26), (5, 0, 27), (6, 0, 26), (8, 0, 18), (8, 0, 22), (8, 0, 23), (8, 0, 24), (9, 0, 17), (9, 0, 22), (9, 0, 23), (9, 17, 0), (9, 22, 0), (9, 23, 0), (10, 0, 21), (10, 0, 22), (10, 22, 0), (11, 0, 21), (12, 20, 0), (13, 0, 18), (13, 0, 19), (13, 19, 0), (14, 0, 17), (14, 0, 18), (15, 0, 17), (18, 0, 0), (18, 0, 6), (18, 0, 13), (18, 0, 14), (19, 0, 0), (19, 0, 9), (19, 0, 13), (20, 0, 0), (21, 0, 0), (21, 0, 9), (21, 0, 10), (21, 0, 11), (22, 0, 6), (22, 0, 7), (22, 0, 8), (22, 0, 9), (22, 0, 10), (22, 6, 0), (23, 0, 5), (23, 0, 6), (23, 0, 7), (23, 0, 8), (23, 5, 0), (24, 0, 6), (24, 0, 7), (24, 0, 8), (25, 0, 0), (25, 0, 5), (25, 0, 6), (25, 0, 7), (25, 5, 0), (25, 6, 0), (25, 7, 0), (26, 0, 5), (26, 0, 6), (26, 5, 0), (26, 6, 0)]
def tvc1 : List (Nat × Nat × Nat) := [(5, 0, 26), (5, 0, 27), (6, 0, 26), (8, 0, 18), (8, 0, 22), (8, 0, 23), (8, 0, 24), (9, 0, 17), (9, 0, 22), (9, 0, 23), (9, 17, 0), (9, 22, 0), (9, 23, 0), (10, 0, 21), (10, 22, 0), (11, 0, 21), (12, 20, 0), (13, 0, 18), (13, 0, 19), (13, 19, 0), (14, 0, 17), (14, 0, 18), (18, 0, 0), (18, 0, 6), (18, 0, 13), (18, 0, 14), (19, 0, 0), (19, 0, 9), (19, 0, 13), (20, 0, 0), (21, 0, 0), (21, 0, 9), (21, 0, 10), (21, 0, 11), (22, 0, 6), (22, 0, 7), (22, 0, 8), (22, 0, 9), (22, 0, 10), (22, 6, 0), (23, 0, 5), (23, 0, 6), (23, 0, 7), (23, 0, 8), (23, 5, 0), (24, 0, 6), (24, 0, 7), (24, 0, 8), (25, 0, 0), (25, 0, 5), (25, 0, 6), (25, 0, 7), (25, 5, 0), (25, 6, 0), (25, 7, 0), (26, 0, 5), (26, 0, 6), (26, 5, 0), (26, 6, 0)]
theorem yvc1_k : lnkb yvc1 = true := by sorry
theorem yvc1_w : lnw yvc1 2 = true := by sorry
theorem yvcq_k : lnkb yvcq = true := by sorry
theorem yvcq_w : lnw yvcq 1 = true := by sorry
theorem yvc1_z0 : lny yvc1 xfa1 fg1 fx1 1 3 2 false tvc0 = true := by sorry
theorem yvc1_z1 : lny yvc1 xfa1 fg1 fx1 1 3 2 true tvc1 = true := by sorry
theorem yvc1_z {o : Bool} {k q1 q2 : Nat} (h : (k, q1, q2) ∈ (if o then tvc1 else tvc0)) : lnz yvc1 xfa1 fg1 fx1 1 3 2 k q1 q2 (zow o k q1 q2) = true := by sorry
theorem yvcq_z0 : lny yvcq xfaq fgq fxq 0 1 1 false tvc0 = true := by sorry
theorem yvcq_z1 : lny yvcq xfaq fgq fxq 0 1 1 true tvc1 = true := by sorry
theorem yvcq_z {o : Bool} {k q1 q2 : Nat} (h : (k, q1, q2) ∈ (if o then tvc1 else tvc0)) : lnz yvcq xfaq fgq fxq 0 1 1 k q1 q2 (zow o k q1 q2) = true := by sorry
theorem yvc1_d20 : lne true false yvc1 fr1 fg1 1 2 3 2 2 2 2 2 887 20 33 6 20 = true := by sorry
theorem yvc1_d33 : lne true false yvc1 fr1 fg1 1 2 3 2 2 2 2 2 887 33 37 6 20 = true := by sorry
theorem yvc1_d37 : lne true false yvc1 fr1 fg1 1 2 3 2 2 2 2 2 887 37 42 6 20 = true := by sorry
theorem yvc1_d42 : lne true false yvc1 fr1 fg1 1 2 3 2 2 2 2 2 887 42 48 6 20 = true := by sorry
theorem yvc1_all {c m : Nat} (m6 : 6 ≤ m) (h20 : 20 ≤ c) (h47 : c ≤ 47) (hc : c + 2 * m ≤ 58) {s : T6} (hs : s ∈ lng yvc1 c) : (false = false → 5 ≤ 58 - 2 * m - c → dpD true fr1 fg1 0 1 2 3 2 2 2 2 s.2.2.1 s.2.2.2.1 2 s.2.2.2.2.1 s.2.2.2.2.2 s.1 (58 - 2 * m - c) m ≤ 887) ∧ (false = true → dpD true fr1 fg1 5 1 2 3 2 2 2 2 s.2.2.1 s.2.2.2.1 2 s.2.2.2.2.1 s.2.2.2.2.2 s.1 0 m ≤ 887) := by sorry
theorem yvcq_d20 : lne true false yvcq frq fgq 0 1 1 1 3 2 1 1 597 20 33 6 20 = true := by sorry
theorem yvcq_d33 : lne true false yvcq frq fgq 0 1 1 1 3 2 1 1 597 33 37 6 20 = true := by sorry
theorem yvcq_d37 : lne true false yvcq frq fgq 0 1 1 1 3 2 1 1 597 37 42 6 20 = true := by sorry
theorem yvcq_d42 : lne true false yvcq frq fgq 0 1 1 1 3 2 1 1 597 42 48 6 20 = true := by sorry
theorem yvcq_all {c m : Nat} (m6 : 6 ≤ m) (h20 : 20 ≤ c) (h47 : c ≤ 47) (hc : c + 2 * m ≤ 58) {s : T6} (hs : s ∈ lng yvcq c) : (false = false → 5 ≤ 58 - 2 * m - c → dpD true frq fgq 0 0 1 1 1 3 2 1 s.2.2.1 s.2.2.2.1 1 s.2.2.2.2.1 s.2.2.2.2.2 s.1 (58 - 2 * m - c) m ≤ 597) ∧ (false = true → dpD true frq fgq 5 0 1 1 1 3 2 1 s.2.2.1 s.2.2.2.1 1 s.2.2.2.2.1 s.2.2.2.2.2 s.1 0 m ≤ 597) := by sorry
end
section
-- from 99y09e
def yve1 : LnT := [[], [], [], [], [], [], [], [], [], [], [], [], [], [], [], [], [], [], [], [], [], [], [], [], [], [], [], [(25, 0, 21, 4, 0, 18)], [(29, 0, 25, 4, 0, 19)], [], [], [(35, 0, 31, 5, 0, 22)], [(41, 0, 37, 6, 0, 23)], [(45, 0, 41, 6, 0, 24)], [(45, 0, 41, 6, 0, 25)], [(47, 0, 43, 6, 0, 26)], [(53, 0, 31, 5, 2, 22)], [], [], [(65, 0, 61, 9, 0, 30)], [(73, 0, 31, 5, 2, 22)], [(85, 0, 49, 8, 2, 27), (54, 0, 31, 9, 1, 27)], [(93, 0, 61, 7, 2, 28), (62, 0, 41, 9, 1, 28)], [], [], [], [], []]
def yveq : LnT := [[], [], [], [], [], [], [], [], [], [], [], [], [], [], [], [], [], [], [], [], [], [], [], [], [], [], [], [(15, 0, 14, 4, 0, 18)], [(15, 0, 14, 4, 0, 19)], [], [], [(19, 0, 18, 5, 0, 22)], [(20, 0, 19, 6, 0, 23)], [(25, 0, 24, 6, 0, 24)], [(28, 0, 27, 6, 0, 25)], [(28, 0, 27, 6, 0, 26)], [(31, 0, 18, 5, 2, 22)], [], [], [(39, 0, 38, 9, 0, 30)], [(39, 0, 18, 5, 2, 22)], [(41, 0, 30, 9, 2, 27)], [(51, 0, 36, 9, 2, 28)], [], [], [], [], []]
def tve0 : List (Nat × Nat × Nat) := [(18, 0, 0), (18, 0, 9), (19, 0, 0), (22, 0, 0), (22, 0, 5), (22, 0, 9), (22, 0, 10), (22, 0, 11), (22, 5, 0), (23, 0, 0), (23, 0, 9), (23, 0, 10), (24, 0, 0), (24, 0, 9), (25, 0, 0), (26, 0, 0), (27, 0, 5), (27, 0, 6), (27, 5, 0), (27, 6, 0), (28, 0, 5), (28, 5, 0), (30, 0, 0)]
def tve1 : List (Nat × Nat × Nat) := [(18, 0, 0), (18, 0, 9), (19, 0, 0), (22, 0, 0), (22, 0, 5), (22, 0, 9), (22, 0, 10), (22, 0, 11), (22, 5, 0), (23, 0, 0), (23, 0, 9), (23, 0, 10), (24, 0, 0), (24, 0, 9), (25, 0, 0), (26, 0, 0), (27, 0, 5), (27, 0, 6), (27, 5, 0), (27, 6, 0), (28, 0, 5), (28, 5, 0), (30, 0, 0)]
theorem yve1_k : lnkb yve1 = true := by sorry
theorem yve1_w : lnw yve1 2 = true := by sorry
theorem yveq_k : lnkb yveq = true := by sorry
theorem yveq_w : lnw yveq 1 = true := by sorry
theorem yve1_z0 : lny yve1 xfa1 fg1 fx1 1 3 2 false tve0 = true := by sorry
theorem yve1_z1 : lny yve1 xfa1 fg1 fx1 1 3 2 true tve1 = true := by sorry
theorem yve1_z {o : Bool} {k q1 q2 : Nat} (h : (k, q1, q2) ∈ (if o then tve1 else tve0)) : lnz yve1 xfa1 fg1 fx1 1 3 2 k q1 q2 (zow o k q1 q2) = true := by sorry
theorem yveq_z0 : lny yveq xfaq fgq fxq 0 1 1 false tve0 = true := by sorry
theorem yveq_z1 : lny yveq xfaq fgq fxq 0 1 1 true tve1 = true := by sorry
theorem yveq_z {o : Bool} {k q1 q2 : Nat} (h : (k, q1, q2) ∈ (if o then tve1 else tve0)) : lnz yveq xfaq fgq fxq 0 1 1 k q1 q2 (zow o k q1 q2) = true := by sorry
theorem yve1_d20 : lne true true yve1 fr1 fg1 1 2 3 2 2 2 2 2 887 20 33 3 20 = true := by sorry
theorem yve1_d33 : lne true true yve1 fr1 fg1 1 2 3 2 2 2 2 2 887 33 37 3 20 = true := by sorry
theorem yve1_d37 : lne true true yve1 fr1 fg1 1 2 3 2 2 2 2 2 887 37 42 3 20 = true := by sorry
theorem yve1_d42 : lne true true yve1 fr1 fg1 1 2 3 2 2 2 2 2 887 42 48 3 20 = true := by sorry
theorem yve1_all {c m : Nat} (m3 : 3 ≤ m) (h20 : 20 ≤ c) (h47 : c ≤ 47) (hc : c + 2 * m ≤ 58) {s : T6} (hs : s ∈ lng yve1 c) : (true = false → 5 ≤ 58 - 2 * m - c → dpD true fr1 fg1 0 1 2 3 2 2 2 2 s.2.2.1 s.2.2.2.1 2 s.2.2.2.2.1 s.2.2.2.2.2 s.1 (58 - 2 * m - c) m ≤ 887) ∧ (true = true → dpD true fr1 fg1 5 1 2 3 2 2 2 2 s.2.2.1 s.2.2.2.1 2 s.2.2.2.2.1 s.2.2.2.2.2 s.1 0 m ≤ 887) := by sorry
theorem yveq_d20 : lne true true yveq frq fgq 0 1 1 1 3 2 1 1 597 20 33 3 20 = true := by sorry
theorem yveq_d33 : lne true true yveq frq fgq 0 1 1 1 3 2 1 1 597 33 37 3 20 = true := by sorry
theorem yveq_d37 : lne true true yveq frq fgq 0 1 1 1 3 2 1 1 597 37 42 3 20 = true := by sorry
theorem yveq_d42 : lne true true yveq frq fgq 0 1 1 1 3 2 1 1 597 42 48 3 20 = true := by sorry
theorem yveq_all {c m : Nat} (m3 : 3 ≤ m) (h20 : 20 ≤ c) (h47 : c ≤ 47) (hc : c + 2 * m ≤ 58) {s : T6} (hs : s ∈ lng yveq c) : (true = false → 5 ≤ 58 - 2 * m - c → dpD true frq fgq 0 0 1 1 1 3 2 1 s.2.2.1 s.2.2.2.1 1 s.2.2.2.2.1 s.2.2.2.2.2 s.1 (58 - 2 * m - c) m ≤ 597) ∧ (true = true → dpD true frq fgq 5 0 1 1 1 3 2 1 s.2.2.1 s.2.2.2.1 1 s.2.2.2.2.1 s.2.2.2.2.2 s.1 0 m ≤ 597) := by sorry
end
section
-- from 99y10a
def yza1 : LnT := [[], [], [], [], [], [], [], [], [], [], [], [], [], [], [], [], [], [], [], [], [], [], [], [], [], [], [], [], [], [], [], [], [], [], [], [], [], [], [], [], [], [], [(59, 0, 43, 9, 2, 23)], [(59, 0, 45, 9, 2, 24)], [(86, 0, 45, 9, 6, 25)], [(102, 0, 49, 8, 6, 26), (94, 0, 32, 9, 3, 26), (63, 0, 31, 12, 2, 26)], [(112, 0, 49, 7, 6, 26), (104, 0, 37, 8, 3, 26), (94, 0, 32, 9, 3, 26), (63, 0, 31, 12, 2, 26)], [(118, 0, 49, 7, 6, 26), (104, 0, 37, 8, 3, 26), (94, 0, 32, 9, 3, 26), (63, 0, 31, 12, 2, 26)]]
def yzaq : LnT := [[], [], [], [], [], [], [], [], [], [], [], [], [], [], [], [], [], [], [], [], [], [], [], [], [], [], [], [], [], [], [], [], [], [], [], [], [], [], [], [], [], [], [(36, 0, 33, 9, 2, 23)], [(36, 0, 33, 9, 2, 24)], [(60, 0, 34, 9, 6, 25)], [(62, 0, 42, 8, 6, 26), (40, 0, 18, 12, 3, 26)], [(70, 0, 42, 7, 6, 26), (40, 0, 22, 12, 3, 26)], [(72, 0, 42, 7, 6, 26), (46, 0, 22, 12, 3, 26)]]
def tza0 : List (Nat × Nat × Nat) := [(12, 0, 26), (13, 0, 22), (13, 0, 23), (13, 0, 24), (13, 0, 25), (14, 0, 22), (14, 0, 23), (14, 0, 24), (15, 0, 22), (15, 0, 23), (16, 0, 22), (21, 0, 17), (22, 0, 13), (22, 0, 14), (22, 0, 15), (22, 0, 16), (23, 0, 10), (23, 0, 11), (23, 0, 13), (23, 0, 14), (23, 0, 15), (24, 0, 10), (24, 0, 13), (24, 0, 14), (25, 0, 10), (25, 0, 11), (25, 0, 12), (25, 0, 13), (26, 0, 10), (26, 0, 11), (26, 0, 12)]
def tza1 : List (Nat × Nat × Nat) := [(12, 0, 26), (13, 0, 22), (13, 0, 23), (13, 0, 24), (13, 0, 25), (14, 0, 22), (14, 0, 23), (14, 0, 24), (15, 0, 22), (15, 0, 23), (16, 0, 22), (21, 0, 17), (22, 0, 13), (22, 0, 14), (22, 0, 15), (22, 0, 16), (23, 0, 10), (23, 0, 11), (23, 0, 13), (23, 0, 14), (23, 0, 15), (24, 0, 10), (24, 0, 13), (24, 0, 14), (25, 0, 10), (25, 0, 11), (25, 0, 12), (25, 0, 13), (26, 0, 10), (26, 0, 11), (26, 0, 12)]
theorem yza1_k : lnkb yza1 = true := by sorry
theorem yza1_w : lnw yza1 2 = true := by sorry
theorem yzaq_k : lnkb yzaq = true := by sorry
theorem yzaq_w : lnw yzaq 1 = true := by sorry
theorem yza1_z0 : lny yza1 xr1 fh1 fx1 1 3 2 false tza0 = true := by sorry
theorem yza1_z1 : lny yza1 xr1 fh1 fx1 1 3 2 true tza1 = true := by sorry
theorem yza1_z {o : Bool} {k q1 q2 : Nat} (h : (k, q1, q2) ∈ (if o then tza1 else tza0)) : lnz yza1 xr1 fh1 fx1 1 3 2 k q1 q2 (zow o k q1 q2) = true := by sorry
theorem yzaq_z0 : lny yzaq xrq fhq fxq 0 1 1 false tza0 = true := by sorry
theorem yzaq_z1 : lny yzaq xrq fhq fxq 0 1 1 true tza1 = true := by sorry
theorem yzaq_z {o : Bool} {k q1 q2 : Nat} (h : (k, q1, q2) ∈ (if o then tza1 else tza0)) : lnz yzaq xrq fhq fxq 0 1 1 k q1 q2 (zow o k q1 q2) = true := by sorry
theorem yza1_d20 : lne false false yza1 fr1 fg1 1 2 3 2 2 2 2 2 887 20 33 3 6 = true := by sorry
theorem yza1_d33 : lne false false yza1 fr1 fg1 1 2 3 2 2 2 2 2 887 33 37 3 6 = true := by sorry
theorem yza1_d37 : lne false false yza1 fr1 fg1 1 2 3 2 2 2 2 2 887 37 42 3 6 = true := by sorry
theorem yza1_d42 : lne false false yza1 fr1 fg1 1 2 3 2 2 2 2 2 887 42 48 3 6 = true := by sorry
theorem yza1_all {c m : Nat} (m3 : 3 ≤ m) (m5 : m < 6) (h20 : 20 ≤ c) (h47 : c ≤ 47) (hc : c + 2 * m ≤ 58) {s : T6} (hs : s ∈ lng yza1 c) : (false = false → 5 ≤ 58 - 2 * m - c → dpD false fr1 fg1 0 1 2 3 2 2 2 2 s.2.2.1 s.2.2.2.1 2 s.2.2.2.2.1 s.2.2.2.2.2 s.1 (58 - 2 * m - c) m ≤ 887) ∧ (false = true → dpD false fr1 fg1 5 1 2 3 2 2 2 2 s.2.2.1 s.2.2.2.1 2 s.2.2.2.2.1 s.2.2.2.2.2 s.1 0 m ≤ 887) := by sorry
theorem yzaq_d20 : lne false false yzaq frq fgq 0 1 1 1 3 2 1 1 597 20 33 3 6 = true := by sorry
theorem yzaq_d33 : lne false false yzaq frq fgq 0 1 1 1 3 2 1 1 597 33 37 3 6 = true := by sorry
theorem yzaq_d37 : lne false false yzaq frq fgq 0 1 1 1 3 2 1 1 597 37 42 3 6 = true := by sorry
theorem yzaq_d42 : lne false false yzaq frq fgq 0 1 1 1 3 2 1 1 597 42 48 3 6 = true := by sorry
theorem yzaq_all {c m : Nat} (m3 : 3 ≤ m) (m5 : m < 6) (h20 : 20 ≤ c) (h47 : c ≤ 47) (hc : c + 2 * m ≤ 58) {s : T6} (hs : s ∈ lng yzaq c) : (false = false → 5 ≤ 58 - 2 * m - c → dpD false frq fgq 0 0 1 1 1 3 2 1 s.2.2.1 s.2.2.2.1 1 s.2.2.2.2.1 s.2.2.2.2.2 s.1 (58 - 2 * m - c) m ≤ 597) ∧ (false = true → dpD false frq fgq 5 0 1 1 1 3 2 1 s.2.2.1 s.2.2.2.1 1 s.2.2.2.2.1 s.2.2.2.2.2 s.1 0 m ≤ 597) := by sorry
end
section
-- from 99y10b
def yzb1 : LnT := [[], [], [], [], [], [], [], [], [], [], [], [], [], [], [], [], [], [], [], [], [], [], [], [], [], [], [], [], [], [], [], [], [], [], [], [], [], [], [], [], [], [(50, 0, 34, 9, 2, 22)], [], [], [], [], [], []]
def yzbq : LnT := [[], [], [], [], [], [], [], [], [], [], [], [], [], [], [], [], [], [], [], [], [], [], [], [], [], [], [], [], [], [], [], [], [], [], [], [], [], [], [], [], [], [(31, 0, 28, 9, 2, 22)], [], [], [], [], [], []]
def tzb0 : List (Nat × Nat × Nat) := [(22, 0, 10)]
def tzb1 : List (Nat × Nat × Nat) := [(22, 0, 10)]
theorem yzb1_k : lnkb yzb1 = true := by sorry
theorem yzb1_w : lnw yzb1 2 = true := by sorry
theorem yzbq_k : lnkb yzbq = true := by sorry
theorem yzbq_w : lnw yzbq 1 = true := by sorry
theorem yzb1_z0 : lny yzb1 xr1 fh1 fx1 1 3 2 false tzb0 = true := by sorry
theorem yzb1_z1 : lny yzb1 xr1 fh1 fx1 1 3 2 true tzb1 = true := by sorry
theorem yzb1_z {o : Bool} {k q1 q2 : Nat} (h : (k, q1, q2) ∈ (if o then tzb1 else tzb0)) : lnz yzb1 xr1 fh1 fx1 1 3 2 k q1 q2 (zow o k q1 q2) = true := by sorry
theorem yzbq_z0 : lny yzbq xrq fhq fxq 0 1 1 false tzb0 = true := by sorry
theorem yzbq_z1 : lny yzbq xrq fhq fxq 0 1 1 true tzb1 = true := by sorry
theorem yzbq_z {o : Bool} {k q1 q2 : Nat} (h : (k, q1, q2) ∈ (if o then tzb1 else tzb0)) : lnz yzbq xrq fhq fxq 0 1 1 k q1 q2 (zow o k q1 q2) = true := by sorry
theorem yzb1_d20 : lne false false yzb1 fr1 fg1 1 2 3 2 2 2 2 2 887 20 33 6 20 = true := by sorry
theorem yzb1_d33 : lne false false yzb1 fr1 fg1 1 2 3 2 2 2 2 2 887 33 37 6 20 = true := by sorry
theorem yzb1_d37 : lne false false yzb1 fr1 fg1 1 2 3 2 2 2 2 2 887 37 42 6 20 = true := by sorry
theorem yzb1_d42 : lne false false yzb1 fr1 fg1 1 2 3 2 2 2 2 2 887 42 48 6 20 = true := by sorry
theorem yzb1_all {c m : Nat} (m6 : 6 ≤ m) (h20 : 20 ≤ c) (h47 : c ≤ 47) (hc : c + 2 * m ≤ 58) {s : T6} (hs : s ∈ lng yzb1 c) : (false = false → 5 ≤ 58 - 2 * m - c → dpD false fr1 fg1 0 1 2 3 2 2 2 2 s.2.2.1 s.2.2.2.1 2 s.2.2.2.2.1 s.2.2.2.2.2 s.1 (58 - 2 * m - c) m ≤ 887) ∧ (false = true → dpD false fr1 fg1 5 1 2 3 2 2 2 2 s.2.2.1 s.2.2.2.1 2 s.2.2.2.2.1 s.2.2.2.2.2 s.1 0 m ≤ 887) := by sorry
theorem yzbq_d20 : lne false false yzbq frq fgq 0 1 1 1 3 2 1 1 597 20 33 6 20 = true := by sorry
theorem yzbq_d33 : lne false false yzbq frq fgq 0 1 1 1 3 2 1 1 597 33 37 6 20 = true := by sorry
theorem yzbq_d37 : lne false false yzbq frq fgq 0 1 1 1 3 2 1 1 597 37 42 6 20 = true := by sorry
theorem yzbq_d42 : lne false false yzbq frq fgq 0 1 1 1 3 2 1 1 597 42 48 6 20 = true := by sorry
theorem yzbq_all {c m : Nat} (m6 : 6 ≤ m) (h20 : 20 ≤ c) (h47 : c ≤ 47) (hc : c + 2 * m ≤ 58) {s : T6} (hs : s ∈ lng yzbq c) : (false = false → 5 ≤ 58 - 2 * m - c → dpD false frq fgq 0 0 1 1 1 3 2 1 s.2.2.1 s.2.2.2.1 1 s.2.2.2.2.1 s.2.2.2.2.2 s.1 (58 - 2 * m - c) m ≤ 597) ∧ (false = true → dpD false frq fgq 5 0 1 1 1 3 2 1 s.2.2.1 s.2.2.2.1 1 s.2.2.2.2.1 s.2.2.2.2.2 s.1 0 m ≤ 597) := by sorry
end
section
-- from 99y10c
def yzc1 : LnT := [[], [], [], [], [], [], [], [], [], [], [], [], [], [], [], [], [], [], [], [], [], [], [], [], [], [], [], [], [], [], [], [], [], [], [], [(44, 0, 8, 3, 4, 9)], [], [], [], [(58, 0, 6, 2, 4, 8)], [(66, 0, 29, 6, 4, 21)], [(86, 0, 29, 4, 4, 21), (70, 0, 23, 6, 3, 21)], [], [], [], [], [], []]
def yzcq : LnT := [[], [], [], [], [], [], [], [], [], [], [], [], [], [], [], [], [], [], [], [], [], [], [], [], [], [], [], [], [], [], [], [], [], [], [], [(27, 0, 7, 3, 4, 9)], [], [], [], [(36, 0, 7, 2, 4, 8)], [(45, 0, 24, 6, 4, 21)], [(48, 0, 24, 5, 4, 21), (28, 0, 15, 6, 3, 21)], [], [], [], [], [], []]
def tzc0 : List (Nat × Nat × Nat) := [(5, 0, 26), (5, 0, 27), (6, 0, 26), (8, 0, 18), (8, 0, 22), (8, 0, 23), (8, 0, 24), (9, 0, 17), (9, 0, 22), (9, 0, 23), (10, 0, 21), (10, 0, 22), (11, 0, 21), (13, 0, 18), (13, 0, 19), (14, 0, 17), (14, 0, 18), (15, 0, 17), (18, 0, 13), (18, 0, 14), (19, 0, 13), (21, 0, 10), (21, 0, 11)]
def tzc1 : List (Nat × Nat × Nat) := [(5, 0, 26), (5, 0, 27), (6, 0, 26), (8, 0, 18), (8, 0, 22), (8, 0, 23), (8, 0, 24), (9, 0, 17), (9, 0, 22), (9, 0, 23), (10, 0, 21), (10, 0, 22), (11, 0, 21), (13, 0, 18), (13, 0, 19), (14, 0, 17), (14, 0, 18), (15, 0, 17), (18, 0, 13), (18, 0, 14), (19, 0, 13), (21, 0, 10), (21, 0, 11)]
theorem yzc1_k : lnkb yzc1 = true := by sorry
theorem yzc1_w : lnw yzc1 2 = true := by sorry
theorem yzcq_k : lnkb yzcq = true := by sorry
theorem yzcq_w : lnw yzcq 1 = true := by sorry
theorem yzc1_z0 : lny yzc1 xr1 fh1 fx1 1 3 2 false tzc0 = true := by sorry
theorem yzc1_z1 : lny yzc1 xr1 fh1 fx1 1 3 2 true tzc1 = true := by sorry
theorem yzc1_z {o : Bool} {k q1 q2 : Nat} (h : (k, q1, q2) ∈ (if o then tzc1 else tzc0)) : lnz yzc1 xr1 fh1 fx1 1 3 2 k q1 q2 (zow o k q1 q2) = true := by sorry
theorem yzcq_z0 : lny yzcq xrq fhq fxq 0 1 1 false tzc0 = true := by sorry
theorem yzcq_z1 : lny yzcq xrq fhq fxq 0 1 1 true tzc1 = true := by sorry
theorem yzcq_z {o : Bool} {k q1 q2 : Nat} (h : (k, q1, q2) ∈ (if o then tzc1 else tzc0)) : lnz yzcq xrq fhq fxq 0 1 1 k q1 q2 (zow o k q1 q2) = true := by sorry
theorem yzc1_d20 : lne true false yzc1 fr1 fg1 1 2 3 2 2 2 2 2 887 20 33 6 20 = true := by sorry
theorem yzc1_d33 : lne true false yzc1 fr1 fg1 1 2 3 2 2 2 2 2 887 33 37 6 20 = true := by sorry
theorem yzc1_d37 : lne true false yzc1 fr1 fg1 1 2 3 2 2 2 2 2 887 37 42 6 20 = true := by sorry
theorem yzc1_d42 : lne true false yzc1 fr1 fg1 1 2 3 2 2 2 2 2 887 42 48 6 20 = true := by sorry
theorem yzc1_all {c m : Nat} (m6 : 6 ≤ m) (h20 : 20 ≤ c) (h47 : c ≤ 47) (hc : c + 2 * m ≤ 58) {s : T6} (hs : s ∈ lng yzc1 c) : (false = false → 5 ≤ 58 - 2 * m - c → dpD true fr1 fg1 0 1 2 3 2 2 2 2 s.2.2.1 s.2.2.2.1 2 s.2.2.2.2.1 s.2.2.2.2.2 s.1 (58 - 2 * m - c) m ≤ 887) ∧ (false = true → dpD true fr1 fg1 5 1 2 3 2 2 2 2 s.2.2.1 s.2.2.2.1 2 s.2.2.2.2.1 s.2.2.2.2.2 s.1 0 m ≤ 887) := by sorry
theorem yzcq_d20 : lne true false yzcq frq fgq 0 1 1 1 3 2 1 1 597 20 33 6 20 = true := by sorry
theorem yzcq_d33 : lne true false yzcq frq fgq 0 1 1 1 3 2 1 1 597 33 37 6 20 = true := by sorry
theorem yzcq_d37 : lne true false yzcq frq fgq 0 1 1 1 3 2 1 1 597 37 42 6 20 = true := by sorry
theorem yzcq_d42 : lne true false yzcq frq fgq 0 1 1 1 3 2 1 1 597 42 48 6 20 = true := by sorry
theorem yzcq_all {c m : Nat} (m6 : 6 ≤ m) (h20 : 20 ≤ c) (h47 : c ≤ 47) (hc : c + 2 * m ≤ 58) {s : T6} (hs : s ∈ lng yzcq c) : (false = false → 5 ≤ 58 - 2 * m - c → dpD true frq fgq 0 0 1 1 1 3 2 1 s.2.2.1 s.2.2.2.1 1 s.2.2.2.2.1 s.2.2.2.2.2 s.1 (58 - 2 * m - c) m ≤ 597) ∧ (false = true → dpD true frq fgq 5 0 1 1 1 3 2 1 s.2.2.1 s.2.2.2.1 1 s.2.2.2.2.1 s.2.2.2.2.2 s.1 0 m ≤ 597) := by sorry
end
section
-- from 99y10e
def yze1 : LnT := [[], [], [], [], [], [], [], [], [], [], [], [], [], [], [], [], [], [], [], [], [], [], [], [], [], [], [], [], [], [], [], [], [], [], [], [], [], [], [], [], [], [(50, 0, 34, 9, 2, 22)], [(59, 0, 43, 9, 2, 23)], [], [], [], [], []]
def yzeq : LnT := [[], [], [], [], [], [], [], [], [], [], [], [], [], [], [], [], [], [], [], [], [], [], [], [], [], [], [], [], [], [], [], [], [], [], [], [], [], [], [], [], [], [(31, 0, 28, 9, 2, 22)], [(36, 0, 33, 9, 2, 23)], [], [], [], [], []]
def tze0 : List (Nat × Nat × Nat) := [(22, 0, 10), (22, 0, 11), (23, 0, 10)]
def tze1 : List (Nat × Nat × Nat) := [(22, 0, 10), (22, 0, 11), (23, 0, 10)]
theorem yze1_k : lnkb yze1 = true := by sorry
theorem yze1_w : lnw yze1 2 = true := by sorry
theorem yzeq_k : lnkb yzeq = true := by sorry
theorem yzeq_w : lnw yzeq 1 = true := by sorry
theorem yze1_z0 : lny yze1 xr1 fh1 fx1 1 3 2 false tze0 = true := by sorry
theorem yze1_z1 : lny yze1 xr1 fh1 fx1 1 3 2 true tze1 = true := by sorry
theorem yze1_z {o : Bool} {k q1 q2 : Nat} (h : (k, q1, q2) ∈ (if o then tze1 else tze0)) : lnz yze1 xr1 fh1 fx1 1 3 2 k q1 q2 (zow o k q1 q2) = true := by sorry
theorem yzeq_z0 : lny yzeq xrq fhq fxq 0 1 1 false tze0 = true := by sorry
theorem yzeq_z1 : lny yzeq xrq fhq fxq 0 1 1 true tze1 = true := by sorry
theorem yzeq_z {o : Bool} {k q1 q2 : Nat} (h : (k, q1, q2) ∈ (if o then tze1 else tze0)) : lnz yzeq xrq fhq fxq 0 1 1 k q1 q2 (zow o k q1 q2) = true := by sorry
theorem yze1_d20 : lne true true yze1 fr1 fg1 1 2 3 2 2 2 2 2 887 20 33 3 20 = true := by sorry
theorem yze1_d33 : lne true true yze1 fr1 fg1 1 2 3 2 2 2 2 2 887 33 37 3 20 = true := by sorry
theorem yze1_d37 : lne true true yze1 fr1 fg1 1 2 3 2 2 2 2 2 887 37 42 3 20 = true := by sorry
theorem yze1_d42 : lne true true yze1 fr1 fg1 1 2 3 2 2 2 2 2 887 42 48 3 20 = true := by sorry
theorem yze1_all {c m : Nat} (m3 : 3 ≤ m) (h20 : 20 ≤ c) (h47 : c ≤ 47) (hc : c + 2 * m ≤ 58) {s : T6} (hs : s ∈ lng yze1 c) : (true = false → 5 ≤ 58 - 2 * m - c → dpD true fr1 fg1 0 1 2 3 2 2 2 2 s.2.2.1 s.2.2.2.1 2 s.2.2.2.2.1 s.2.2.2.2.2 s.1 (58 - 2 * m - c) m ≤ 887) ∧ (true = true → dpD true fr1 fg1 5 1 2 3 2 2 2 2 s.2.2.1 s.2.2.2.1 2 s.2.2.2.2.1 s.2.2.2.2.2 s.1 0 m ≤ 887) := by sorry
theorem yzeq_d20 : lne true true yzeq frq fgq 0 1 1 1 3 2 1 1 597 20 33 3 20 = true := by sorry
theorem yzeq_d33 : lne true true yzeq frq fgq 0 1 1 1 3 2 1 1 597 33 37 3 20 = true := by sorry
theorem yzeq_d37 : lne true true yzeq frq fgq 0 1 1 1 3 2 1 1 597 37 42 3 20 = true := by sorry
theorem yzeq_d42 : lne true true yzeq frq fgq 0 1 1 1 3 2 1 1 597 42 48 3 20 = true := by sorry
theorem yzeq_all {c m : Nat} (m3 : 3 ≤ m) (h20 : 20 ≤ c) (h47 : c ≤ 47) (hc : c + 2 * m ≤ 58) {s : T6} (hs : s ∈ lng yzeq c) : (true = false → 5 ≤ 58 - 2 * m - c → dpD true frq fgq 0 0 1 1 1 3 2 1 s.2.2.1 s.2.2.2.1 1 s.2.2.2.2.1 s.2.2.2.2.2 s.1 (58 - 2 * m - c) m ≤ 597) ∧ (true = true → dpD true frq fgq 5 0 1 1 1 3 2 1 s.2.2.1 s.2.2.2.1 1 s.2.2.2.2.1 s.2.2.2.2.2 s.1 0 m ≤ 597) := by sorry
end
section
-- from 99y11
section PmY9
variable {f : Nat} {t C : Ty} {Γ0 Δ1 : List Ty} {Δ : List (Nat × Ty × Nat)} {o : Bool}
theorem nat_a (w : TWf f (cxs Δ1 Γ0 (tAll tTop C)).length (Δ.map (fun a => a.1)) t) (he : TE (cxs Δ1 Γ0 (tAll tTop C)) Δ) (hΔ : Δ ≠ []) (m3 : 3 ≤ mch t) (m5 : mch t < 6) (co : COk f t 0) (hz : znv xa0 xa1 o (tch C) (cch Γ0) (cch Δ1) = true) (ho : (∀ b ∈ Γ0, nsch b = true ∨ (o = true ∧ tch b ≤ tch C + 5)) ∧ ∀ b ∈ Δ1, nsch b = true ∨ (o = true ∧ tch b ≤ tch C + 5)) (hb : cch (cxs Δ1 Γ0 (tAll tTop C)) + dch Δ + 2 * mch t ≤ 58) (h20 : 20 ≤ cch (cxs Δ1 Γ0 (tAll tTop C))) (h49 : cch (cxs Δ1 Γ0 (tAll tTop C)) ≤ 47) : NtV (cxs Δ1 Γ0 (tAll tTop C)) Δ f t 887 597 := by sorry
theorem nat_c (w : TWf f (cxs Δ1 Γ0 (tAll tTop C)).length (Δ.map (fun a => a.1)) t) (he : TE (cxs Δ1 Γ0 (tAll tTop C)) Δ) (hΔ : Δ ≠ []) (m6 : 6 ≤ mch t) (ch : CHo f t []) (hz : znv xc0 xc1 o (tch C) (cch Γ0) (cch Δ1) = true) (ho : (∀ b ∈ Γ0, nsch b = true ∨ (o = true ∧ tch b ≤ tch C + 5)) ∧ ∀ b ∈ Δ1, nsch b = true ∨ (o = true ∧ tch b ≤ tch C + 5)) (hb : cch (cxs Δ1 Γ0 (tAll tTop C)) + dch Δ + 2 * mch t ≤ 58) (h20 : 20 ≤ cch (cxs Δ1 Γ0 (tAll tTop C))) (h49 : cch (cxs Δ1 Γ0 (tAll tTop C)) ≤ 47) : NtV (cxs Δ1 Γ0 (tAll tTop C)) Δ f t 887 597 := by sorry
theorem nat_e (w : TWf f (cxs Δ1 Γ0 (tAll tTop C)).length (Δ.map (fun a => a.1)) t) (he : TE (cxs Δ1 Γ0 (tAll tTop C)) Δ) (hΔ : Δ = []) (m3 : 3 ≤ mch t) (ch : CHo f t []) (hz : znv xe0 xe1 o (tch C) (cch Γ0) (cch Δ1) = true) (ho : (∀ b ∈ Γ0, nsch b = true ∨ (o = true ∧ tch b ≤ tch C + 5)) ∧ ∀ b ∈ Δ1, nsch b = true ∨ (o = true ∧ tch b ≤ tch C + 5)) (hb : cch (cxs Δ1 Γ0 (tAll tTop C)) + dch Δ + 2 * mch t ≤ 58) (h20 : 20 ≤ cch (cxs Δ1 Γ0 (tAll tTop C))) (h49 : cch (cxs Δ1 Γ0 (tAll tTop C)) ≤ 47) : NtV (cxs Δ1 Γ0 (tAll tTop C)) Δ f t 887 597 := by sorry
theorem nat_b (w : TWf f (cxs Δ1 Γ0 (tAll tTop C)).length (Δ.map (fun a => a.1)) t) (he : TE (cxs Δ1 Γ0 (tAll tTop C)) Δ) (hΔ : Δ ≠ []) (m6 : 6 ≤ mch t) (co : COk f t 0) (hz : (tch C, cch Γ0, cch Δ1) ∈ (if o then tb1 else tb0)) (ho : (∀ b ∈ Γ0, nsch b = true ∨ (o = true ∧ tch b ≤ tch C + 5)) ∧ ∀ b ∈ Δ1, nsch b = true ∨ (o = true ∧ tch b ≤ tch C + 5)) (hb : cch (cxs Δ1 Γ0 (tAll tTop C)) + dch Δ + 2 * mch t ≤ 58) (h20 : 20 ≤ cch (cxs Δ1 Γ0 (tAll tTop C))) (h49 : cch (cxs Δ1 Γ0 (tAll tTop C)) ≤ 47) : NtV (cxs Δ1 Γ0 (tAll tTop C)) Δ f t 887 597 := by sorry
theorem nat_wa (w : TWf f (cxs Δ1 Γ0 (tAll tTop C)).length (Δ.map (fun a => a.1)) t) (he : TE (cxs Δ1 Γ0 (tAll tTop C)) Δ) (hΔ : Δ ≠ []) (m3 : 3 ≤ mch t) (m5 : mch t < 6) (co : COk f t 0) (hp : phf (fun _ => true) C = true) (kd : kdt C = 1 ∨ kdt C = 4) (hz : (tch C, cch Γ0, cch Δ1) ∈ (if o then twa1 else twa0)) (ho : (∀ b ∈ Γ0, nsch b = true ∨ (o = true ∧ tch b ≤ tch C + 5)) ∧ ∀ b ∈ Δ1, nsch b = true ∨ (o = true ∧ tch b ≤ tch C + 5)) (hb : cch (cxs Δ1 Γ0 (tAll tTop C)) + dch Δ + 2 * mch t ≤ 58) (h20 : 20 ≤ cch (cxs Δ1 Γ0 (tAll tTop C))) (h49 : cch (cxs Δ1 Γ0 (tAll tTop C)) ≤ 47) : NtV (cxs Δ1 Γ0 (tAll tTop C)) Δ f t 887 597 := by sorry
theorem nat_wc (w : TWf f (cxs Δ1 Γ0 (tAll tTop C)).length (Δ.map (fun a => a.1)) t) (he : TE (cxs Δ1 Γ0 (tAll tTop C)) Δ) (hΔ : Δ ≠ []) (m6 : 6 ≤ mch t) (ch : CHo f t []) (hp : phf (fun _ => true) C = true) (kd : kdt C = 1 ∨ kdt C = 4) (hz : (tch C, cch Γ0, cch Δ1) ∈ (if o then twc1 else twc0)) (ho : (∀ b ∈ Γ0, nsch b = true ∨ (o = true ∧ tch b ≤ tch C + 5)) ∧ ∀ b ∈ Δ1, nsch b = true ∨ (o = true ∧ tch b ≤ tch C + 5)) (hb : cch (cxs Δ1 Γ0 (tAll tTop C)) + dch Δ + 2 * mch t ≤ 58) (h20 : 20 ≤ cch (cxs Δ1 Γ0 (tAll tTop C))) (h49 : cch (cxs Δ1 Γ0 (tAll tTop C)) ≤ 47) : NtV (cxs Δ1 Γ0 (tAll tTop C)) Δ f t 887 597 := by sorry
theorem nat_we (w : TWf f (cxs Δ1 Γ0 (tAll tTop C)).length (Δ.map (fun a => a.1)) t) (he : TE (cxs Δ1 Γ0 (tAll tTop C)) Δ) (hΔ : Δ = []) (m3 : 3 ≤ mch t) (ch : CHo f t []) (hp : phf (fun _ => true) C = true) (kd : kdt C = 1 ∨ kdt C = 4) (hz : (tch C, cch Γ0, cch Δ1) ∈ (if o then twe1 else twe0)) (ho : (∀ b ∈ Γ0, nsch b = true ∨ (o = true ∧ tch b ≤ tch C + 5)) ∧ ∀ b ∈ Δ1, nsch b = true ∨ (o = true ∧ tch b ≤ tch C + 5)) (hb : cch (cxs Δ1 Γ0 (tAll tTop C)) + dch Δ + 2 * mch t ≤ 58) (h20 : 20 ≤ cch (cxs Δ1 Γ0 (tAll tTop C))) (h49 : cch (cxs Δ1 Γ0 (tAll tTop C)) ≤ 47) : NtV (cxs Δ1 Γ0 (tAll tTop C)) Δ f t 887 597 := by sorry
theorem nat_va (w : TWf f (cxs Δ1 Γ0 (tAll tTop C)).length (Δ.map (fun a => a.1)) t) (he : TE (cxs Δ1 Γ0 (tAll tTop C)) Δ) (hΔ : Δ ≠ []) (m3 : 3 ≤ mch t) (m5 : mch t < 6) (co : COk f t 0) (hp : phf (fun _ => true) C = true) (hz : (tch C, cch Γ0, cch Δ1) ∈ (if o then tva1 else tva0)) (ho : (∀ b ∈ Γ0, nsch b = true ∨ (o = true ∧ tch b ≤ tch C + 5)) ∧ ∀ b ∈ Δ1, nsch b = true ∨ (o = true ∧ tch b ≤ tch C + 5)) (hb : cch (cxs Δ1 Γ0 (tAll tTop C)) + dch Δ + 2 * mch t ≤ 58) (h20 : 20 ≤ cch (cxs Δ1 Γ0 (tAll tTop C))) (h49 : cch (cxs Δ1 Γ0 (tAll tTop C)) ≤ 47) : NtV (cxs Δ1 Γ0 (tAll tTop C)) Δ f t 887 597 := by sorry
theorem nat_vc (w : TWf f (cxs Δ1 Γ0 (tAll tTop C)).length (Δ.map (fun a => a.1)) t) (he : TE (cxs Δ1 Γ0 (tAll tTop C)) Δ) (hΔ : Δ ≠ []) (m6 : 6 ≤ mch t) (ch : CHo f t []) (hp : phf (fun _ => true) C = true) (hz : (tch C, cch Γ0, cch Δ1) ∈ (if o then tvc1 else tvc0)) (ho : (∀ b ∈ Γ0, nsch b = true ∨ (o = true ∧ tch b ≤ tch C + 5)) ∧ ∀ b ∈ Δ1, nsch b = true ∨ (o = true ∧ tch b ≤ tch C + 5)) (hb : cch (cxs Δ1 Γ0 (tAll tTop C)) + dch Δ + 2 * mch t ≤ 58) (h20 : 20 ≤ cch (cxs Δ1 Γ0 (tAll tTop C))) (h49 : cch (cxs Δ1 Γ0 (tAll tTop C)) ≤ 47) : NtV (cxs Δ1 Γ0 (tAll tTop C)) Δ f t 887 597 := by sorry
theorem nat_ve (w : TWf f (cxs Δ1 Γ0 (tAll tTop C)).length (Δ.map (fun a => a.1)) t) (he : TE (cxs Δ1 Γ0 (tAll tTop C)) Δ) (hΔ : Δ = []) (m3 : 3 ≤ mch t) (ch : CHo f t []) (hp : phf (fun _ => true) C = true) (hz : (tch C, cch Γ0, cch Δ1) ∈ (if o then tve1 else tve0)) (ho : (∀ b ∈ Γ0, nsch b = true ∨ (o = true ∧ tch b ≤ tch C + 5)) ∧ ∀ b ∈ Δ1, nsch b = true ∨ (o = true ∧ tch b ≤ tch C + 5)) (hb : cch (cxs Δ1 Γ0 (tAll tTop C)) + dch Δ + 2 * mch t ≤ 58) (h20 : 20 ≤ cch (cxs Δ1 Γ0 (tAll tTop C))) (h49 : cch (cxs Δ1 Γ0 (tAll tTop C)) ≤ 47) : NtV (cxs Δ1 Γ0 (tAll tTop C)) Δ f t 887 597 := by sorry
theorem nat_za (w : TWf f (cxs Δ1 Γ0 (tAll tTop C)).length (Δ.map (fun a => a.1)) t) (he : TE (cxs Δ1 Γ0 (tAll tTop C)) Δ) (hΔ : Δ ≠ []) (m3 : 3 ≤ mch t) (m5 : mch t < 6) (co : COk f t 0) (hfl : ∃ b ∈ Δ1, noh 0 b = false) (hz : (tch C, cch Γ0, cch Δ1) ∈ (if o then tza1 else tza0)) (ho : (∀ b ∈ Γ0, nsch b = true ∨ (o = true ∧ tch b ≤ tch C + 5)) ∧ ∀ b ∈ Δ1, nsch b = true ∨ (o = true ∧ tch b ≤ tch C + 5)) (hb : cch (cxs Δ1 Γ0 (tAll tTop C)) + dch Δ + 2 * mch t ≤ 58) (h20 : 20 ≤ cch (cxs Δ1 Γ0 (tAll tTop C))) (h49 : cch (cxs Δ1 Γ0 (tAll tTop C)) ≤ 47) : NtV (cxs Δ1 Γ0 (tAll tTop C)) Δ f t 887 597 := by sorry
theorem nat_zb (w : TWf f (cxs Δ1 Γ0 (tAll tTop C)).length (Δ.map (fun a => a.1)) t) (he : TE (cxs Δ1 Γ0 (tAll tTop C)) Δ) (hΔ : Δ ≠ []) (m6 : 6 ≤ mch t) (co : COk f t 0) (hfl : ∃ b ∈ Δ1, noh 0 b = false) (hz : (tch C, cch Γ0, cch Δ1) ∈ (if o then tzb1 else tzb0)) (ho : (∀ b ∈ Γ0, nsch b = true ∨ (o = true ∧ tch b ≤ tch C + 5)) ∧ ∀ b ∈ Δ1, nsch b = true ∨ (o = true ∧ tch b ≤ tch C + 5)) (hb : cch (cxs Δ1 Γ0 (tAll tTop C)) + dch Δ + 2 * mch t ≤ 58) (h20 : 20 ≤ cch (cxs Δ1 Γ0 (tAll tTop C))) (h49 : cch (cxs Δ1 Γ0 (tAll tTop C)) ≤ 47) : NtV (cxs Δ1 Γ0 (tAll tTop C)) Δ f t 887 597 := by sorry
theorem nat_zc (w : TWf f (cxs Δ1 Γ0 (tAll tTop C)).length (Δ.map (fun a => a.1)) t) (he : TE (cxs Δ1 Γ0 (tAll tTop C)) Δ) (hΔ : Δ ≠ []) (m6 : 6 ≤ mch t) (ch : CHo f t []) (hfl : ∃ b ∈ Δ1, noh 0 b = false) (hz : (tch C, cch Γ0, cch Δ1) ∈ (if o then tzc1 else tzc0)) (ho : (∀ b ∈ Γ0, nsch b = true ∨ (o = true ∧ tch b ≤ tch C + 5)) ∧ ∀ b ∈ Δ1, nsch b = true ∨ (o = true ∧ tch b ≤ tch C + 5)) (hb : cch (cxs Δ1 Γ0 (tAll tTop C)) + dch Δ + 2 * mch t ≤ 58) (h20 : 20 ≤ cch (cxs Δ1 Γ0 (tAll tTop C))) (h49 : cch (cxs Δ1 Γ0 (tAll tTop C)) ≤ 47) : NtV (cxs Δ1 Γ0 (tAll tTop C)) Δ f t 887 597 := by sorry
theorem nat_ze (w : TWf f (cxs Δ1 Γ0 (tAll tTop C)).length (Δ.map (fun a => a.1)) t) (he : TE (cxs Δ1 Γ0 (tAll tTop C)) Δ) (hΔ : Δ = []) (m3 : 3 ≤ mch t) (ch : CHo f t []) (hfl : ∃ b ∈ Δ1, noh 0 b = false) (hz : (tch C, cch Γ0, cch Δ1) ∈ (if o then tze1 else tze0)) (ho : (∀ b ∈ Γ0, nsch b = true ∨ (o = true ∧ tch b ≤ tch C + 5)) ∧ ∀ b ∈ Δ1, nsch b = true ∨ (o = true ∧ tch b ≤ tch C + 5)) (hb : cch (cxs Δ1 Γ0 (tAll tTop C)) + dch Δ + 2 * mch t ≤ 58) (h20 : 20 ≤ cch (cxs Δ1 Γ0 (tAll tTop C))) (h49 : cch (cxs Δ1 Γ0 (tAll tTop C)) ≤ 47) : NtV (cxs Δ1 Γ0 (tAll tTop C)) Δ f t 887 597 := by sorry
end PmY9

end
section
-- from 99y12
def yvb1 : LnT := [[], [], [], [], [], [], [], [], [], [], [], [], [], [], [], [], [], [], [], [], [], [], [], [], [], [], [], [], [], [], [], [(35, 0, 31, 5, 0, 22)], [(41, 0, 37, 6, 0, 23)], [(45, 0, 41, 6, 0, 24)], [(45, 0, 41, 6, 0, 25)], [], [], [(38, 0, 31, 5, 1, 22)], [], [(65, 0, 41, 6, 2, 25)], [(73, 0, 31, 5, 2, 22)], [(85, 0, 37, 6, 2, 23), (54, 0, 49, 9, 1, 27)], [], [], [], [], [], []]
def yvbq : LnT := [[], [], [], [], [], [], [], [], [], [], [], [], [], [], [], [], [], [], [], [], [], [], [], [], [], [], [], [], [], [], [], [(19, 0, 18, 5, 0, 22)], [(20, 0, 19, 6, 0, 23)], [(25, 0, 24, 6, 0, 24)], [(28, 0, 27, 6, 0, 25)], [], [], [(20, 0, 18, 5, 1, 22)], [], [(39, 0, 27, 6, 2, 25)], [(39, 0, 18, 5, 2, 22)], [(41, 0, 30, 9, 2, 27)], [], [], [], [], [], []]
def tvb0 : List (Nat × Nat × Nat) := [(21, 0, 9), (22, 0, 0), (22, 0, 6), (22, 0, 9), (22, 0, 10), (23, 0, 0), (23, 0, 9), (24, 0, 0), (25, 0, 0), (25, 0, 5), (25, 5, 0), (27, 0, 5), (27, 5, 0)]
def tvb1 : List (Nat × Nat × Nat) := [(21, 0, 9), (22, 0, 0), (22, 0, 6), (22, 0, 9), (22, 0, 10), (23, 0, 0), (23, 0, 9), (24, 0, 0), (25, 0, 0), (25, 0, 5), (25, 5, 0), (27, 0, 5), (27, 5, 0)]
theorem yvb1_k : lnkb yvb1 = true := by sorry
theorem yvb1_w : lnw yvb1 2 = true := by sorry
theorem yvbq_k : lnkb yvbq = true := by sorry
theorem yvbq_w : lnw yvbq 1 = true := by sorry
theorem yvb1_z0 : lny yvb1 xfa1 fg1 fx1 1 3 2 false tvb0 = true := by sorry
theorem yvb1_z1 : lny yvb1 xfa1 fg1 fx1 1 3 2 true tvb1 = true := by sorry
theorem yvb1_z {o : Bool} {k q1 q2 : Nat} (h : (k, q1, q2) ∈ (if o then tvb1 else tvb0)) : lnz yvb1 xfa1 fg1 fx1 1 3 2 k q1 q2 (zow o k q1 q2) = true := by sorry
theorem yvbq_z0 : lny yvbq xfaq fgq fxq 0 1 1 false tvb0 = true := by sorry
theorem yvbq_z1 : lny yvbq xfaq fgq fxq 0 1 1 true tvb1 = true := by sorry
theorem yvbq_z {o : Bool} {k q1 q2 : Nat} (h : (k, q1, q2) ∈ (if o then tvb1 else tvb0)) : lnz yvbq xfaq fgq fxq 0 1 1 k q1 q2 (zow o k q1 q2) = true := by sorry
theorem yvb1_d20 : lne false false yvb1 fr1 fg1 1 2 3 2 2 2 2 2 887 20 33 6 20 = true := by sorry
theorem yvb1_d33 : lne false false yvb1 fr1 fg1 1 2 3 2 2 2 2 2 887 33 37 6 20 = true := by sorry
theorem yvb1_d37 : lne false false yvb1 fr1 fg1 1 2 3 2 2 2 2 2 887 37 42 6 20 = true := by sorry
theorem yvb1_d42 : lne false false yvb1 fr1 fg1 1 2 3 2 2 2 2 2 887 42 48 6 20 = true := by sorry
theorem yvb1_all {c m : Nat} (m6 : 6 ≤ m) (h20 : 20 ≤ c) (h47 : c ≤ 47) (hc : c + 2 * m ≤ 58) {s : T6} (hs : s ∈ lng yvb1 c) : (false = false → 5 ≤ 58 - 2 * m - c → dpD false fr1 fg1 0 1 2 3 2 2 2 2 s.2.2.1 s.2.2.2.1 2 s.2.2.2.2.1 s.2.2.2.2.2 s.1 (58 - 2 * m - c) m ≤ 887) ∧ (false = true → dpD false fr1 fg1 5 1 2 3 2 2 2 2 s.2.2.1 s.2.2.2.1 2 s.2.2.2.2.1 s.2.2.2.2.2 s.1 0 m ≤ 887) := by sorry
theorem yvbq_d20 : lne false false yvbq frq fgq 0 1 1 1 3 2 1 1 597 20 33 6 20 = true := by sorry
theorem yvbq_d33 : lne false false yvbq frq fgq 0 1 1 1 3 2 1 1 597 33 37 6 20 = true := by sorry
theorem yvbq_d37 : lne false false yvbq frq fgq 0 1 1 1 3 2 1 1 597 37 42 6 20 = true := by sorry
theorem yvbq_d42 : lne false false yvbq frq fgq 0 1 1 1 3 2 1 1 597 42 48 6 20 = true := by sorry
theorem yvbq_all {c m : Nat} (m6 : 6 ≤ m) (h20 : 20 ≤ c) (h47 : c ≤ 47) (hc : c + 2 * m ≤ 58) {s : T6} (hs : s ∈ lng yvbq c) : (false = false → 5 ≤ 58 - 2 * m - c → dpD false frq fgq 0 0 1 1 1 3 2 1 s.2.2.1 s.2.2.2.1 1 s.2.2.2.2.1 s.2.2.2.2.2 s.1 (58 - 2 * m - c) m ≤ 597) ∧ (false = true → dpD false frq fgq 5 0 1 1 1 3 2 1 s.2.2.1 s.2.2.2.1 1 s.2.2.2.2.1 s.2.2.2.2.2 s.1 0 m ≤ 597) := by sorry
def yd1 : LnT := [[], [], [], [], [], [], [], [], [], [], [], [], [], [], [], [], [], [], [], [], [], [], [], [], [], [], [], [], [], [], [], [], [], [], [], [], [], [], [], [], [], [(109, 0, 43, 7, 2, 23), (101, 0, 29, 8, 2, 23), (91, 0, 22, 9, 2, 23)], [], [], [], [], [], []]
def ydq : LnT := [[], [], [], [], [], [], [], [], [], [], [], [], [], [], [], [], [], [], [], [], [], [], [], [], [], [], [], [], [], [], [], [], [], [], [], [], [], [], [], [], [], [(69, 0, 33, 8, 2, 23), (39, 0, 9, 9, 2, 23)], [], [], [], [], [], []]
def td0 : List (Nat × Nat × Nat) := [(23, 0, 9)]
def td1 : List (Nat × Nat × Nat) := [(23, 0, 9)]
theorem yd1_k : lnkb yd1 = true := by sorry
theorem yd1_w : lnw yd1 2 = true := by sorry
theorem ydq_k : lnkb ydq = true := by sorry
theorem ydq_w : lnw ydq 1 = true := by sorry
theorem yd1_z0 : lny yd1 xr1 fg1 fx1 1 3 2 false td0 = true := by sorry
theorem yd1_z1 : lny yd1 xr1 fg1 fx1 1 3 2 true td1 = true := by sorry
theorem yd1_z {o : Bool} {k q1 q2 : Nat} (h : (k, q1, q2) ∈ (if o then td1 else td0)) : lnz yd1 xr1 fg1 fx1 1 3 2 k q1 q2 (zow o k q1 q2) = true := by sorry
theorem ydq_z0 : lny ydq xrq fgq fxq 0 1 1 false td0 = true := by sorry
theorem ydq_z1 : lny ydq xrq fgq fxq 0 1 1 true td1 = true := by sorry
theorem ydq_z {o : Bool} {k q1 q2 : Nat} (h : (k, q1, q2) ∈ (if o then td1 else td0)) : lnz ydq xrq fgq fxq 0 1 1 k q1 q2 (zow o k q1 q2) = true := by sorry
theorem yd1_d20 : lne false false yd1 fr1 fg1 1 2 3 2 2 2 2 2 887 20 33 3 5 = true := by sorry
theorem yd1_d33 : lne false false yd1 fr1 fg1 1 2 3 2 2 2 2 2 887 33 37 3 5 = true := by sorry
theorem yd1_d37 : lne false false yd1 fr1 fg1 1 2 3 2 2 2 2 2 887 37 42 3 5 = true := by sorry
theorem yd1_d42 : lne false false yd1 fr1 fg1 1 2 3 2 2 2 2 2 887 42 48 3 5 = true := by sorry
theorem yd1_all {c m : Nat} (m3 : 3 ≤ m) (m5 : m < 5) (h20 : 20 ≤ c) (h47 : c ≤ 47) (hc : c + 2 * m ≤ 58) {s : T6} (hs : s ∈ lng yd1 c) : (false = false → 5 ≤ 58 - 2 * m - c → dpD false fr1 fg1 0 1 2 3 2 2 2 2 s.2.2.1 s.2.2.2.1 2 s.2.2.2.2.1 s.2.2.2.2.2 s.1 (58 - 2 * m - c) m ≤ 887) ∧ (false = true → dpD false fr1 fg1 5 1 2 3 2 2 2 2 s.2.2.1 s.2.2.2.1 2 s.2.2.2.2.1 s.2.2.2.2.2 s.1 0 m ≤ 887) := by sorry
theorem ydq_d20 : lne false false ydq frq fgq 0 1 1 1 3 2 1 1 597 20 33 3 5 = true := by sorry
theorem ydq_d33 : lne false false ydq frq fgq 0 1 1 1 3 2 1 1 597 33 37 3 5 = true := by sorry
theorem ydq_d37 : lne false false ydq frq fgq 0 1 1 1 3 2 1 1 597 37 42 3 5 = true := by sorry
theorem ydq_d42 : lne false false ydq frq fgq 0 1 1 1 3 2 1 1 597 42 48 3 5 = true := by sorry
theorem ydq_all {c m : Nat} (m3 : 3 ≤ m) (m5 : m < 5) (h20 : 20 ≤ c) (h47 : c ≤ 47) (hc : c + 2 * m ≤ 58) {s : T6} (hs : s ∈ lng ydq c) : (false = false → 5 ≤ 58 - 2 * m - c → dpD false frq fgq 0 0 1 1 1 3 2 1 s.2.2.1 s.2.2.2.1 1 s.2.2.2.2.1 s.2.2.2.2.2 s.1 (58 - 2 * m - c) m ≤ 597) ∧ (false = true → dpD false frq fgq 5 0 1 1 1 3 2 1 s.2.2.1 s.2.2.2.1 1 s.2.2.2.2.1 s.2.2.2.2.2 s.1 0 m ≤ 597) := by sorry
def yg1 : LnT := [[], [], [], [], [], [], [], [], [], [], [], [], [], [], [], [], [], [], [], [], [], [], [], [], [], [], [], [(32, 0, 23, 6, 0, 18)], [(37, 0, 29, 6, 0, 19)], [], [], [(44, 0, 34, 9, 0, 22)], [(53, 0, 43, 9, 0, 23)], [(53, 0, 45, 9, 0, 24)], [(53, 0, 45, 9, 0, 25)], [(59, 0, 49, 12, 0, 26)], [(71, 0, 58, 12, 2, 27)], [(77, 0, 67, 12, 0, 28)], [(77, 0, 67, 12, 0, 29)], [(83, 0, 67, 16, 0, 30)], [(98, 0, 79, 18, 2, 31)], [(113, 0, 97, 18, 2, 32)], [(113, 0, 97, 18, 2, 33)], [], [], [], [], []]
def ygq : LnT := [[], [], [], [], [], [], [], [], [], [], [], [], [], [], [], [], [], [], [], [], [], [], [], [], [], [], [], [(18, 0, 17, 6, 0, 18)], [(23, 0, 22, 6, 0, 19)], [], [], [(29, 0, 28, 9, 0, 22)], [(34, 0, 33, 9, 0, 23)], [(34, 0, 33, 9, 0, 24)], [(35, 0, 34, 9, 0, 25)], [(43, 0, 42, 12, 0, 26)], [(45, 0, 44, 12, 2, 27)], [(47, 0, 46, 12, 0, 28)], [(52, 0, 51, 12, 0, 29)], [(57, 0, 56, 16, 0, 30)], [(59, 0, 58, 18, 2, 31)], [(70, 0, 69, 18, 2, 32)], [(76, 0, 75, 18, 2, 33)], [], [], [], [], []]
def tg0 : List (Nat × Nat × Nat) := [(18, 0, 0), (18, 0, 9), (19, 0, 0), (22, 0, 0), (22, 0, 5), (22, 0, 9), (22, 0, 10), (22, 0, 11), (22, 5, 0), (23, 0, 0), (23, 0, 9), (23, 0, 10), (24, 0, 0), (24, 0, 9), (25, 0, 0), (26, 0, 0), (27, 0, 0), (27, 0, 5), (27, 0, 6), (27, 5, 0), (27, 6, 0), (28, 0, 0), (28, 0, 5), (28, 5, 0), (29, 0, 0), (30, 0, 0), (31, 0, 0), (32, 0, 0), (33, 0, 0)]
def tg1 : List (Nat × Nat × Nat) := [(18, 0, 0), (18, 0, 9), (19, 0, 0), (22, 0, 0), (22, 0, 5), (22, 0, 9), (22, 0, 10), (22, 0, 11), (22, 5, 0), (23, 0, 0), (23, 0, 9), (23, 0, 10), (24, 0, 0), (24, 0, 9), (25, 0, 0), (26, 0, 0), (27, 0, 0), (27, 0, 5), (27, 0, 6), (27, 5, 0), (27, 6, 0), (28, 0, 0), (28, 0, 5), (28, 5, 0), (29, 0, 0), (30, 0, 0), (31, 0, 0), (32, 0, 0), (33, 0, 0)]
theorem yg1_k : lnkb yg1 = true := by sorry
theorem yg1_w : lnw yg1 2 = true := by sorry
theorem ygq_k : lnkb ygq = true := by sorry
theorem ygq_w : lnw ygq 1 = true := by sorry
theorem yg1_z0 : lny yg1 xr1 fg1 fx1 1 3 2 false tg0 = true := by sorry
theorem yg1_z1 : lny yg1 xr1 fg1 fx1 1 3 2 true tg1 = true := by sorry
theorem yg1_z {o : Bool} {k q1 q2 : Nat} (h : (k, q1, q2) ∈ (if o then tg1 else tg0)) : lnz yg1 xr1 fg1 fx1 1 3 2 k q1 q2 (zow o k q1 q2) = true := by sorry
theorem ygq_z0 : lny ygq xrq fgq fxq 0 1 1 false tg0 = true := by sorry
theorem ygq_z1 : lny ygq xrq fgq fxq 0 1 1 true tg1 = true := by sorry
theorem ygq_z {o : Bool} {k q1 q2 : Nat} (h : (k, q1, q2) ∈ (if o then tg1 else tg0)) : lnz ygq xrq fgq fxq 0 1 1 k q1 q2 (zow o k q1 q2) = true := by sorry
theorem yg1_d20 : lne true true yg1 fr1 fg1 1 2 3 2 2 2 2 2 887 20 33 3 8 = true := by sorry
theorem yg1_d33 : lne true true yg1 fr1 fg1 1 2 3 2 2 2 2 2 887 33 37 3 8 = true := by sorry
theorem yg1_d37 : lne true true yg1 fr1 fg1 1 2 3 2 2 2 2 2 887 37 42 3 8 = true := by sorry
theorem yg1_d42 : lne true true yg1 fr1 fg1 1 2 3 2 2 2 2 2 887 42 48 3 8 = true := by sorry
theorem yg1_all {c m : Nat} (m3 : 3 ≤ m) (m5 : m < 8) (h20 : 20 ≤ c) (h47 : c ≤ 47) (hc : c + 2 * m ≤ 58) {s : T6} (hs : s ∈ lng yg1 c) : (true = false → 5 ≤ 58 - 2 * m - c → dpD true fr1 fg1 0 1 2 3 2 2 2 2 s.2.2.1 s.2.2.2.1 2 s.2.2.2.2.1 s.2.2.2.2.2 s.1 (58 - 2 * m - c) m ≤ 887) ∧ (true = true → dpD true fr1 fg1 5 1 2 3 2 2 2 2 s.2.2.1 s.2.2.2.1 2 s.2.2.2.2.1 s.2.2.2.2.2 s.1 0 m ≤ 887) := by sorry
theorem ygq_d20 : lne true true ygq frq fgq 0 1 1 1 3 2 1 1 597 20 33 3 8 = true := by sorry
theorem ygq_d33 : lne true true ygq frq fgq 0 1 1 1 3 2 1 1 597 33 37 3 8 = true := by sorry
theorem ygq_d37 : lne true true ygq frq fgq 0 1 1 1 3 2 1 1 597 37 42 3 8 = true := by sorry
theorem ygq_d42 : lne true true ygq frq fgq 0 1 1 1 3 2 1 1 597 42 48 3 8 = true := by sorry
theorem ygq_all {c m : Nat} (m3 : 3 ≤ m) (m5 : m < 8) (h20 : 20 ≤ c) (h47 : c ≤ 47) (hc : c + 2 * m ≤ 58) {s : T6} (hs : s ∈ lng ygq c) : (true = false → 5 ≤ 58 - 2 * m - c → dpD true frq fgq 0 0 1 1 1 3 2 1 s.2.2.1 s.2.2.2.1 1 s.2.2.2.2.1 s.2.2.2.2.2 s.1 (58 - 2 * m - c) m ≤ 597) ∧ (true = true → dpD true frq fgq 5 0 1 1 1 3 2 1 s.2.2.1 s.2.2.2.1 1 s.2.2.2.2.1 s.2.2.2.2.2 s.1 0 m ≤ 597) := by sorry
def yh1 : LnT := [[], [], [], [], [], [], [], [], [], [], [], [], [], [], [], [], [], [], [], [], [], [], [], [], [], [], [], [], [], [], [], [], [], [], [], [], [(67, 0, 23, 6, 2, 18)], [], [], [], [], [], [], [], [], [], [], []]
def yhq : LnT := [[], [], [], [], [], [], [], [], [], [], [], [], [], [], [], [], [], [], [], [], [], [], [], [], [], [], [], [], [], [], [], [], [], [], [], [], [(37, 0, 17, 6, 2, 18)], [], [], [], [], [], [], [], [], [], [], []]
def th0 : List (Nat × Nat × Nat) := [(18, 0, 9)]
def th1 : List (Nat × Nat × Nat) := [(18, 0, 9)]
theorem yh1_k : lnkb yh1 = true := by sorry
theorem yh1_w : lnw yh1 2 = true := by sorry
theorem yhq_k : lnkb yhq = true := by sorry
theorem yhq_w : lnw yhq 1 = true := by sorry
theorem yh1_z0 : lny yh1 xr1 fg1 fx1 1 3 2 false th0 = true := by sorry
theorem yh1_z1 : lny yh1 xr1 fg1 fx1 1 3 2 true th1 = true := by sorry
theorem yh1_z {o : Bool} {k q1 q2 : Nat} (h : (k, q1, q2) ∈ (if o then th1 else th0)) : lnz yh1 xr1 fg1 fx1 1 3 2 k q1 q2 (zow o k q1 q2) = true := by sorry
theorem yhq_z0 : lny yhq xrq fgq fxq 0 1 1 false th0 = true := by sorry
theorem yhq_z1 : lny yhq xrq fgq fxq 0 1 1 true th1 = true := by sorry
theorem yhq_z {o : Bool} {k q1 q2 : Nat} (h : (k, q1, q2) ∈ (if o then th1 else th0)) : lnz yhq xrq fgq fxq 0 1 1 k q1 q2 (zow o k q1 q2) = true := by sorry
theorem yh1_d20 : lne true true yh1 fr1 fg1 1 2 3 2 2 2 2 2 887 20 33 8 11 = true := by sorry
theorem yh1_d33 : lne true true yh1 fr1 fg1 1 2 3 2 2 2 2 2 887 33 37 8 11 = true := by sorry
theorem yh1_d37 : lne true true yh1 fr1 fg1 1 2 3 2 2 2 2 2 887 37 42 8 11 = true := by sorry
theorem yh1_d42 : lne true true yh1 fr1 fg1 1 2 3 2 2 2 2 2 887 42 48 8 11 = true := by sorry
theorem yh1_all {c m : Nat} (m3 : 8 ≤ m) (m5 : m < 11) (h20 : 20 ≤ c) (h47 : c ≤ 47) (hc : c + 2 * m ≤ 58) {s : T6} (hs : s ∈ lng yh1 c) : (true = false → 5 ≤ 58 - 2 * m - c → dpD true fr1 fg1 0 1 2 3 2 2 2 2 s.2.2.1 s.2.2.2.1 2 s.2.2.2.2.1 s.2.2.2.2.2 s.1 (58 - 2 * m - c) m ≤ 887) ∧ (true = true → dpD true fr1 fg1 5 1 2 3 2 2 2 2 s.2.2.1 s.2.2.2.1 2 s.2.2.2.2.1 s.2.2.2.2.2 s.1 0 m ≤ 887) := by sorry
theorem yhq_d20 : lne true true yhq frq fgq 0 1 1 1 3 2 1 1 597 20 33 8 11 = true := by sorry
theorem yhq_d33 : lne true true yhq frq fgq 0 1 1 1 3 2 1 1 597 33 37 8 11 = true := by sorry
theorem yhq_d37 : lne true true yhq frq fgq 0 1 1 1 3 2 1 1 597 37 42 8 11 = true := by sorry
theorem yhq_d42 : lne true true yhq frq fgq 0 1 1 1 3 2 1 1 597 42 48 8 11 = true := by sorry
theorem yhq_all {c m : Nat} (m3 : 8 ≤ m) (m5 : m < 11) (h20 : 20 ≤ c) (h47 : c ≤ 47) (hc : c + 2 * m ≤ 58) {s : T6} (hs : s ∈ lng yhq c) : (true = false → 5 ≤ 58 - 2 * m - c → dpD true frq fgq 0 0 1 1 1 3 2 1 s.2.2.1 s.2.2.2.1 1 s.2.2.2.2.1 s.2.2.2.2.2 s.1 (58 - 2 * m - c) m ≤ 597) ∧ (true = true → dpD true frq fgq 5 0 1 1 1 3 2 1 s.2.2.1 s.2.2.2.1 1 s.2.2.2.2.1 s.2.2.2.2.2 s.1 0 m ≤ 597) := by sorry
def yi1 : LnT := [[], [], [], [], [], [], [], [], [], [], [], [], [], [], [], [], [], [], [], [], [], [], [], [], [], [], [], [], [], [], [], [], [], [], [], [], [], [(77, 0, 29, 5, 2, 19), (67, 0, 16, 6, 2, 19)], [], [], [], [], [], [], [], [], [], []]
def yiq : LnT := [[], [], [], [], [], [], [], [], [], [], [], [], [], [], [], [], [], [], [], [], [], [], [], [], [], [], [], [], [], [], [], [], [], [], [], [], [], [(47, 0, 22, 5, 2, 19), (27, 0, 6, 6, 2, 19)], [], [], [], [], [], [], [], [], [], []]
def ti0 : List (Nat × Nat × Nat) := [(19, 0, 9)]
def ti1 : List (Nat × Nat × Nat) := [(19, 0, 9)]
theorem yi1_k : lnkb yi1 = true := by sorry
theorem yi1_w : lnw yi1 2 = true := by sorry
theorem yiq_k : lnkb yiq = true := by sorry
theorem yiq_w : lnw yiq 1 = true := by sorry
theorem yi1_z0 : lny yi1 xr1 fg1 fx1 1 3 2 false ti0 = true := by sorry
theorem yi1_z1 : lny yi1 xr1 fg1 fx1 1 3 2 true ti1 = true := by sorry
theorem yi1_z {o : Bool} {k q1 q2 : Nat} (h : (k, q1, q2) ∈ (if o then ti1 else ti0)) : lnz yi1 xr1 fg1 fx1 1 3 2 k q1 q2 (zow o k q1 q2) = true := by sorry
theorem yiq_z0 : lny yiq xrq fgq fxq 0 1 1 false ti0 = true := by sorry
theorem yiq_z1 : lny yiq xrq fgq fxq 0 1 1 true ti1 = true := by sorry
theorem yiq_z {o : Bool} {k q1 q2 : Nat} (h : (k, q1, q2) ∈ (if o then ti1 else ti0)) : lnz yiq xrq fgq fxq 0 1 1 k q1 q2 (zow o k q1 q2) = true := by sorry
theorem yi1_d20 : lne true false yi1 fr1 fg1 1 2 3 2 2 2 2 2 887 20 33 6 8 = true := by sorry
theorem yi1_d33 : lne true false yi1 fr1 fg1 1 2 3 2 2 2 2 2 887 33 37 6 8 = true := by sorry
theorem yi1_d37 : lne true false yi1 fr1 fg1 1 2 3 2 2 2 2 2 887 37 42 6 8 = true := by sorry
theorem yi1_d42 : lne true false yi1 fr1 fg1 1 2 3 2 2 2 2 2 887 42 48 6 8 = true := by sorry
theorem yi1_all {c m : Nat} (m3 : 6 ≤ m) (m5 : m < 8) (h20 : 20 ≤ c) (h47 : c ≤ 47) (hc : c + 2 * m ≤ 58) {s : T6} (hs : s ∈ lng yi1 c) : (false = false → 5 ≤ 58 - 2 * m - c → dpD true fr1 fg1 0 1 2 3 2 2 2 2 s.2.2.1 s.2.2.2.1 2 s.2.2.2.2.1 s.2.2.2.2.2 s.1 (58 - 2 * m - c) m ≤ 887) ∧ (false = true → dpD true fr1 fg1 5 1 2 3 2 2 2 2 s.2.2.1 s.2.2.2.1 2 s.2.2.2.2.1 s.2.2.2.2.2 s.1 0 m ≤ 887) := by sorry
theorem yiq_d20 : lne true false yiq frq fgq 0 1 1 1 3 2 1 1 597 20 33 6 8 = true := by sorry
theorem yiq_d33 : lne true false yiq frq fgq 0 1 1 1 3 2 1 1 597 33 37 6 8 = true := by sorry
theorem yiq_d37 : lne true false yiq frq fgq 0 1 1 1 3 2 1 1 597 37 42 6 8 = true := by sorry
theorem yiq_d42 : lne true false yiq frq fgq 0 1 1 1 3 2 1 1 597 42 48 6 8 = true := by sorry
theorem yiq_all {c m : Nat} (m3 : 6 ≤ m) (m5 : m < 8) (h20 : 20 ≤ c) (h47 : c ≤ 47) (hc : c + 2 * m ≤ 58) {s : T6} (hs : s ∈ lng yiq c) : (false = false → 5 ≤ 58 - 2 * m - c → dpD true frq fgq 0 0 1 1 1 3 2 1 s.2.2.1 s.2.2.2.1 1 s.2.2.2.2.1 s.2.2.2.2.2 s.1 (58 - 2 * m - c) m ≤ 597) ∧ (false = true → dpD true frq fgq 5 0 1 1 1 3 2 1 s.2.2.1 s.2.2.2.1 1 s.2.2.2.2.1 s.2.2.2.2.2 s.1 0 m ≤ 597) := by sorry
section PmY9
variable {f : Nat} {t C : Ty} {Γ0 Δ1 : List Ty} {Δ : List (Nat × Ty × Nat)} {o : Bool}
theorem nat_vb (w : TWf f (cxs Δ1 Γ0 (tAll tTop C)).length (Δ.map (fun a => a.1)) t) (he : TE (cxs Δ1 Γ0 (tAll tTop C)) Δ) (hΔ : Δ ≠ []) (m6 : 6 ≤ mch t) (co : COk f t 0) (hp : phf (fun _ => true) C = true) (hz : (tch C, cch Γ0, cch Δ1) ∈ (if o then tvb1 else tvb0)) (ho : (∀ b ∈ Γ0, nsch b = true ∨ (o = true ∧ tch b ≤ tch C + 5)) ∧ ∀ b ∈ Δ1, nsch b = true ∨ (o = true ∧ tch b ≤ tch C + 5)) (hb : cch (cxs Δ1 Γ0 (tAll tTop C)) + dch Δ + 2 * mch t ≤ 58) (h20 : 20 ≤ cch (cxs Δ1 Γ0 (tAll tTop C))) (h49 : cch (cxs Δ1 Γ0 (tAll tTop C)) ≤ 47) : NtV (cxs Δ1 Γ0 (tAll tTop C)) Δ f t 887 597 := by sorry
theorem nat_d (w : TWf f (cxs Δ1 Γ0 (tAll tTop C)).length (Δ.map (fun a => a.1)) t) (he : TE (cxs Δ1 Γ0 (tAll tTop C)) Δ) (hΔ : Δ ≠ []) (m3 : 3 ≤ mch t) (m5 : mch t < 5) (co : COk f t 0) (hz : (tch C, cch Γ0, cch Δ1) ∈ (if o then td1 else td0)) (ho : (∀ b ∈ Γ0, nsch b = true ∨ (o = true ∧ tch b ≤ tch C + 5)) ∧ ∀ b ∈ Δ1, nsch b = true ∨ (o = true ∧ tch b ≤ tch C + 5)) (hb : cch (cxs Δ1 Γ0 (tAll tTop C)) + dch Δ + 2 * mch t ≤ 58) (h20 : 20 ≤ cch (cxs Δ1 Γ0 (tAll tTop C))) (h49 : cch (cxs Δ1 Γ0 (tAll tTop C)) ≤ 47) : NtV (cxs Δ1 Γ0 (tAll tTop C)) Δ f t 887 597 := by sorry
theorem nat_g (w : TWf f (cxs Δ1 Γ0 (tAll tTop C)).length (Δ.map (fun a => a.1)) t) (he : TE (cxs Δ1 Γ0 (tAll tTop C)) Δ) (hΔ : Δ = []) (m3 : 3 ≤ mch t) (m5 : mch t < 8) (ch : CHo f t []) (hz : (tch C, cch Γ0, cch Δ1) ∈ (if o then tg1 else tg0)) (ho : (∀ b ∈ Γ0, nsch b = true ∨ (o = true ∧ tch b ≤ tch C + 5)) ∧ ∀ b ∈ Δ1, nsch b = true ∨ (o = true ∧ tch b ≤ tch C + 5)) (hb : cch (cxs Δ1 Γ0 (tAll tTop C)) + dch Δ + 2 * mch t ≤ 58) (h20 : 20 ≤ cch (cxs Δ1 Γ0 (tAll tTop C))) (h49 : cch (cxs Δ1 Γ0 (tAll tTop C)) ≤ 47) : NtV (cxs Δ1 Γ0 (tAll tTop C)) Δ f t 887 597 := by sorry
theorem nat_h (w : TWf f (cxs Δ1 Γ0 (tAll tTop C)).length (Δ.map (fun a => a.1)) t) (he : TE (cxs Δ1 Γ0 (tAll tTop C)) Δ) (hΔ : Δ = []) (m3 : 8 ≤ mch t) (m5 : mch t < 11) (ch : CHo f t []) (hz : (tch C, cch Γ0, cch Δ1) ∈ (if o then th1 else th0)) (ho : (∀ b ∈ Γ0, nsch b = true ∨ (o = true ∧ tch b ≤ tch C + 5)) ∧ ∀ b ∈ Δ1, nsch b = true ∨ (o = true ∧ tch b ≤ tch C + 5)) (hb : cch (cxs Δ1 Γ0 (tAll tTop C)) + dch Δ + 2 * mch t ≤ 58) (h20 : 20 ≤ cch (cxs Δ1 Γ0 (tAll tTop C))) (h49 : cch (cxs Δ1 Γ0 (tAll tTop C)) ≤ 47) : NtV (cxs Δ1 Γ0 (tAll tTop C)) Δ f t 887 597 := by sorry
theorem nat_i (w : TWf f (cxs Δ1 Γ0 (tAll tTop C)).length (Δ.map (fun a => a.1)) t) (he : TE (cxs Δ1 Γ0 (tAll tTop C)) Δ) (hΔ : Δ ≠ []) (m3 : 6 ≤ mch t) (m5 : mch t < 8) (ch : CHo f t []) (hz : (tch C, cch Γ0, cch Δ1) ∈ (if o then ti1 else ti0)) (ho : (∀ b ∈ Γ0, nsch b = true ∨ (o = true ∧ tch b ≤ tch C + 5)) ∧ ∀ b ∈ Δ1, nsch b = true ∨ (o = true ∧ tch b ≤ tch C + 5)) (hb : cch (cxs Δ1 Γ0 (tAll tTop C)) + dch Δ + 2 * mch t ≤ 58) (h20 : 20 ≤ cch (cxs Δ1 Γ0 (tAll tTop C))) (h49 : cch (cxs Δ1 Γ0 (tAll tTop C)) ≤ 47) : NtV (cxs Δ1 Γ0 (tAll tTop C)) Δ f t 887 597 := by sorry
end PmY9

end
section
-- from 99y13
def smW (a b : Ty) : Bool := decide (nKd a = 5 ∧ nKd b = 5 ∧ nMk a = nMk b)
theorem smW_is {a b : Ty} : smW a b = true ↔ nKd a = 5 ∧ nKd b = 5 ∧ nMk a = nMk b := by sorry
def tri : Nat → Ty → Ty
  | 0, t => t
  | f + 1, t =>
    if nKd t = 12 ∧ smW (tri f (nX t)) (tri f (nY t)) = true then tri f (nX t)
    else if nKd t = 6 ∨ nKd t = 8 then mN (nPl t) (nKd t) (nMk t) (nX t) (tri f (nY t)) (nZ t)
    else if nKd t = 7 ∨ nKd t = 12 then mN (nPl t) (nKd t) (nMk t) (tri f (nX t)) (tri f (nY t)) (nZ t)
    else if nKd t = 9 ∨ nKd t = 11 then mN (nPl t) (nKd t) (nMk t) (tri f (nX t)) (nY t) (nZ t)
    else if nKd t = 10 then mN (nPl t) (nKd t) (nMk t) (if bit (nMk t) 0 = true then tri f (nX t) else nX t) (if bit (nMk t) 1 = true then tri f (nY t) else nY t) (if bit (nMk t) 2 = true then tri f (nZ t) else nZ t)
    else t
def TNo : Nat → Ty → Prop
  | 0, _ => True
  | f + 1, t => (nKd t = 6 ∨ nKd t = 8 → TNo f (nY t)) ∧ (nKd t = 7 ∨ nKd t = 12 → TNo f (nX t) ∧ TNo f (nY t)) ∧ (nKd t = 9 ∨ nKd t = 11 → TNo f (nX t)) ∧ (nKd t = 10 → ∀ g, g < 3 → bit (nMk t) g = true → TNo f (nP t g)) ∧ (nKd t = 12 → ¬ smW (nX t) (nY t) = true)
theorem nd_mN (p k m : Nat) (x y z : Ty) : nPl (mN p k m x y z) = p ∧ nKd (mN p k m x y z) = k ∧ nMk (mN p k m x y z) = m ∧ nX (mN p k m x y z) = x ∧ nY (mN p k m x y z) = y ∧ nZ (mN p k m x y z) = z := by sorry
section PmYa
variable {f D : Nat} {sc : List Nat} {t : Ty}
theorem word_up (h : TWf f D sc t) (k : nKd t = 5) : TWf (f + 1) D sc t := by sorry
theorem word_one (h : TWf f D sc t) (k : nKd t = 5) : mch t = 1 := by sorry
end PmYa
theorem tri_ok : ∀ (f D : Nat) (sc : List Nat) (t : Ty), TWf f D sc t → (TWf f D sc (tri f t) ∧ mch (tri f t) ≤ mch t) ∧ TNo f (tri f t) ∧ (NAt f t → NAt f (tri f t)) := by sorry
theorem tri_ty : ∀ (f : Nat) (t : Ty) (Γ : List Ty) (Δ : List (Nat × Ty × Nat)) (S : Ty), TWf f Γ.length (Δ.map (fun a => a.1)) t → TE Γ Δ → tyF f t Γ Δ = .inr S → tyF f (tri f t) Γ Δ = .inr S := by sorry
theorem PRn_tri {f : Nat} {x y : Ty} {Γ : List Ty} {Δ : List (Nat × Ty × Nat)} (x1 : TWf f Γ.length (Δ.map (fun a => a.1)) x) (x2 : TWf f Γ.length (Δ.map (fun a => a.1)) y) (he : TE Γ Δ) (h : PRn f (tri f x) (tri f y) Γ Δ) : PRn f x y Γ Δ := by sorry
end
section
-- from 99y14
section PmWe
variable {f : Nat} {x y C : Ty} {Γ0 Δ1 : List Ty} {Δ : List (Nat × Ty × Nat)}
theorem noh_kq {κ : Ty → Bool} : ∀ (f : Nat) (t : Ty) (D : Nat) (τ : Nat → Bool), (flat t).length ≤ f → ok D t = true → noh 0 t = true → kq 0 κ τ D t = true := by sorry
theorem hd_long {d : Nat} {t : Ty} (o : ok d t = true) (h : 2 ≤ tch t) : hd t ≠ 0 ∧ hd t < 16 := by sorry
theorem HKd_or (hc : okc (cxs Δ1 Γ0 (tAll tTop C))) (k2 : 2 ≤ tch C) (n0 : ∀ b ∈ Γ0, noh 0 b = true) : HKd 0 tTop C Γ0 ∨ phf (Kis (kdt C)) C = true ∨ phl (updt (tauc Γ0) Γ0.length tTop) (Γ0.length + 1) C = true := by sorry
end PmWe
theorem noh_six {d : Nat} {b : Ty} (o : ok d b = true) (h : noh 0 b = false) : 6 ≤ tch b := by sorry
section PmWx
variable {f : Nat} {x y C : Ty} {Γ0 Δ1 : List Ty} {Δ : List (Nat × Ty × Nat)}
theorem HKd_noh (hc : okc (cxs Δ1 Γ0 (tAll tTop C))) (k2 : 2 ≤ tch C) (nC : noh 0 C = true) (n0 : ∀ b ∈ Γ0, noh 0 b = true) : HKd 0 tTop C Γ0 := by sorry
end PmWx
def NOp : Nat → Ty → Prop
  | 0, _ => True
  | f + 1, t => (nKd t = 6 ∨ nKd t = 8 → NOp f (nY t)) ∧ (nKd t ≠ 7 ∧ nKd t ≠ 9 ∧ nKd t ≠ 11) ∧ (nKd t = 10 → ∀ g, g < 3 → bit (nMk t) g = true → NOp f (nP t g)) ∧ (nKd t = 12 → NOp f (nX t) ∧ NOp f (nY t))
theorem NOp_CO : ∀ (f : Nat) (t : Ty), NOp f t → COk f t 0 := by sorry
theorem CF_all : ∀ (f : Nat) (t : Ty) (n : Nat), CFt f t → COk f t n := by sorry
theorem NOp_EX : ∀ (f : Nat) (t : Ty) (Γ : List Ty) (Δ : List (Nat × Ty × Nat)), NOp f t → EX0 f t Γ Δ := by sorry
theorem chr_min : ∀ (f D : Nat) (sc : List Nat) (t : Ty), TWf f D sc t → ∃ a b c, 1 + a + b + c ≤ mch t ∧ (NHt 0 f t ∨ 5 ≤ a) ∧ (CFt f t ∨ 3 ≤ b) ∧ (NOp f t ∨ 2 ≤ c) := by sorry
theorem chr_one : ∀ (f D p : Nat) (t : Ty), TWf f D [p] t → TNo f t → (CFt f t ∨ 5 ≤ mch t) ∧ (COk f t 0 ∨ 7 ≤ mch t) := by sorry
theorem co_six {f D : Nat} {sc : List Nat} {t : Ty} (w : TWf f D sc t) : COk f t 0 ∨ 6 ≤ mch t := by sorry
end
section
-- from 99y15
def memt (T : List (Nat × Nat × Nat)) (k q1 q2 : Nat) : Bool := T.any (fun s => Nat.beq s.1 k && (Nat.beq s.2.1 q1 && Nat.beq s.2.2 q2))
theorem memt_mem {T : List (Nat × Nat × Nat)} {k q1 q2 : Nat} (h : memt T k q1 q2 = true) : (k, q1, q2) ∈ T := by sorry
def npl (o e co : Bool) (m k q1 q2 : Nat) : Bool := if e then (znv xe0 xe1 o k q1 q2 || ((Nat.blt m 8 && memt (if o then tg1 else tg0) k q1 q2) || (Nat.ble 8 m && (Nat.blt m 11 && memt (if o then th1 else th0) k q1 q2)))) else if Nat.blt m 6 then (znv xa0 xa1 o k q1 q2 || (Nat.blt m 5 && memt (if o then td1 else td0) k q1 q2)) else (znv xc0 xc1 o k q1 q2 || ((co && memt (if o then tb1 else tb0) k q1 q2) || (Nat.blt m 8 && memt (if o then ti1 else ti0) k q1 q2)))
def nwl (o e : Bool) (m k q1 q2 : Nat) : Bool := if e then memt (if o then twe1 else twe0) k q1 q2 else if Nat.blt m 6 then memt (if o then twa1 else twa0) k q1 q2 else memt (if o then twc1 else twc0) k q1 q2
def nvl (o e co : Bool) (m k q1 q2 : Nat) : Bool := if e then memt (if o then tve1 else tve0) k q1 q2 else if Nat.blt m 6 then memt (if o then tva1 else tva0) k q1 q2 else (memt (if o then tvc1 else tvc0) k q1 q2 || (co && memt (if o then tvb1 else tvb0) k q1 q2))
def nzl (o e co : Bool) (m k q1 q2 : Nat) : Bool := if e then memt (if o then tze1 else tze0) k q1 q2 else if Nat.blt m 6 then memt (if o then tza1 else tza0) k q1 q2 else (memt (if o then tzc1 else tzc0) k q1 q2 || (co && memt (if o then tzb1 else tzb0) k q1 q2))
theorem blt_is {a b : Nat} (h : a < b) : Nat.blt a b = true := by sorry
theorem blt_not {a b : Nat} (h : ¬ a < b) : Nat.blt a b = false := by sorry
section PmYc
variable {f : Nat} {t C : Ty} {Γ0 Δ1 : List Ty} {Δ : List (Nat × Ty × Nat)} {o co : Bool}
theorem nat_pl (w : TWf f (cxs Δ1 Γ0 (tAll tTop C)).length (Δ.map (fun a => a.1)) t) (he : TE (cxs Δ1 Γ0 (tAll tTop C)) Δ) (ch : CHo f t []) (m3 : 3 ≤ mch t) (hco : co = true → COk f t 0) (h : npl o Δ.isEmpty co (mch t) (tch C) (cch Γ0) (cch Δ1) = true) (ho : (∀ b ∈ Γ0, nsch b = true ∨ (o = true ∧ tch b ≤ tch C + 5)) ∧ ∀ b ∈ Δ1, nsch b = true ∨ (o = true ∧ tch b ≤ tch C + 5)) (hb : cch (cxs Δ1 Γ0 (tAll tTop C)) + dch Δ + 2 * mch t ≤ 58) (h20 : 20 ≤ cch (cxs Δ1 Γ0 (tAll tTop C))) (h49 : cch (cxs Δ1 Γ0 (tAll tTop C)) ≤ 47) : NtV (cxs Δ1 Γ0 (tAll tTop C)) Δ f t 887 597 := by sorry
theorem nat_wl (w : TWf f (cxs Δ1 Γ0 (tAll tTop C)).length (Δ.map (fun a => a.1)) t) (he : TE (cxs Δ1 Γ0 (tAll tTop C)) Δ) (ch : CHo f t []) (m3 : 3 ≤ mch t) (hp : phf (fun _ => true) C = true) (kd : kdt C = 1 ∨ kdt C = 4) (h : nwl o Δ.isEmpty (mch t) (tch C) (cch Γ0) (cch Δ1) = true) (ho : (∀ b ∈ Γ0, nsch b = true ∨ (o = true ∧ tch b ≤ tch C + 5)) ∧ ∀ b ∈ Δ1, nsch b = true ∨ (o = true ∧ tch b ≤ tch C + 5)) (hb : cch (cxs Δ1 Γ0 (tAll tTop C)) + dch Δ + 2 * mch t ≤ 58) (h20 : 20 ≤ cch (cxs Δ1 Γ0 (tAll tTop C))) (h49 : cch (cxs Δ1 Γ0 (tAll tTop C)) ≤ 47) : NtV (cxs Δ1 Γ0 (tAll tTop C)) Δ f t 887 597 := by sorry
theorem nat_vl (w : TWf f (cxs Δ1 Γ0 (tAll tTop C)).length (Δ.map (fun a => a.1)) t) (he : TE (cxs Δ1 Γ0 (tAll tTop C)) Δ) (ch : CHo f t []) (m3 : 3 ≤ mch t) (hco : co = true → COk f t 0) (hp : phf (fun _ => true) C = true) (h : nvl o Δ.isEmpty co (mch t) (tch C) (cch Γ0) (cch Δ1) = true) (ho : (∀ b ∈ Γ0, nsch b = true ∨ (o = true ∧ tch b ≤ tch C + 5)) ∧ ∀ b ∈ Δ1, nsch b = true ∨ (o = true ∧ tch b ≤ tch C + 5)) (hb : cch (cxs Δ1 Γ0 (tAll tTop C)) + dch Δ + 2 * mch t ≤ 58) (h20 : 20 ≤ cch (cxs Δ1 Γ0 (tAll tTop C))) (h49 : cch (cxs Δ1 Γ0 (tAll tTop C)) ≤ 47) : NtV (cxs Δ1 Γ0 (tAll tTop C)) Δ f t 887 597 := by sorry
theorem nat_zl (w : TWf f (cxs Δ1 Γ0 (tAll tTop C)).length (Δ.map (fun a => a.1)) t) (he : TE (cxs Δ1 Γ0 (tAll tTop C)) Δ) (ch : CHo f t []) (m3 : 3 ≤ mch t) (hco : co = true → COk f t 0) (hfl : ∃ b ∈ Δ1, noh 0 b = false) (h : nzl o Δ.isEmpty co (mch t) (tch C) (cch Γ0) (cch Δ1) = true) (ho : (∀ b ∈ Γ0, nsch b = true ∨ (o = true ∧ tch b ≤ tch C + 5)) ∧ ∀ b ∈ Δ1, nsch b = true ∨ (o = true ∧ tch b ≤ tch C + 5)) (hb : cch (cxs Δ1 Γ0 (tAll tTop C)) + dch Δ + 2 * mch t ≤ 58) (h20 : 20 ≤ cch (cxs Δ1 Γ0 (tAll tTop C))) (h49 : cch (cxs Δ1 Γ0 (tAll tTop C)) ≤ 47) : NtV (cxs Δ1 Γ0 (tAll tTop C)) Δ f t 887 597 := by sorry
theorem nat_no (w : TWf f (cxs Δ1 Γ0 (tAll tTop C)).length (Δ.map (fun a => a.1)) t) (he : TE (cxs Δ1 Γ0 (tAll tTop C)) Δ) (hn : NOp f t) (hb : cch (cxs Δ1 Γ0 (tAll tTop C)) + dch Δ + 2 * mch t ≤ 58) : NtV (cxs Δ1 Γ0 (tAll tTop C)) Δ f t 887 597 := by sorry
end PmYc

end
section
-- from 99y16
def ckl (X : List (List (Nat × Nat))) (P : Nat → Nat → Nat → Bool) : Bool := (List.range 39).all (fun k => (X.getD k []).all (fun s => P k s.1 s.2))
theorem ckl_get {X0 X1 : List (List (Nat × Nat))} {P : Nat → Nat → Nat → Bool} (h : ckl X1 P = true) {k q1 q2 : Nat} (k38 : k ≤ 38) (hz : znv X0 X1 true k q1 q2 = false) : P k q1 q2 = true := by sorry
def lo0 (e co : Bool) (m k q1 q2 : Nat) : Bool := (Nat.ble 18 k && Nat.beq q1 0) && (if e then ((Nat.beq (9 + k + q1 + q2) 36 && Nat.beq m 11) || (Nat.ble 40 (9 + k + q1 + q2) && (Nat.beq m 8 || (Nat.beq m 9 && Nat.beq (9 + k + q1 + q2) 40)))) else if Nat.blt m 6 then (Nat.ble 42 (9 + k + q1 + q2) || (Nat.beq (9 + k + q1 + q2) 41 && Nat.beq m 5)) else (Nat.ble 39 (9 + k + q1 + q2) || (!co && (Nat.beq (9 + k + q1 + q2) 37 && Nat.beq m 8))))
def lc0 (e co : Bool) (m k q1 q2 : Nat) : Bool := npl true e co m k q1 q2 || (ndk q1 q2 || (Nat.blt 58 (9 + k + q1 + q2 + 2 * m + (if e then 0 else 5)) || (Nat.ble k 17 || lo0 e co m k q1 q2)))
def lz0 (e co : Bool) (m k q1 q2 : Nat) : Bool := npl true e co m k q1 q2 || (ndk q1 q2 || (Nat.blt 58 (9 + k + q1 + q2 + 2 * m + (if e then 0 else 5)) || (Nat.blt q2 10 || (nzl true e co m k q1 q2 || (Nat.ble k 17 || (!e && ((Nat.blt m 6 && Nat.ble 46 (9 + k + q1 + q2)) || (Nat.ble 6 m && (!co && Nat.beq (9 + k + q1 + q2) 41)))))))))
def lg0 (e co : Bool) (m k q1 q2 : Nat) : Bool := npl true e co m k q1 q2 || (ndk q1 q2 || (Nat.blt 58 (9 + k + q1 + q2 + 2 * m + (if e then 0 else 5)) || (gdk q1 q2 || (Nat.ble k 17 || (!e && (Nat.blt m 6 && Nat.ble 46 (9 + k + q1 + q2)))))))
def lh0 (k q1 q2 : Nat) : Bool := npl true false false 8 k q1 q2 || (ndk q1 q2 || (!(Nat.beq (9 + k + q1 + q2) 37) || (Nat.ble k 17 || npl true false true 8 k q1 q2)))
def lall (co : Bool) (m k q1 q2 : Nat) : Bool := lc0 false co m k q1 q2 && (lz0 false co m k q1 q2 && (lg0 false co m k q1 q2 && (!(Nat.beq m 8) || lh0 k q1 q2)))
theorem lA_ok : ckl xa1 (fun k q1 q2 => (List.range 6).all (fun m => Nat.blt m 3 || (lall true m k q1 q2 && lall false m k q1 q2))) = true := by sorry
theorem lC_ok : ckl xc1 (fun k q1 q2 => (List.range 20).all (fun m => Nat.blt m 6 || (lall true m k q1 q2 && lall false m k q1 q2))) = true := by sorry
theorem lall_get {co : Bool} {m k q1 q2 : Nat} (hn : npl true false co m k q1 q2 = false) (m3 : 3 ≤ m) (m20 : m < 20) (k38 : k ≤ 38) : lall co m k q1 q2 = true := by sorry
theorem dch_one {Γ : List Ty} : ∀ {Δ : List (Nat × Ty × Nat)}, TE Γ Δ → Δ ≠ [] → dch Δ ≤ 9 → ∃ a, Δ = [a] := by sorry
theorem dch_ten {Γ : List Ty} {Δ : List (Nat × Ty × Nat)} (he : TE Γ Δ) (h : ∃ a ∈ Δ, noh 0 a.2.1 = false) : 10 ≤ dch Δ := by sorry
section PmYd
variable {f : Nat} {s u C : Ty} {Γ0 Δ1 : List Ty} {Δ : List (Nat × Ty × Nat)}
theorem H_su (nC : noh 0 C = true) (n0 : ∀ b ∈ Γ0, noh 0 b = true) (w1 : TWf f (cxs Δ1 Γ0 (tAll tTop C)).length (Δ.map (fun a => a.1)) s) (w2 : TWf f (cxs Δ1 Γ0 (tAll tTop C)).length (Δ.map (fun a => a.1)) u) (he : TE (cxs Δ1 Γ0 (tAll tTop C)) Δ) (t1 : TNo f s) (t2 : TNo f u) (ch1 : CHo f s []) (ho : (∀ b ∈ Γ0, nsch b = true ∨ (true = true ∧ tch b ≤ tch C + 5)) ∧ ∀ b ∈ Δ1, nsch b = true ∨ (true = true ∧ tch b ≤ tch C + 5)) (le : mch s ≤ mch u) (m3 : 3 ≤ mch s) (hb : cch (cxs Δ1 Γ0 (tAll tTop C)) + dch Δ + (2 + (mch s + mch u)) ≤ 60) (h20 : 20 ≤ cch (cxs Δ1 Γ0 (tAll tTop C))) (h49 : cch (cxs Δ1 Γ0 (tAll tTop C)) ≤ 47) (k18 : 18 ≤ tch C) (nd : ndk (cch Γ0) (cch Δ1) = false) (nΔ : Δ ≠ []) : NtV (cxs Δ1 Γ0 (tAll tTop C)) Δ f s 887 597 ∨ NtV (cxs Δ1 Γ0 (tAll tTop C)) Δ f u 887 597 ∨ (SMd C Γ0 Δ1 Δ f s ∧ SMd C Γ0 Δ1 Δ f u ∧ mch u < 16) ∨ ((∀ b ∈ Δ1, noh 0 b = true) ∧ (∀ a ∈ Δ, noh 0 a.2.1 = true) ∧ NHt 0 f s ∧ NHt 0 f u ∧ gdk (cch Γ0) (cch Δ1) = true) := by sorry
end PmYd

end
section
-- from 99y17
def lgE (co : Bool) (m k q1 q2 : Nat) : Bool := npl true true co m k q1 q2 || (ndk q1 q2 || (Nat.blt 58 (9 + k + q1 + q2 + 2 * m) || ((Nat.ble 18 k && (Nat.ble 36 (9 + k + q1 + q2) && Nat.ble 8 m)) && (gdk q1 q2 && (Nat.blt q2 10 || nzl true true co m k q1 q2)))))
theorem lE_ok : ckl xe1 (fun k q1 q2 => (List.range 20).all (fun m => Nat.blt m 3 || (lgE true m k q1 q2 && lgE false m k q1 q2))) = true := by sorry
theorem lgE_get {co : Bool} {m k q1 q2 : Nat} (hn : npl true true co m k q1 q2 = false) (m3 : 3 ≤ m) (m20 : m < 20) (k38 : k ≤ 38) : lgE co m k q1 q2 = true := by sorry
def exV : List (Nat × Nat × Nat) := [(23, 0, 9), (27, 0, 9), (27, 0, 10), (27, 0, 11), (28, 0, 9), (28, 0, 10), (29, 0, 9), (10, 0, 22), (12, 0, 26), (15, 0, 17), (15, 0, 22), (15, 0, 23), (16, 0, 22)]
def lW (e co : Bool) (m k q1 q2 : Nat) : Bool := npl true e co m k q1 q2 || (nwl true e m k q1 q2 || (Nat.blt 58 (9 + k + q1 + q2 + 2 * m + (if e then 0 else 5)) || (ndk q1 q2 || memt [(10, 0, 22)] k q1 q2)))
def lV (e co : Bool) (m k q1 q2 : Nat) : Bool := npl true e co m k q1 q2 || (nvl true e co m k q1 q2 || (Nat.blt 58 (9 + k + q1 + q2 + 2 * m + (if e then 0 else 5)) || (ndk q1 q2 || memt exV k q1 q2)))
def lWV (e co : Bool) (m k q1 q2 : Nat) : Bool := lW e co m k q1 q2 && lV e co m k q1 q2
theorem lwA_ok : ckl xa1 (fun k q1 q2 => (List.range 6).all (fun m => Nat.blt m 3 || (lWV false true m k q1 q2 && lWV false false m k q1 q2))) = true := by sorry
theorem lwC_ok : ckl xc1 (fun k q1 q2 => (List.range 20).all (fun m => Nat.blt m 6 || (lWV false true m k q1 q2 && lWV false false m k q1 q2))) = true := by sorry
theorem lwE_ok : ckl xe1 (fun k q1 q2 => (List.range 20).all (fun m => Nat.blt m 3 || (lWV true true m k q1 q2 && lWV true false m k q1 q2))) = true := by sorry
theorem lWV_get {e co : Bool} {m k q1 q2 : Nat} (hn : npl true e co m k q1 q2 = false) (m3 : 3 ≤ m) (m20 : m < 20) (k38 : k ≤ 38) : lWV e co m k q1 q2 = true := by sorry
theorem k17_ok : (List.range 18).all (fun k => (xa0.getD k []).isEmpty && ((xc0.getD k []).isEmpty && (xe0.getD k []).isEmpty)) = true := by sorry
theorem znv_17 {X0 X1 : List (List (Nat × Nat))} {k q1 q2 : Nat} (h : (X0.getD k []).isEmpty = true) (k38 : k ≤ 38) : znv X0 X1 false k q1 q2 = true := by sorry
theorem npl_17 {e co : Bool} {m k q1 q2 : Nat} (k17 : k ≤ 17) : npl false e co m k q1 q2 = true := by sorry
theorem nsch_noh : ∀ (t : Ty), nsch t = true → noh 0 t = true := by sorry
section PmYe
variable {f : Nat} {s u x y C : Ty} {Γ0 Δ1 : List Ty} {Δ : List (Nat × Ty × Nat)}
theorem ec_top (C : Ty) (Γ0 Δ1 : List Ty) : cch (cxs Δ1 Γ0 (tAll tTop C)) = 9 + tch C + cch Γ0 + cch Δ1 := by sorry
theorem E_su (nC : noh 0 C = true) (n0 : ∀ b ∈ Γ0, noh 0 b = true) (w1 : TWf f (cxs Δ1 Γ0 (tAll tTop C)).length (Δ.map (fun a => a.1)) s) (he : TE (cxs Δ1 Γ0 (tAll tTop C)) Δ) (ch1 : CHo f s []) (ho : (∀ b ∈ Γ0, nsch b = true ∨ (true = true ∧ tch b ≤ tch C + 5)) ∧ ∀ b ∈ Δ1, nsch b = true ∨ (true = true ∧ tch b ≤ tch C + 5)) (le : mch s ≤ mch u) (m3 : 3 ≤ mch s) (hb : cch (cxs Δ1 Γ0 (tAll tTop C)) + dch Δ + (2 + (mch s + mch u)) ≤ 60) (h20 : 20 ≤ cch (cxs Δ1 Γ0 (tAll tTop C))) (h49 : cch (cxs Δ1 Γ0 (tAll tTop C)) ≤ 47) (nd : ndk (cch Γ0) (cch Δ1) = false) (nΔ : Δ = []) : NtV (cxs Δ1 Γ0 (tAll tTop C)) Δ f s 887 597 ∨ (mch u < 16 ∧ (18 ≤ tch C ∧ 8 ≤ mch s) ∧ (∀ b ∈ Δ1, noh 0 b = true) ∧ gdk (cch Γ0) (cch Δ1) = true) := by sorry
theorem F_s (hp : phf (fun _ => true) C = true) (w1 : TWf f (cxs Δ1 Γ0 (tAll tTop C)).length (Δ.map (fun a => a.1)) s) (he : TE (cxs Δ1 Γ0 (tAll tTop C)) Δ) (ch1 : CHo f s []) (ho : (∀ b ∈ Γ0, nsch b = true ∨ (true = true ∧ tch b ≤ tch C + 5)) ∧ ∀ b ∈ Δ1, nsch b = true ∨ (true = true ∧ tch b ≤ tch C + 5)) (m3 : 3 ≤ mch s) (hb1 : cch (cxs Δ1 Γ0 (tAll tTop C)) + dch Δ + 2 * mch s ≤ 58) (h20 : 20 ≤ cch (cxs Δ1 Γ0 (tAll tTop C))) (h49 : cch (cxs Δ1 Γ0 (tAll tTop C)) ≤ 47) : NtV (cxs Δ1 Γ0 (tAll tTop C)) Δ f s 887 597 ∨ ndk (cch Γ0) (cch Δ1) = true ∨ memt [(10, 0, 22)] (tch C) (cch Γ0) (cch Δ1) = true ∨ (kdt C ≠ 1 ∧ kdt C ≠ 4 ∧ memt exV (tch C) (cch Γ0) (cch Δ1) = true) := by sorry
def LFn (f : Nat) (x y C : Ty) (Γ0 Δ1 : List Ty) (Δ : List (Nat × Ty × Nat)) : Prop := ∃ (s : Ty) (co : Bool), (s = x ∨ s = y) ∧ (mch s ≤ mch x ∧ mch s ≤ mch y) ∧ (co = true ↔ COk f s 0) ∧ npl true Δ.isEmpty co (mch s) (tch C) (cch Γ0) (cch Δ1) = false
def RsA (o : Bool) (f : Nat) (x y C : Ty) (Γ0 Δ1 : List Ty) (Δ : List (Nat × Ty × Nat)) : Prop := LFn f x y C Γ0 Δ1 Δ ∧ ((phf (fun _ => true) C = true ∧ ndk (cch Γ0) (cch Δ1) = true ∧ ¬ HKd 0 tTop C Γ0) ∨ (phf (fun _ => true) C = true ∧ (memt [(10, 0, 22)] (tch C) (cch Γ0) (cch Δ1) = true ∨ (kdt C ≠ 1 ∧ kdt C ≠ 4 ∧ memt exV (tch C) (cch Γ0) (cch Δ1) = true))) ∨ (o = true ∧ noh 0 C = true ∧ ((∃ b ∈ Γ0, noh 0 b = false) ∨ tch C ≤ 17)) ∨ (noh 0 C = true ∧ Δ = [] ∧ 18 ≤ tch C ∧ ¬ (NHt 0 f x ∧ NHt 0 f y) ∧ ¬ (SMd C Γ0 Δ1 Δ f x ∧ SMd C Γ0 Δ1 Δ f y)))
theorem pair_A {o : Bool} (x1 : TWf f (cxs Δ1 Γ0 (tAll tTop C)).length (Δ.map (fun a => a.1)) x) (x2 : TWf f (cxs Δ1 Γ0 (tAll tTop C)).length (Δ.map (fun a => a.1)) y) (he : TE (cxs Δ1 Γ0 (tAll tTop C)) Δ) (y1 : NAt f x) (y2 : NAt f y) (hv : noac (cxs Δ1 Γ0 (tAll tTop C))) (hd' : ∀ a ∈ Δ, noal a.2.1 = true) (t1 : TNo f x) (t2 : TNo f y) (ch1 : mch x ≤ mch y → CHo f x []) (ch2 : ¬ mch x ≤ mch y → CHo f y []) (ho : (∀ b ∈ Γ0, nsch b = true ∨ (o = true ∧ tch b ≤ tch C + 5)) ∧ ∀ b ∈ Δ1, nsch b = true ∨ (o = true ∧ tch b ≤ tch C + 5)) (m3 : 3 ≤ mch x) (n3 : 3 ≤ mch y) (hb : cch (cxs Δ1 Γ0 (tAll tTop C)) + dch Δ + (2 + (mch x + mch y)) ≤ 60) (h20 : 20 ≤ cch (cxs Δ1 Γ0 (tAll tTop C))) (h49 : cch (cxs Δ1 Γ0 (tAll tTop C)) ≤ 47) : PRn f x y (cxs Δ1 Γ0 (tAll tTop C)) Δ ∨ RsA o f x y C Γ0 Δ1 Δ := by sorry
end PmYe

end
section
-- from 99y18
theorem long_one : ∀ (Γ : List Ty), (∃ b ∈ Γ, nsch b = false) → ∃ (Δ1 Γ0 : List Ty) (b : Ty), Γ = cxs Δ1 Γ0 b ∧ nsch b = false ∧ (∀ a ∈ Γ0, nsch a = true ∨ tch a ≤ tch b) ∧ ∀ a ∈ Δ1, nsch a = true ∨ tch a ≤ tch b := by sorry
def LeftR (f : Nat) (x y : Ty) (Γ : List Ty) (Δ : List (Nat × Ty × Nat)) : Prop := ¬ ((mch x ≤ mch y → CHo f x []) ∧ (¬ mch x ≤ mch y → CHo f y [])) ∨ 48 ≤ cch Γ ∨ (∀ b ∈ Γ, nsch b = true) ∨ ∃ (Δ1 Γ0 : List Ty) (b : Ty), Γ = cxs Δ1 Γ0 b ∧ nsch b = false ∧ ((∀ a ∈ Γ0, nsch a = true ∨ tch a ≤ tch b) ∧ ∀ a ∈ Δ1, nsch a = true ∨ tch a ≤ tch b) ∧ ((∀ B C, b ≠ tAll B C) ∨ (∃ B C, b = tAll B C ∧ B ≠ tTop) ∨ ∃ (C : Ty) (o : Bool), b = tAll tTop C ∧ (o = false → (∀ a ∈ Γ0, nsch a = true) ∧ ∀ a ∈ Δ1, nsch a = true) ∧ RsA o f x y C Γ0 Δ1 Δ)
def RESTn : Prop := ∀ (f : Nat) (x y : Ty) (Γ : List Ty) (Δ : List (Nat × Ty × Nat)), TWf f Γ.length (Δ.map (fun a => a.1)) x → TWf f Γ.length (Δ.map (fun a => a.1)) y → TE Γ Δ → NAt f x → NAt f y → noac Γ → (∀ a ∈ Δ, noal a.2.1 = true) → TNo f x → TNo f y → 3 ≤ mch x → 3 ≤ mch y → (mch x ≤ mch y → ¬ NOp f x) → (¬ mch x ≤ mch y → ¬ NOp f y) → 20 ≤ cch Γ → cch Γ + dch Δ + (2 + (mch x + mch y)) ≤ 60 → LeftR f x y Γ Δ → PRn f x y Γ Δ
theorem pairs_of (R : RESTn) : PAIRn := by sorry
end
section
-- from 99z01
section PmZ1
variable {t0 fn s2 hv r0 r1 r2 r3 x0 : Nat} {n1 h : Nat → Nat} {P Q : List (List Nat)} {F G W : FrT} {X : List Nat}
theorem gen_fin6 (hn : NC t0 n1 s2 h) (hm : ∀ y y', y ≤ y' → h y ≤ h y') (T : TBs 58 t0 fn s2 hv r0 r1 r2 r3 x0 n1 h P Q F G X) (hFm : frm F = true) (hgr : fgc F W hv = true) (hWm : fgm W = true) (hW1 : fg1s W = true) (hW : (1, 0) ∈ frg W 0) (H1 : ∀ y, h y ≤ hv + max 1 y) {f : Nat} {t S : Ty} {Γ : List Ty} {ω : List Nat} {Δ : List (Nat × Ty × Nat)} {un : Bool} {a5 ob cd wB Bd y E0 p k : Nat} (w : TWf f Γ.length (Δ.map (fun a => a.1)) t) (he : TE Γ Δ) (l1 : ω.length = Γ.length) (cu : un = true ∨ COk f t 0) (hm30 : mch t ≤ 30) (hdc : dch Δ ≤ cd) (hcd : cd ≤ 56) (a55 : a5 ≤ 5) (ha5 : Δ ≠ [] → a5 = 0) (y01 : x0 ≤ y) (hω2 : ∀ j, j < ω.length → vw ω j ≤ y) (hk1 : HEk t0 n1 s2 h (E2 (X7w F W y cd (mch t)) (ebw F W hv y cd (mch t) E0 p wB ob) (e2w F W hv y cd (mch t) k)) Γ ω) (go : ∀ E Z, AQh t0 n1 s2 h E Z f t [] ω → HEk t0 n1 s2 h E Γ ω → GOk t0 n1 s2 h E f t [] ω Γ Δ) (R1 : dpD un F W a5 hv fn s2 r0 r1 r2 r3 E0 p wB ob k y cd (mch t) ≤ Bd) (hS : tyF f t Γ Δ = .inr S) : nz t0 n1 s2 h ω S ≤ Bd := by sorry
end PmZ1
def T0R (un e : Bool) (ob cd m y : Nat) : Prop := 1 ≤ y ∧ (e = false → 5 ≤ cd → dpD un fr1 fg1 0 1 2 3 2 2 2 2 0 0 0 ob 0 y cd m ≤ 887) ∧ (e = true → dpD un fr1 fg1 5 1 2 3 2 2 2 2 0 0 0 ob 0 y 0 m ≤ 887)
def T0G (un e : Bool) (ob cd m y : Nat) : Prop := 1 ≤ y ∧ (e = false → 5 ≤ cd → dpD un frq fgq 0 0 1 1 1 3 2 1 0 0 0 ob 0 y cd m ≤ 597) ∧ (e = true → dpD un frq fgq 5 0 1 1 1 3 2 1 0 0 0 ob 0 y 0 m ≤ 597)
section PmZ2
variable {f : Nat} {t : Ty} {Γ : List Ty} {Δ : List (Nat × Ty × Nat)} {un e : Bool} {cd ob : Nat}
theorem zone_0 (w : TWf f Γ.length (Δ.map (fun a => a.1)) t) (he : TE Γ Δ) (hΔ : (e = true ∧ Δ = []) ∨ (e = false ∧ Δ ≠ [])) (cu : un = true ∨ COk f t 0) (ch : CHo f t []) (m30 : mch t ≤ 30) (hdd : dch Δ ≤ cd) (hcd : cd ≤ 56) (hb0 : ∀ b ∈ Γ, nsch b = true ∨ flv b ≤ ob) (c56 : cch Γ ≤ 56) (TR : T0R un e ob cd (mch t) (fx1.getD (cch Γ) 0)) (TG : T0G un e ob cd (mch t) (fxq.getD (cch Γ) 0)) : NtV Γ Δ f t 887 597 := by sorry
end PmZ2

end
section
-- from 99z02
def z0R (e : Bool) (ob a b m0 m1 : Nat) : Bool := (List.range b).all (fun c => Nat.blt c a || (List.range m1).all (fun m => Nat.blt m m0 || (Nat.blt 58 (c + 2 * m) || (Nat.ble 1 (fx1.getD c 0) && (if e then Nat.ble (dpD true fr1 fg1 5 1 2 3 2 2 2 2 0 0 0 ob 0 (fx1.getD c 0) 0 m) 887 else (Nat.blt (58 - 2 * m - c) 5 || Nat.ble (dpD true fr1 fg1 0 1 2 3 2 2 2 2 0 0 0 ob 0 (fx1.getD c 0) (58 - 2 * m - c) m) 887))))))
theorem z0R_get {e : Bool} {ob a b m0 m1 c m : Nat} (h : z0R e ob a b m0 m1 = true) (ha : a ≤ c) (hb : c < b) (h0 : m0 ≤ m) (h1 : m < m1) (hc : c + 2 * m ≤ 58) : T0R true e ob (58 - 2 * m - c) m (fx1.getD c 0) := by sorry
def z0G (e : Bool) (ob a b m0 m1 : Nat) : Bool := (List.range b).all (fun c => Nat.blt c a || (List.range m1).all (fun m => Nat.blt m m0 || (Nat.blt 58 (c + 2 * m) || (Nat.ble 1 (fxq.getD c 0) && (if e then Nat.ble (dpD true frq fgq 5 0 1 1 1 3 2 1 0 0 0 ob 0 (fxq.getD c 0) 0 m) 597 else (Nat.blt (58 - 2 * m - c) 5 || Nat.ble (dpD true frq fgq 0 0 1 1 1 3 2 1 0 0 0 ob 0 (fxq.getD c 0) (58 - 2 * m - c) m) 597))))))
theorem z0G_get {e : Bool} {ob a b m0 m1 c m : Nat} (h : z0G e ob a b m0 m1 = true) (ha : a ≤ c) (hb : c < b) (h0 : m0 ≤ m) (h1 : m < m1) (hc : c + 2 * m ≤ 58) : T0G true e ob (58 - 2 * m - c) m (fxq.getD c 0) := by sorry
end
section
-- from 99z02g0
theorem z0G0_20_3 : z0G false 0 20 21 3 14 = true := by sorry
theorem z0G0_20_14 : z0G false 0 20 21 14 20 = true := by sorry
theorem z0G0_21_3 : z0G false 0 21 22 3 14 = true := by sorry
theorem z0G0_21_14 : z0G false 0 21 22 14 20 = true := by sorry
theorem z0G0_22_3 : z0G false 0 22 23 3 14 = true := by sorry
theorem z0G0_22_14 : z0G false 0 22 23 14 20 = true := by sorry
theorem z0G0_23_3 : z0G false 0 23 24 3 14 = true := by sorry
theorem z0G0_23_14 : z0G false 0 23 24 14 20 = true := by sorry
theorem z0G0_24_3 : z0G false 0 24 25 3 20 = true := by sorry
theorem z0G0_25_3 : z0G false 0 25 26 3 20 = true := by sorry
theorem z0G0_26_3 : z0G false 0 26 27 3 20 = true := by sorry
theorem z0G0_27_3 : z0G false 0 27 28 3 20 = true := by sorry
theorem z0G0_28_3 : z0G false 0 28 29 3 20 = true := by sorry
theorem z0G0_29_3 : z0G false 0 29 30 3 20 = true := by sorry
theorem z0G0_30_3 : z0G false 0 30 36 3 20 = true := by sorry
theorem z0G0_36_3 : z0G false 0 36 48 3 20 = true := by sorry
theorem z0G0_all {c m : Nat} (h20 : 20 ≤ c) (h47 : c ≤ 47) (m3 : 3 ≤ m) (hc : c + 2 * m ≤ 58) : T0G true false 0 (58 - 2 * m - c) m (fxq.getD c 0) := by sorry
end
section
-- from 99z02g1
theorem z0G1_20_3 : z0G true 0 20 21 3 14 = true := by sorry
theorem z0G1_20_14 : z0G true 0 20 21 14 20 = true := by sorry
theorem z0G1_21_3 : z0G true 0 21 22 3 14 = true := by sorry
theorem z0G1_21_14 : z0G true 0 21 22 14 20 = true := by sorry
theorem z0G1_22_3 : z0G true 0 22 23 3 14 = true := by sorry
theorem z0G1_22_14 : z0G true 0 22 23 14 20 = true := by sorry
theorem z0G1_23_3 : z0G true 0 23 24 3 14 = true := by sorry
theorem z0G1_23_14 : z0G true 0 23 24 14 20 = true := by sorry
theorem z0G1_24_3 : z0G true 0 24 25 3 20 = true := by sorry
theorem z0G1_25_3 : z0G true 0 25 26 3 20 = true := by sorry
theorem z0G1_26_3 : z0G true 0 26 27 3 20 = true := by sorry
theorem z0G1_27_3 : z0G true 0 27 28 3 20 = true := by sorry
theorem z0G1_28_3 : z0G true 0 28 29 3 20 = true := by sorry
theorem z0G1_29_3 : z0G true 0 29 30 3 20 = true := by sorry
theorem z0G1_30_3 : z0G true 0 30 36 3 20 = true := by sorry
theorem z0G1_36_3 : z0G true 0 36 48 3 20 = true := by sorry
theorem z0G1_all {c m : Nat} (h20 : 20 ≤ c) (h47 : c ≤ 47) (m3 : 3 ≤ m) (hc : c + 2 * m ≤ 58) : T0G true true 0 (58 - 2 * m - c) m (fxq.getD c 0) := by sorry
end
section
-- from 99z02r0
theorem z0R0_20_3 : z0R false 0 20 21 3 14 = true := by sorry
theorem z0R0_20_14 : z0R false 0 20 21 14 20 = true := by sorry
theorem z0R0_21_3 : z0R false 0 21 22 3 14 = true := by sorry
theorem z0R0_21_14 : z0R false 0 21 22 14 20 = true := by sorry
theorem z0R0_22_3 : z0R false 0 22 23 3 14 = true := by sorry
theorem z0R0_22_14 : z0R false 0 22 23 14 20 = true := by sorry
theorem z0R0_23_3 : z0R false 0 23 24 3 14 = true := by sorry
theorem z0R0_23_14 : z0R false 0 23 24 14 20 = true := by sorry
theorem z0R0_24_3 : z0R false 0 24 25 3 20 = true := by sorry
theorem z0R0_25_3 : z0R false 0 25 26 3 20 = true := by sorry
theorem z0R0_26_3 : z0R false 0 26 27 3 20 = true := by sorry
theorem z0R0_27_3 : z0R false 0 27 28 3 20 = true := by sorry
theorem z0R0_28_3 : z0R false 0 28 29 3 20 = true := by sorry
theorem z0R0_29_3 : z0R false 0 29 30 3 20 = true := by sorry
theorem z0R0_30_3 : z0R false 0 30 36 3 20 = true := by sorry
theorem z0R0_36_3 : z0R false 0 36 48 3 20 = true := by sorry
theorem z0R0_all {c m : Nat} (h20 : 20 ≤ c) (h47 : c ≤ 47) (m3 : 3 ≤ m) (hc : c + 2 * m ≤ 58) : T0R true false 0 (58 - 2 * m - c) m (fx1.getD c 0) := by sorry
end
section
-- from 99z02r1
theorem z0R1_20_3 : z0R true 0 20 21 3 14 = true := by sorry
theorem z0R1_20_14 : z0R true 0 20 21 14 20 = true := by sorry
theorem z0R1_21_3 : z0R true 0 21 22 3 14 = true := by sorry
theorem z0R1_21_14 : z0R true 0 21 22 14 20 = true := by sorry
theorem z0R1_22_3 : z0R true 0 22 23 3 14 = true := by sorry
theorem z0R1_22_14 : z0R true 0 22 23 14 20 = true := by sorry
theorem z0R1_23_3 : z0R true 0 23 24 3 14 = true := by sorry
theorem z0R1_23_14 : z0R true 0 23 24 14 20 = true := by sorry
theorem z0R1_24_3 : z0R true 0 24 25 3 20 = true := by sorry
theorem z0R1_25_3 : z0R true 0 25 26 3 20 = true := by sorry
theorem z0R1_26_3 : z0R true 0 26 27 3 20 = true := by sorry
theorem z0R1_27_3 : z0R true 0 27 28 3 20 = true := by sorry
theorem z0R1_28_3 : z0R true 0 28 29 3 20 = true := by sorry
theorem z0R1_29_3 : z0R true 0 29 30 3 20 = true := by sorry
theorem z0R1_30_3 : z0R true 0 30 36 3 20 = true := by sorry
theorem z0R1_36_3 : z0R true 0 36 48 3 20 = true := by sorry
theorem z0R1_all {c m : Nat} (h20 : 20 ≤ c) (h47 : c ≤ 47) (m3 : 3 ≤ m) (hc : c + 2 * m ≤ 58) : T0R true true 0 (58 - 2 * m - c) m (fx1.getD c 0) := by sorry
end
section
-- from 99z03
theorem z48R : z0R true (lmx fr1 56) 48 53 3 6 = true := by sorry
theorem z48G : z0G true (lmx fr1 56) 48 53 3 6 = true := by sorry
section PmZ3
variable {f : Nat} {t x y : Ty} {Γ : List Ty} {Δ : List (Nat × Ty × Nat)}
theorem nosch_v (w : TWf f Γ.length (Δ.map (fun a => a.1)) t) (he : TE Γ Δ) (ch : CHo f t []) (m3 : 3 ≤ mch t) (hb0 : ∀ b ∈ Γ, nsch b = true) (hb : cch Γ + dch Δ + 2 * mch t ≤ 58) (h20 : 20 ≤ cch Γ) (h47 : cch Γ ≤ 47) : NtV Γ Δ f t 887 597 := by sorry
theorem c48_v (w : TWf f Γ.length (Δ.map (fun a => a.1)) t) (he : TE Γ Δ) (ch : CHo f t []) (m3 : 3 ≤ mch t) (m5 : mch t < 6) (hb : cch Γ + 2 * mch t ≤ 58) (h48 : 48 ≤ cch Γ) (hΔ : Δ = []) : NtV Γ Δ f t 887 597 := by sorry
end PmZ3

end
section
-- from 99z04
theorem chkB_two : ∀ (σ : List Bool), chkB σ = true ∨ 2 ≤ σ.length := by sorry
theorem ch_min : ∀ (f D : Nat) (sc : List Nat) (t : Ty) (σ : List Bool), TWf f D sc t → CHo f t σ ∨ 8 ≤ mch t + 2 * min 2 σ.length := by sorry
theorem ch_eight {f D : Nat} {sc : List Nat} {t : Ty} (w : TWf f D sc t) : CHo f t [] ∨ 8 ≤ mch t := by sorry
def LeftD (f : Nat) (x y : Ty) (Γ : List Ty) (Δ : List (Nat × Ty × Nat)) : Prop := ∃ (Δ1 Γ0 : List Ty) (b : Ty), Γ = cxs Δ1 Γ0 b ∧ nsch b = false ∧ ((∀ a ∈ Γ0, nsch a = true ∨ tch a ≤ tch b) ∧ ∀ a ∈ Δ1, nsch a = true ∨ tch a ≤ tch b) ∧ ((∀ B C, b ≠ tAll B C) ∨ (∃ B C, b = tAll B C ∧ B ≠ tTop) ∨ ∃ (C : Ty) (o : Bool), b = tAll tTop C ∧ (o = false → (∀ a ∈ Γ0, nsch a = true) ∧ ∀ a ∈ Δ1, nsch a = true) ∧ RsA o f x y C Γ0 Δ1 Δ)
def NoG (f : Nat) (x y : Ty) (Γ : List Ty) (Δ : List (Nat × Ty × Nat)) : Prop := ∀ (Δ1 Γ0 : List Ty) (B C : Ty), Γ = cxs Δ1 Γ0 (tAll B C) → ¬ (HKd (hd B) B C Γ0 ∧ ndk (cch Γ0) (cch Δ1) = true) ∧ ¬ ((noh (hd B) C = true ∧ SGc (hd B) B C tTop Γ0 Δ1 ∧ (∀ a ∈ Δ, noh (hd B) a.2.1 = true)) ∧ (NHt (hd B) f x ∧ NHt (hd B) f y) ∧ gdk (cch Γ0) (cch Δ1) = true)
def RESTm : Prop := ∀ (f : Nat) (x y : Ty) (Γ : List Ty) (Δ : List (Nat × Ty × Nat)), TWf f Γ.length (Δ.map (fun a => a.1)) x → TWf f Γ.length (Δ.map (fun a => a.1)) y → TE Γ Δ → NAt f x → NAt f y → noac Γ → (∀ a ∈ Δ, noal a.2.1 = true) → TNo f x → TNo f y → 3 ≤ mch x → 3 ≤ mch y → (mch x ≤ mch y → ¬ NOp f x) → (¬ mch x ≤ mch y → ¬ NOp f y) → 20 ≤ cch Γ → cch Γ ≤ 47 → cch Γ + dch Δ + (2 + (mch x + mch y)) ≤ 60 → NoG f x y Γ Δ → (¬ ((mch x ≤ mch y → CHo f x []) ∧ (¬ mch x ≤ mch y → CHo f y [])) ∨ LeftD f x y Γ Δ) → PRn f x y Γ Δ
theorem rest_of (R : RESTm) : RESTn := by sorry
end
