section
-- from 99z05
def TqR (un e : Bool) (wB cd m L : Nat) (s : T6) : Prop := (s.2.2.2.2.2 ≤ 50 ∧ wB ≤ s.1) ∧ (e = false → 5 ≤ cd → dpD un fr1 fg1 0 1 2 3 2 2 2 2 s.2.2.1 s.2.2.2.1 wB s.2.2.2.2.1 s.2.2.2.2.2 s.1 cd m ≤ L) ∧ (e = true → dpD un fr1 fg1 5 1 2 3 2 2 2 2 s.2.2.1 s.2.2.2.1 wB s.2.2.2.2.1 s.2.2.2.2.2 s.1 0 m ≤ L)
def TqG (un e : Bool) (wB cd m L : Nat) (s : T6) : Prop := (s.2.2.2.2.2 ≤ 50 ∧ wB ≤ s.1) ∧ (e = false → 5 ≤ cd → dpD un frq fgq 0 0 1 1 1 3 2 1 s.2.2.1 s.2.2.2.1 wB s.2.2.2.2.1 s.2.2.2.2.2 s.1 cd m ≤ L) ∧ (e = true → dpD un frq fgq 5 0 1 1 1 3 2 1 s.2.2.1 s.2.2.2.1 wB s.2.2.2.2.1 s.2.2.2.2.2 s.1 0 m ≤ L)
def TqD (va y1 ob k p : Nat) (v e : Nat × Nat) (s : T6) : Prop := e.2 + e.1 * max y1 va ≤ s.1 ∧ v.2 + (v.1 - p) * y1 ≤ s.2.2.1 ∧ p ≤ s.2.2.2.1 ∧ ob ≤ s.2.2.2.2.1 ∧ k ≤ s.2.2.2.2.2
section PmZ5
variable {f : Nat} {t B C Dm : Ty} {Γ0 Δ1 : List Ty} {Δ : List (Nat × Ty × Nat)} {un e : Bool} {cd ob wR wG va vg LR LG : Nat} {VR VG : List (Nat × Nat)}
theorem zone_s (w : TWf f (cxs Δ1 Γ0 (tAll B C)).length (Δ.map (fun a => a.1)) t) (he : TE (cxs Δ1 Γ0 (tAll B C)) Δ) (hΔ : (e = true ∧ Δ = []) ∨ (e = false ∧ Δ ≠ [])) (cu : un = true ∨ COk f t 0) (m30 : mch t ≤ 30) (hdd : dch Δ ≤ cd) (hcd : cd ≤ 56) (hb0 : ∀ b ∈ Γ0, nsch b = true ∨ flv b ≤ ob) (hb1 : ∀ b ∈ Δ1, nsch b = true ∨ flv b ≤ ob) (q56 : cch Γ0 ≤ 56) (q38 : cch Δ1 ≤ 38) (wbR : ∀ b, vlr b 1 (nz 0 (fun _ => 1 + 1) (2 + 1) (vlr b 1) (onz 0 (fun _ => 1 + 1) (2 + 1) (vlr b 1) Γ0) B) ≤ wR) (wbG : nz 1 ngc 1 (fun x => x) (onz 1 ngc 1 (fun x => x) Γ0) B ≤ wG)
  (hVR : ∃ v ∈ VR, xt (Γ0.length + 1) C ≤ v.1 ∧ xa 0 (fun _ => 1 + 1) 3 1 (Γ0.length + 1) C ≤ v.2) (hVG : ∃ v ∈ VG, xt (Γ0.length + 1) C ≤ v.1 ∧ xa 1 ngc 1 0 (Γ0.length + 1) C ≤ v.2)
  (oD : ok (Γ0.length + 1) Dm = true) (vD : ∀ b, vlr b 1 (mz b 1 Γ0 (tAll B Dm)) ≤ va) (vG : gz Γ0 (tAll B Dm) ≤ vg)
  (goR : ∀ (b : Bool) E Z, AQh 0 (fun _ => 1 + 1) (2 + 1) (vlr b 1) E Z f t [] (onz 0 (fun _ => 1 + 1) (2 + 1) (vlr b 1) (cxs Δ1 Γ0 (tAll B Dm))) → GOk 0 (fun _ => 1 + 1) (2 + 1) (vlr b 1) E f t [] (onz 0 (fun _ => 1 + 1) (2 + 1) (vlr b 1) (cxs Δ1 Γ0 (tAll B Dm))) (cxs Δ1 Γ0 (tAll B C)) Δ) (goG : ∀ E Z, AQh 1 ngc 1 (fun x => x) E Z f t [] (onz 1 ngc 1 (fun x => x) (cxs Δ1 Γ0 (tAll B Dm))) → GOk 1 ngc 1 (fun x => x) E f t [] (onz 1 ngc 1 (fun x => x) (cxs Δ1 Γ0 (tAll B Dm))) (cxs Δ1 Γ0 (tAll B C)) Δ)
  (hTR : ∀ v ∈ VR, ∀ p, p ≤ v.1 → ∀ w ∈ frg fg1 (cch Δ1), ∃ s, TqD va (max 1 (fx1.getD (cch Γ0) 0)) ob (tch C) p v w s ∧ TqR un e wR cd (mch t) LR s)
  (hTG : ∀ v ∈ VG, ∀ p, p ≤ v.1 → ∀ w ∈ frg fgq (cch Δ1), ∃ s, TqD vg (max 1 (fxq.getD (cch Γ0) 0)) ob (tch C) p v w s ∧ TqG un e wG cd (mch t) LG s) : SmV Dm B C Γ0 Δ1 Δ f t LR LG := by sorry
theorem zone_gone (nC : noh 0 C = true) (sg : SGc 0 tTop C tTop Γ0 Δ1) (nh : NHt 0 f t) (na : NAt f t) (hc : noac (cxs Δ1 Γ0 (tAll tTop C))) (nd : ∀ a ∈ Δ, noh 0 a.2.1 = true ∧ noal a.2.1 = true) (w : TWf f (cxs Δ1 Γ0 (tAll tTop C)).length (Δ.map (fun a => a.1)) t) (he : TE (cxs Δ1 Γ0 (tAll tTop C)) Δ) (hΔ : (e = true ∧ Δ = []) ∨ (e = false ∧ Δ ≠ [])) (co : COk f t 0) (m30 : mch t ≤ 30) (hdd : dch Δ ≤ cd) (hcd : cd ≤ 56) (hb0 : ∀ b ∈ Γ0, nsch b = true ∨ flv b ≤ ob) (hb1 : ∀ b ∈ Δ1, nsch b = true ∨ flv b ≤ ob) (q56 : cch Γ0 ≤ 56) (q38 : cch Δ1 ≤ 38) (k40 : tch C ≤ 40)
  (hTR : ∀ v ∈ frg xr1 (tch C), ∀ p, p ≤ v.1 → ∀ w ∈ frg fg1 (cch Δ1), ∃ s, TqD 4 (max 1 (fx1.getD (cch Γ0) 0)) ob (tch C) p v w s ∧ TqR false e 2 cd (mch t) 887 s)
  (hTG : ∀ v ∈ frg xrq (tch C), ∀ p, p ≤ v.1 → ∀ w ∈ frg fgq (cch Δ1), ∃ s, TqD 2 (max 1 (fxq.getD (cch Γ0) 0)) ob (tch C) p v w s ∧ TqG false e 1 cd (mch t) 597 s) : SmV tTop tTop C Γ0 Δ1 Δ f t 887 597 := by sorry
end PmZ5

end
section
-- from 99z06
def twk : List (Nat × Nat × Nat) := [(5, 0, 26), (5, 0, 27), (6, 0, 26), (8, 0, 18), (8, 0, 22), (8, 0, 23), (8, 0, 24), (9, 0, 17), (9, 0, 22), (9, 0, 23), (9, 17, 0), (9, 22, 0), (9, 23, 0), (10, 0, 21), (10, 0, 22), (10, 22, 0), (11, 0, 21), (12, 0, 26), (12, 20, 0), (13, 0, 18), (13, 0, 19), (13, 0, 22), (13, 0, 23), (13, 0, 24), (13, 0, 25), (13, 19, 0), (13, 23, 0), (13, 24, 0), (13, 25, 0), (14, 0, 17), (14, 0, 18), (14, 0, 22), (14, 0, 23), (14, 0, 24), (14, 23, 0), (14, 24, 0), (15, 0, 17), (15, 0, 22), (15, 0, 23), (15, 23, 0), (16, 0, 22)]
def lns (L : LnT) (XR W : FrT) (X : List Nat) (va : Nat) (T : List (Nat × Nat × Nat)) : Bool := T.all (fun a => (frg XR a.1).all (fun v => (List.range (v.1 + 1)).all (fun p => (frg W a.2.2).all (fun e => (lng L (9 + a.1 + a.2.1 + a.2.2)).any (fun s => Nat.ble (e.2 + e.1 * max (max 1 (X.getD a.2.1 0)) va) s.1 && (Nat.ble (v.2 + (v.1 - p) * max 1 (X.getD a.2.1 0)) s.2.2.1 && (Nat.ble p s.2.2.2.1 && (Nat.ble (zow true a.1 a.2.1 a.2.2) s.2.2.2.2.1 && Nat.ble a.1 s.2.2.2.2.2))))))))
theorem lns_get {L : LnT} {XR W : FrT} {X : List Nat} {va k q1 q2 : Nat} {T : List (Nat × Nat × Nat)} (h : lns L XR W X va T = true) (hT : (k, q1, q2) ∈ T) {v e : Nat × Nat} {p : Nat} (hv : v ∈ frg XR k) (hp : p ≤ v.1) (he : e ∈ frg W q2) : ∃ s ∈ lng L (9 + k + q1 + q2), TqD va (max 1 (X.getD q1 0)) (zow true k q1 q2) k p v e s := by sorry
def yka1 : LnT := [[], [], [], [], [], [], [], [], [], [], [], [], [], [], [], [], [], [], [], [], [], [], [], [], [], [], [], [], [], [], [], [], [], [], [], [(28, 0, 46, 3, 4, 9)], [], [], [], [(41, 0, 6, 2, 4, 8)], [(59, 0, 82, 4, 4, 14)], [(62, 0, 86, 4, 4, 15)], [], [], [(41, 0, 13, 4, 6, 13)], [(41, 0, 110, 4, 6, 14)], [(46, 0, 142, 4, 6, 15)], [(59, 0, 147, 4, 6, 16)]]
def ykaq : LnT := [[], [], [], [], [], [], [], [], [], [], [], [], [], [], [], [], [], [], [], [], [], [], [], [], [], [], [], [], [], [], [], [], [], [], [], [(15, 0, 41, 3, 4, 9)], [], [], [], [(21, 0, 7, 2, 4, 8)], [(32, 0, 59, 4, 4, 14)], [(39, 0, 74, 4, 4, 15)], [], [], [(21, 0, 13, 4, 6, 13)], [(26, 0, 99, 4, 6, 14)], [(30, 0, 111, 4, 6, 15)], [(32, 0, 112, 4, 6, 16)]]
theorem yka1_k : lnkb yka1 = true := by sorry
theorem yka1_w : lnw yka1 2 = true := by sorry
theorem ykaq_k : lnkb ykaq = true := by sorry
theorem ykaq_w : lnw ykaq 1 = true := by sorry
theorem yka1_s : lns yka1 xr1 fg1 fx1 4 twk = true := by sorry
theorem ykaq_s : lns ykaq xrq fgq fxq 2 twk = true := by sorry
theorem yka1_d20 : lne false false yka1 fr1 fg1 1 2 3 2 2 2 2 2 887 20 36 3 6 = true := by sorry
theorem yka1_d36 : lne false false yka1 fr1 fg1 1 2 3 2 2 2 2 2 887 36 42 3 6 = true := by sorry
theorem yka1_d42 : lne false false yka1 fr1 fg1 1 2 3 2 2 2 2 2 887 42 48 3 6 = true := by sorry
theorem yka1_all {c m : Nat} (m3 : 3 ≤ m) (m5 : m < 6) (h20 : 20 ≤ c) (h47 : c ≤ 47) (hc : c + 2 * m ≤ 58) {s : T6} (hs : s ∈ lng yka1 c) : TqR false false 2 (58 - 2 * m - c) m 887 s := by sorry
theorem ykaq_d20 : lne false false ykaq frq fgq 0 1 1 1 3 2 1 1 597 20 36 3 6 = true := by sorry
theorem ykaq_d36 : lne false false ykaq frq fgq 0 1 1 1 3 2 1 1 597 36 42 3 6 = true := by sorry
theorem ykaq_d42 : lne false false ykaq frq fgq 0 1 1 1 3 2 1 1 597 42 48 3 6 = true := by sorry
theorem ykaq_all {c m : Nat} (m3 : 3 ≤ m) (m5 : m < 6) (h20 : 20 ≤ c) (h47 : c ≤ 47) (hc : c + 2 * m ≤ 58) {s : T6} (hs : s ∈ lng ykaq c) : TqG false false 1 (58 - 2 * m - c) m 597 s := by sorry
def ykb1 : LnT := [[], [], [], [], [], [], [], [], [], [], [], [], [], [], [], [], [], [], [], [], [], [], [], [], [], [], [], [], [], [], [], [], [], [], [], [(28, 0, 46, 3, 4, 9)], [], [], [], [(41, 0, 6, 2, 4, 8)], [(59, 0, 82, 4, 4, 14)], [(62, 0, 86, 4, 4, 15)], [], [], [(41, 0, 13, 4, 6, 13)], [(41, 0, 110, 4, 6, 14)], [(46, 0, 142, 4, 6, 15)], [(59, 0, 147, 4, 6, 16)]]
def ykbq : LnT := [[], [], [], [], [], [], [], [], [], [], [], [], [], [], [], [], [], [], [], [], [], [], [], [], [], [], [], [], [], [], [], [], [], [], [], [(15, 0, 41, 3, 4, 9)], [], [], [], [(21, 0, 7, 2, 4, 8)], [(32, 0, 59, 4, 4, 14)], [(39, 0, 74, 4, 4, 15)], [], [], [(21, 0, 13, 4, 6, 13)], [(26, 0, 99, 4, 6, 14)], [(30, 0, 111, 4, 6, 15)], [(32, 0, 112, 4, 6, 16)]]
theorem ykb1_k : lnkb ykb1 = true := by sorry
theorem ykb1_w : lnw ykb1 2 = true := by sorry
theorem ykbq_k : lnkb ykbq = true := by sorry
theorem ykbq_w : lnw ykbq 1 = true := by sorry
theorem ykb1_s : lns ykb1 xr1 fg1 fx1 4 twk = true := by sorry
theorem ykbq_s : lns ykbq xrq fgq fxq 2 twk = true := by sorry
theorem ykb1_d20 : lne false false ykb1 fr1 fg1 1 2 3 2 2 2 2 2 887 20 36 6 20 = true := by sorry
theorem ykb1_d36 : lne false false ykb1 fr1 fg1 1 2 3 2 2 2 2 2 887 36 42 6 20 = true := by sorry
theorem ykb1_d42 : lne false false ykb1 fr1 fg1 1 2 3 2 2 2 2 2 887 42 48 6 20 = true := by sorry
theorem ykb1_all {c m : Nat} (m3 : 6 ≤ m) (h20 : 20 ≤ c) (h47 : c ≤ 47) (hc : c + 2 * m ≤ 58) {s : T6} (hs : s ∈ lng ykb1 c) : TqR false false 2 (58 - 2 * m - c) m 887 s := by sorry
theorem ykbq_d20 : lne false false ykbq frq fgq 0 1 1 1 3 2 1 1 597 20 36 6 20 = true := by sorry
theorem ykbq_d36 : lne false false ykbq frq fgq 0 1 1 1 3 2 1 1 597 36 42 6 20 = true := by sorry
theorem ykbq_d42 : lne false false ykbq frq fgq 0 1 1 1 3 2 1 1 597 42 48 6 20 = true := by sorry
theorem ykbq_all {c m : Nat} (m3 : 6 ≤ m) (h20 : 20 ≤ c) (h47 : c ≤ 47) (hc : c + 2 * m ≤ 58) {s : T6} (hs : s ∈ lng ykbq c) : TqG false false 1 (58 - 2 * m - c) m 597 s := by sorry
def yke1 : LnT := [[], [], [], [], [], [], [], [], [], [], [], [], [], [], [], [], [], [], [], [], [], [], [], [], [], [], [], [], [], [], [], [], [], [], [], [(28, 0, 46, 3, 4, 9)], [], [], [], [(41, 0, 6, 2, 4, 8)], [(59, 0, 82, 4, 4, 14)], [(62, 0, 86, 4, 4, 15)], [], [], [(41, 0, 13, 4, 6, 13)], [(41, 0, 110, 4, 6, 14)], [(46, 0, 142, 4, 6, 15)], [(59, 0, 147, 4, 6, 16)]]
def ykeq : LnT := [[], [], [], [], [], [], [], [], [], [], [], [], [], [], [], [], [], [], [], [], [], [], [], [], [], [], [], [], [], [], [], [], [], [], [], [(15, 0, 41, 3, 4, 9)], [], [], [], [(21, 0, 7, 2, 4, 8)], [(32, 0, 59, 4, 4, 14)], [(39, 0, 74, 4, 4, 15)], [], [], [(21, 0, 13, 4, 6, 13)], [(26, 0, 99, 4, 6, 14)], [(30, 0, 111, 4, 6, 15)], [(32, 0, 112, 4, 6, 16)]]
theorem yke1_k : lnkb yke1 = true := by sorry
theorem yke1_w : lnw yke1 2 = true := by sorry
theorem ykeq_k : lnkb ykeq = true := by sorry
theorem ykeq_w : lnw ykeq 1 = true := by sorry
theorem yke1_s : lns yke1 xr1 fg1 fx1 4 twk = true := by sorry
theorem ykeq_s : lns ykeq xrq fgq fxq 2 twk = true := by sorry
theorem yke1_d20 : lne false true yke1 fr1 fg1 1 2 3 2 2 2 2 2 887 20 36 3 20 = true := by sorry
theorem yke1_d36 : lne false true yke1 fr1 fg1 1 2 3 2 2 2 2 2 887 36 42 3 20 = true := by sorry
theorem yke1_d42 : lne false true yke1 fr1 fg1 1 2 3 2 2 2 2 2 887 42 48 3 20 = true := by sorry
theorem yke1_all {c m : Nat} (m3 : 3 ≤ m) (h20 : 20 ≤ c) (h47 : c ≤ 47) (hc : c + 2 * m ≤ 58) {s : T6} (hs : s ∈ lng yke1 c) : TqR false true 2 (58 - 2 * m - c) m 887 s := by sorry
theorem ykeq_d20 : lne false true ykeq frq fgq 0 1 1 1 3 2 1 1 597 20 36 3 20 = true := by sorry
theorem ykeq_d36 : lne false true ykeq frq fgq 0 1 1 1 3 2 1 1 597 36 42 3 20 = true := by sorry
theorem ykeq_d42 : lne false true ykeq frq fgq 0 1 1 1 3 2 1 1 597 42 48 3 20 = true := by sorry
theorem ykeq_all {c m : Nat} (m3 : 3 ≤ m) (h20 : 20 ≤ c) (h47 : c ≤ 47) (hc : c + 2 * m ≤ 58) {s : T6} (hs : s ∈ lng ykeq c) : TqG false true 1 (58 - 2 * m - c) m 597 s := by sorry
theorem twkA : ckl xa1 (fun k q1 q2 => Nat.ble 18 k || memt twk k q1 q2) = true := by sorry
theorem twkC : ckl xc1 (fun k q1 q2 => Nat.ble 18 k || memt twk k q1 q2) = true := by sorry
theorem twkE : ckl xe1 (fun k q1 q2 => Nat.ble 18 k || memt twk k q1 q2) = true := by sorry
theorem twk_get {e co : Bool} {m k q1 q2 : Nat} (hn : npl true e co m k q1 q2 = false) (k17 : k ≤ 17) : (k, q1, q2) ∈ twk := by sorry
section PmZ6
variable {f : Nat} {t x y C : Ty} {Γ0 Δ1 : List Ty} {Δ : List (Nat × Ty × Nat)}
theorem gone_k (nC : noh 0 C = true) (sg : SGc 0 tTop C tTop Γ0 Δ1) (nh : NHt 0 f t) (na : NAt f t) (hc : noac (cxs Δ1 Γ0 (tAll tTop C))) (nd : ∀ a ∈ Δ, noh 0 a.2.1 = true ∧ noal a.2.1 = true) (w : TWf f (cxs Δ1 Γ0 (tAll tTop C)).length (Δ.map (fun a => a.1)) t) (he : TE (cxs Δ1 Γ0 (tAll tTop C)) Δ) (co : COk f t 0) (m3 : 3 ≤ mch t) (hT : (tch C, cch Γ0, cch Δ1) ∈ twk) (ho : (∀ b ∈ Γ0, nsch b = true ∨ (true = true ∧ tch b ≤ tch C + 5)) ∧ ∀ b ∈ Δ1, nsch b = true ∨ (true = true ∧ tch b ≤ tch C + 5)) (hb : cch (cxs Δ1 Γ0 (tAll tTop C)) + dch Δ + 2 * mch t ≤ 58) (h20 : 20 ≤ cch (cxs Δ1 Γ0 (tAll tTop C))) (h49 : cch (cxs Δ1 Γ0 (tAll tTop C)) ≤ 47) : SmV tTop tTop C Γ0 Δ1 Δ f t 887 597 := by sorry
end PmZ6

end
section
-- from 99z07
theorem nz17A : ckl xa1 (fun k q1 q2 => Nat.ble 18 k || (Nat.blt q2 10 || (List.range 6).all (fun m => Nat.blt m 3 || (nzl true false true m k q1 q2 && nzl true false false m k q1 q2)))) = true := by sorry
theorem nz17C : ckl xc1 (fun k q1 q2 => Nat.ble 18 k || (Nat.blt q2 10 || (List.range 20).all (fun m => Nat.blt m 6 || (nzl true false true m k q1 q2 && nzl true false false m k q1 q2)))) = true := by sorry
theorem nz17E : ckl xe1 (fun k q1 q2 => Nat.ble 18 k || (Nat.blt q2 10 || (List.range 20).all (fun m => Nat.blt m 3 || (nzl true true true m k q1 q2 && nzl true true false m k q1 q2)))) = true := by sorry
theorem nz17_get {e co : Bool} {m k q1 q2 : Nat} (hn : npl true e co m k q1 q2 = false) (k17 : k ≤ 17) (q10 : 10 ≤ q2) (m3 : 3 ≤ m) (m20 : m < 20) : nzl true e co m k q1 q2 = true := by sorry
section PmZ7
variable {f : Nat} {x y C : Ty} {Γ0 Δ1 : List Ty} {Δ : List (Nat × Ty × Nat)}
theorem pair_K (nC : noh 0 C = true) (n0 : ∀ b ∈ Γ0, noh 0 b = true) (x1 : TWf f (cxs Δ1 Γ0 (tAll tTop C)).length (Δ.map (fun a => a.1)) x) (x2 : TWf f (cxs Δ1 Γ0 (tAll tTop C)).length (Δ.map (fun a => a.1)) y) (he : TE (cxs Δ1 Γ0 (tAll tTop C)) Δ) (y1 : NAt f x) (y2 : NAt f y) (hv : noac (cxs Δ1 Γ0 (tAll tTop C))) (hd' : ∀ a ∈ Δ, noal a.2.1 = true) (ch1 : mch x ≤ mch y → CHo f x []) (ch2 : ¬ mch x ≤ mch y → CHo f y []) (ho : (∀ b ∈ Γ0, nsch b = true ∨ (true = true ∧ tch b ≤ tch C + 5)) ∧ ∀ b ∈ Δ1, nsch b = true ∨ (true = true ∧ tch b ≤ tch C + 5)) (m3 : 3 ≤ mch x) (n3 : 3 ≤ mch y) (hb : cch (cxs Δ1 Γ0 (tAll tTop C)) + dch Δ + (2 + (mch x + mch y)) ≤ 60) (h20 : 20 ≤ cch (cxs Δ1 Γ0 (tAll tTop C))) (h49 : cch (cxs Δ1 Γ0 (tAll tTop C)) ≤ 47) (k17 : tch C ≤ 17) (lf : LFn f x y C Γ0 Δ1 Δ) : PRn f x y (cxs Δ1 Γ0 (tAll tTop C)) Δ ∨ ((∀ b ∈ Δ1, noh 0 b = true) ∧ (¬ ((∀ a ∈ Δ, noh 0 a.2.1 = true) ∧ NHt 0 f x ∧ NHt 0 f y) ∨ (mch x ≤ mch y ∧ ¬ COk f x 0) ∨ (¬ mch x ≤ mch y ∧ ¬ COk f y 0))) := by sorry
end PmZ7

end
section
-- from 99z08
def IS2 (P : Ty → Prop) : Ty → Prop
  | .tag c (.append a b) => if c = 2 then P (.tag c (.append a b)) else if c = 1 then IS2 P b else IS2 P a ∧ IS2 P b
  | .append a b => IS2 P a ∧ IS2 P b
  | _ => True
section PmZ8
variable {P : Ty → Prop}
theorem IS2_fun {a b : Ty} (h : IS2 P (tFun a b)) : IS2 P b := by sorry
theorem IS2_all {a b : Ty} (h : IS2 P (tAll a b)) : P (tAll a b) := by sorry
theorem IS2_rec {m : Nat} {x y z : Ty} (h : IS2 P (tRec m x y z)) : IS2 P x ∧ IS2 P y ∧ IS2 P z := by sorry
variable {t0 s2 X7 : Nat} {n1 h eb e2 : Nat → Nat}
theorem vz_i2 (he : ∀ z z', z ≤ z' → eb z ≤ eb z') (he2 : ∀ z z', z ≤ z' → e2 z ≤ e2 z') (hm : ∀ y y', y ≤ y' → h y ≤ h y') (hh : ∀ y δ, h (y + δ) ≤ h y + δ) : ∀ (f : Nat) (b : Ty) (ω : List Nat) (ρ : Stk), (flat b).length ≤ f → ok ω.length b = true → nz t0 n1 s2 h ω b ≤ X7 → IS2 (fun s => HS2 t0 n1 s2 h eb e2 ω s ∨ ∀ z, nz t0 n1 s2 h ω s + flv s * z ≤ eb z) b → ρ ≠ [] → vz t0 n1 s2 h (E2 X7 eb e2) b ρ ω ≤ E2 X7 eb e2 ρ := by sorry
def BE3 (t0 : Nat) (n1 : Nat → Nat) (s2 : Nat) (h : Nat → Nat) (X7 : Nat) (eb e2 : Nat → Nat) : List Ty → List Nat → Prop
  | [], [] => True
  | b :: Γ, _ :: ω => ((nz t0 n1 s2 h ω b ≤ X7 ∧ (nsch b = true ∨ IS2 (fun s => HS2 t0 n1 s2 h eb e2 ω s ∨ ∀ z, nz t0 n1 s2 h ω s + flv s * z ≤ eb z) b)) ∨ HS2 t0 n1 s2 h eb e2 ω b) ∧ BE3 t0 n1 s2 h X7 eb e2 Γ ω
  | _, _ => False
theorem BE3.he (he : ∀ z z', z ≤ z' → eb z ≤ eb z') (he2 : ∀ z z', z ≤ z' → e2 z ≤ e2 z') (hm : ∀ y y', y ≤ y' → h y ≤ h y') (hh : ∀ y δ, h (y + δ) ≤ h y + δ) : ∀ {Γ : List Ty} {ω : List Nat}, okc Γ → ω.length = Γ.length → BE3 t0 n1 s2 h X7 eb e2 Γ ω → HEk t0 n1 s2 h (E2 X7 eb e2) Γ ω := by sorry
end PmZ8

end
section
-- from 99z08t
section PmZ8
variable {f : Nat} {u : Ty} {Γ : List Ty} {Δ : List (Nat × Ty × Nat)}
theorem nat_tabs (w : TWf (f + 1) Γ.length (Δ.map (fun a => a.1)) u) (he : TE Γ Δ) (k8 : nKd u = 8) (no : NOp f (nY u)) (hb : cch Γ + (tch (nX u) + 4) + dch Δ + 2 * mch (nY u) ≤ 58) : NtV Γ Δ (f + 1) u 887 597 := by sorry
theorem NHt_six {f D : Nat} {sc : List Nat} {t : Ty} (w : TWf f D sc t) (h : mch t ≤ 5) : NHt 0 f t := by sorry
theorem fl_six {f D : Nat} {sc : List Nat} {t : Ty} (w : TWf f D sc t) (n : ¬ NHt 0 f t) (h6 : mch t ≤ 6) : ∃ g, f = g + 1 ∧ nKd t = 8 ∧ tch (nX t) = 1 ∧ mch (nY t) = 1 ∧ NOp g (nY t) := by sorry
theorem nat_six (w : TWf f Γ.length (Δ.map (fun a => a.1)) u) (he : TE Γ Δ) (n : ¬ NHt 0 f u) (h6 : mch u ≤ 6) (hb : cch Γ + dch Δ ≤ 51) : NtV Γ Δ f u 887 597 := by sorry
end PmZ8

end
section
-- from 99z09
def tk1 : List (Nat × Nat × Nat) := [(13, 0, 22)]
def tk2 : List (Nat × Nat × Nat) := [(8, 0, 18), (9, 0, 17), (9, 17, 0), (8, 0, 22)]
theorem k9E : ckl xe1 (fun k q1 q2 => Nat.ble 18 k || (List.range 20).all (fun m => Nat.blt m 3 || (Nat.blt 58 (9 + k + q1 + q2 + 2 * m) || (npl true true true m k q1 q2 && npl true true false m k q1 q2)))) = true := by sorry
theorem k9A : ckl xa1 (fun k q1 q2 => Nat.ble 18 k || (List.range 6).all (fun m => Nat.blt m 3 || (npl true false true m k q1 q2 || (Nat.blt 48 (9 + k + q1 + q2 + 2 * m) && (Nat.blt 47 (9 + k + q1 + q2 + m) || (Nat.beq m 3 && memt tk1 k q1 q2)))))) = true := by sorry
theorem k9C : ckl xc1 (fun k q1 q2 => Nat.ble 18 k || (List.range 20).all (fun m => Nat.blt m 6 || (Nat.blt 58 (9 + k + q1 + q2 + 2 * m + 5) || (npl true false true m k q1 q2 && (npl true false false m k q1 q2 || ((Nat.beq m 6 && Nat.blt 48 (9 + k + q1 + q2 + 2 * m)) || memt tk2 k q1 q2)))))) = true := by sorry
section PmZ9
variable {f : Nat} {s u x y C : Ty} {Γ0 Δ1 : List Ty} {Δ : List (Nat × Ty × Nat)}
def RsS (f : Nat) (x y C : Ty) (Γ0 Δ1 : List Ty) (Δ : List (Nat × Ty × Nat)) : Prop := Δ ≠ [] ∧ (∀ b ∈ Δ1, noh 0 b = true) ∧ memt tk2 (tch C) (cch Γ0) (cch Δ1) = true ∧ ∃ s, (s = x ∨ s = y) ∧ (mch s ≤ mch x ∧ mch s ≤ mch y) ∧ 6 ≤ mch s ∧ ¬ COk f s 0
theorem K_su {co : Bool} (w1 : TWf f (cxs Δ1 Γ0 (tAll tTop C)).length (Δ.map (fun a => a.1)) s) (w2 : TWf f (cxs Δ1 Γ0 (tAll tTop C)).length (Δ.map (fun a => a.1)) u) (he : TE (cxs Δ1 Γ0 (tAll tTop C)) Δ) (t1 : TNo f s) (le : mch s ≤ mch u) (m3 : 3 ≤ mch s) (hb : cch (cxs Δ1 Γ0 (tAll tTop C)) + dch Δ + (2 + (mch s + mch u)) ≤ 60) (h20 : 20 ≤ cch (cxs Δ1 Γ0 (tAll tTop C))) (h49 : cch (cxs Δ1 Γ0 (tAll tTop C)) ≤ 47) (k17 : tch C ≤ 17) (hco : co = true ↔ COk f s 0) (hn : npl true Δ.isEmpty co (mch s) (tch C) (cch Γ0) (cch Δ1) = false) (rs : ¬ ((∀ a ∈ Δ, noh 0 a.2.1 = true) ∧ NHt 0 f s ∧ NHt 0 f u) ∨ 6 ≤ mch s)   : NtV (cxs Δ1 Γ0 (tAll tTop C)) Δ f u 887 597 ∨ (Δ ≠ [] ∧ (memt tk2 (tch C) (cch Γ0) (cch Δ1) = true ∧ 6 ≤ mch s ∧ ¬ COk f s 0)) := by sorry
theorem pair_K9 (nC : noh 0 C = true) (n0 : ∀ b ∈ Γ0, noh 0 b = true) (x1 : TWf f (cxs Δ1 Γ0 (tAll tTop C)).length (Δ.map (fun a => a.1)) x) (x2 : TWf f (cxs Δ1 Γ0 (tAll tTop C)).length (Δ.map (fun a => a.1)) y) (he : TE (cxs Δ1 Γ0 (tAll tTop C)) Δ) (y1 : NAt f x) (y2 : NAt f y) (hv : noac (cxs Δ1 Γ0 (tAll tTop C))) (hd' : ∀ a ∈ Δ, noal a.2.1 = true) (t1 : TNo f x) (t2 : TNo f y) (ch1 : mch x ≤ mch y → CHo f x []) (ch2 : ¬ mch x ≤ mch y → CHo f y []) (ho : (∀ b ∈ Γ0, nsch b = true ∨ (true = true ∧ tch b ≤ tch C + 5)) ∧ ∀ b ∈ Δ1, nsch b = true ∨ (true = true ∧ tch b ≤ tch C + 5)) (m3 : 3 ≤ mch x) (n3 : 3 ≤ mch y) (hb : cch (cxs Δ1 Γ0 (tAll tTop C)) + dch Δ + (2 + (mch x + mch y)) ≤ 60) (h20 : 20 ≤ cch (cxs Δ1 Γ0 (tAll tTop C))) (h49 : cch (cxs Δ1 Γ0 (tAll tTop C)) ≤ 47) (k17 : tch C ≤ 17) (lf : LFn f x y C Γ0 Δ1 Δ) : PRn f x y (cxs Δ1 Γ0 (tAll tTop C)) Δ ∨ RsS f x y C Γ0 Δ1 Δ := by sorry
end PmZ9

end
section
-- from 99z10
def lfT : List Nat := [0, 0, 0, 0, 0, 0, 1, 1, 1, 1, 2, 2, 2, 2, 3, 3, 3, 3, 4, 4]
def lmT : List Nat := [0, 1, 1, 1, 1, 2, 2, 2, 2, 3, 3, 3, 3, 4, 4, 4, 4, 5, 6, 6]
theorem lm_is : ∀ n, n < 20 → lmx fr1 n = lmT.getD n 0 := by sorry
theorem lf_mono : ∀ n, n < 20 → ∀ k, k < 20 → n ≤ k → lfT.getD n 0 ≤ lfT.getD k 0 := by sorry
theorem lf_root : ∀ j, j < 15 → lmT.getD j 0 ≤ lfT.getD (5 + j) 0 := by sorry
theorem lf_fun : ∀ i, i < 20 → ∀ j, j < 20 → 6 ≤ i → 3 + (i + j) < 20 → lfT.getD i 0 + lmT.getD j 0 ≤ lfT.getD (3 + (i + j)) 0 := by sorry
theorem lf_all : ∀ i, i < 20 → ∀ j, j < 20 → 4 + (i + j) < 20 → (6 ≤ i → lmT.getD j 0 * max 1 (lfT.getD i 0) ≤ lfT.getD (4 + (i + j)) 0) ∧ (6 ≤ j → lfT.getD j 0 * max 1 (lmT.getD i 0) ≤ lfT.getD (4 + (i + j)) 0) := by sorry
def jz (n : Nat) : Nat := if n = 0 then 0 else 2
def bti (m i : Nat) : Nat := if bit m i = true then 1 else 0
theorem lf_rec : ∀ i, i < 17 → ∀ j, j < 17 → ∀ k, k < 17 → 6 ≤ i → 3 + jz j + jz k + (i + (j + k)) < 20 → lfT.getD i 0 + (lmT.getD j 0 + lmT.getD k 0) ≤ lfT.getD (3 + jz j + jz k + (i + (j + k))) 0 := by sorry
theorem flv_lm {d : Nat} {t : Ty} (o : ok d t = true) (h : tch t < 20) : flv t ≤ lmT.getD (tch t) 0 := by sorry
theorem rch_bti {m : Nat} (h : m ≠ 0) : rch m = 1 + 2 * (bti m 0 + bti m 1 + bti m 2) := by sorry
theorem flv_flag : ∀ (f : Nat) (t : Ty) (D : Nat), (flat t).length ≤ f → ok D t = true → noh 0 t = false → tch t < 20 → flv t ≤ lfT.getD (tch t) 0 := by sorry
theorem flv_four {d : Nat} {t : Ty} (o : ok d t = true) (h : noh 0 t = false) (hk : tch t < 20) : flv t ≤ 4 := by sorry
theorem cch_in : ∀ {Γ : List Ty} {a : Ty}, a ∈ Γ → tch a + 4 ≤ cch Γ := by sorry
theorem cch_two : ∀ {Γ : List Ty} {a b : Ty}, a ∈ Γ → b ∈ Γ → a ≠ b → (tch a + 4) + (tch b + 4) ≤ cch Γ := by sorry
def yo1 : LnT := [[], [], [], [], [], [], [], [], [], [], [], [], [], [], [], [], [], [], [], [], [], [], [], [], [], [], [], [], [], [], [], [], [], [], [], [], [], [], [], [], [], [], [(98, 0, 94, 0, 4, 22), (92, 0, 86, 1, 4, 22), (86, 0, 78, 2, 4, 22), (80, 0, 70, 3, 4, 22), (74, 0, 62, 4, 4, 22), (68, 0, 54, 5, 4, 22), (62, 0, 46, 6, 4, 22), (56, 0, 38, 7, 4, 22), (50, 0, 30, 8, 4, 22), (44, 0, 22, 9, 4, 22)], [(98, 0, 94, 0, 4, 23), (92, 0, 86, 1, 4, 23), (86, 0, 78, 2, 4, 23), (80, 0, 70, 3, 4, 23), (74, 0, 62, 4, 4, 23), (68, 0, 54, 5, 4, 23), (62, 0, 46, 6, 4, 23), (56, 0, 38, 7, 4, 23), (50, 0, 30, 8, 4, 23), (44, 0, 22, 9, 4, 23)], [], [(114, 0, 110, 0, 4, 13), (90, 0, 84, 1, 4, 13), (66, 0, 58, 2, 4, 13), (42, 0, 32, 3, 4, 13), (26, 0, 6, 4, 4, 13)], [(146, 0, 142, 0, 4, 13), (119, 0, 115, 0, 4, 14), (114, 0, 108, 1, 4, 13), (95, 0, 89, 1, 4, 14), (82, 0, 74, 2, 4, 13), (71, 0, 63, 2, 4, 14), (50, 0, 40, 3, 4, 13), (47, 0, 37, 3, 4, 14), (34, 0, 6, 4, 4, 13), (26, 0, 11, 4, 4, 14)], [(151, 0, 147, 0, 4, 14), (119, 0, 115, 0, 4, 15), (119, 0, 113, 1, 4, 14), (95, 0, 89, 1, 4, 15), (87, 0, 79, 2, 4, 14), (71, 0, 63, 2, 4, 15), (55, 0, 45, 3, 4, 14), (47, 0, 37, 3, 4, 15), (34, 0, 11, 4, 4, 14), (26, 0, 11, 4, 4, 15)]]
def yoq : LnT := [[], [], [], [], [], [], [], [], [], [], [], [], [], [], [], [], [], [], [], [], [], [], [], [], [], [], [], [], [], [], [], [], [], [], [], [], [], [], [], [], [], [], [(73, 0, 72, 0, 4, 22), (67, 0, 65, 1, 4, 22), (61, 0, 58, 2, 4, 22), (55, 0, 51, 3, 4, 22), (49, 0, 44, 4, 4, 22), (43, 0, 37, 5, 4, 22), (37, 0, 30, 6, 4, 22), (31, 0, 23, 7, 4, 22), (25, 0, 16, 8, 4, 22), (19, 0, 9, 9, 4, 22)], [(73, 0, 72, 0, 4, 23), (67, 0, 65, 1, 4, 23), (61, 0, 58, 2, 4, 23), (55, 0, 51, 3, 4, 23), (49, 0, 44, 4, 4, 23), (43, 0, 37, 5, 4, 23), (37, 0, 30, 6, 4, 23), (31, 0, 23, 7, 4, 23), (25, 0, 16, 8, 4, 23), (19, 0, 9, 9, 4, 23)], [], [(100, 0, 99, 0, 4, 13), (77, 0, 75, 1, 4, 13), (54, 0, 51, 2, 4, 13), (31, 0, 27, 3, 4, 13), (24, 0, 3, 4, 4, 13)], [(112, 0, 111, 0, 4, 13), (101, 0, 100, 0, 4, 14), (86, 0, 84, 1, 4, 13), (78, 0, 76, 1, 4, 14), (60, 0, 57, 2, 4, 13), (55, 0, 52, 2, 4, 14), (34, 0, 30, 3, 4, 13), (32, 0, 28, 3, 4, 14), (27, 0, 3, 4, 4, 13), (24, 0, 4, 4, 4, 14)], [(113, 0, 112, 0, 4, 14), (101, 0, 100, 0, 4, 15), (87, 0, 85, 1, 4, 14), (78, 0, 76, 1, 4, 15), (61, 0, 58, 2, 4, 14), (55, 0, 52, 2, 4, 15), (35, 0, 31, 3, 4, 14), (32, 0, 28, 3, 4, 15), (27, 0, 4, 4, 4, 14), (24, 0, 4, 4, 4, 15)]]
def to1 : List (Nat × Nat × Nat) := [(13, 23, 0), (13, 24, 0), (13, 25, 0), (14, 23, 0), (14, 24, 0), (15, 23, 0), (22, 11, 0), (22, 12, 0), (23, 11, 0)]
theorem yo1_k : lnkb yo1 = true := by sorry
theorem yo1_w : lnw yo1 2 = true := by sorry
theorem yoq_k : lnkb yoq = true := by sorry
theorem yoq_w : lnw yoq 1 = true := by sorry
theorem yo1_z : to1.all (fun s => lnz yo1 xr1 fg1 fx1 1 3 2 s.1 s.2.1 s.2.2 4) = true := by sorry
theorem yoq_z : to1.all (fun s => lnz yoq xrq fgq fxq 0 1 1 s.1 s.2.1 s.2.2 4) = true := by sorry
theorem yo1_d : lne false false yo1 fr1 fg1 1 2 3 2 2 2 2 2 887 20 48 3 5 = true := by sorry
theorem yoq_d : lne false false yoq frq fgq 0 1 1 1 3 2 1 1 597 20 48 3 5 = true := by sorry
section PmZa
variable {f : Nat} {t C : Ty} {Γ0 Δ1 : List Ty} {Δ : List (Nat × Ty × Nat)}
theorem nat_o (w : TWf f (cxs Δ1 Γ0 (tAll tTop C)).length (Δ.map (fun a => a.1)) t) (he : TE (cxs Δ1 Γ0 (tAll tTop C)) Δ) (hΔ : Δ ≠ []) (m3 : 3 ≤ mch t) (m5 : mch t < 5) (co : COk f t 0) (hz : (tch C, cch Γ0, cch Δ1) ∈ to1) (hfl : ∃ b ∈ Γ0, noh 0 b = false) (ho : ∀ b ∈ Γ0, nsch b = true ∨ (true = true ∧ tch b ≤ tch C + 5)) (hb : cch (cxs Δ1 Γ0 (tAll tTop C)) + dch Δ + 2 * mch t ≤ 58) (h20 : 20 ≤ cch (cxs Δ1 Γ0 (tAll tTop C))) (h49 : cch (cxs Δ1 Γ0 (tAll tTop C)) ≤ 47) : NtV (cxs Δ1 Γ0 (tAll tTop C)) Δ f t 887 597 := by sorry
end PmZa

end
section
-- from 99z11
theorem fl_small {d : Nat} {b : Ty} (o : ok d b = true) (n : noh 0 b = false) (h : tch b ≤ 8) : ∃ c, b = tAll tTop c ∧ (c = tTop ∨ (∃ i, i < d + 1 ∧ c = tVar i) ∨ (hd c = 8 ∧ tch b = 7 ∧ noh 0 c = true ∧ ok (d + 1) c = true)) := by sorry
section PmZb
variable {f : Nat} {s u x y C : Ty} {Γ0 Δ1 : List Ty} {Δ : List (Nat × Ty × Nat)}
theorem one_ahead (oc : okc Γ0) (f0 : ∃ b ∈ Γ0, noh 0 b = false) (q12 : cch Γ0 ≤ 12) : ∃ b, Γ0 = [b] ∧ noh 0 b = false ∧ ok 0 b = true ∧ tch b + 4 = cch Γ0 := by sorry
theorem HKd_ahead (hc : okc (cxs Δ1 Γ0 (tAll tTop C))) (k2 : 2 ≤ tch C) (nC : noh 0 C = true) (f0 : ∃ b ∈ Γ0, noh 0 b = false) (q12 : cch Γ0 ≤ 12) : HKd 0 tTop C Γ0 ∨ (8 ≤ hd C ∧ cch Γ0 = 11) := by sorry
def ta9 : List (Nat × Nat × Nat) := [(22, 11, 0), (22, 12, 0), (23, 11, 0), (27, 10, 0), (27, 11, 0), (28, 10, 0)]
def tc9 : List (Nat × Nat × Nat) := [(9, 17, 0)]
theorem a9E : ckl xe1 (fun k q1 q2 => Nat.blt q1 10 || (List.range 20).all (fun m => Nat.blt m 3 || (Nat.blt 58 (9 + k + q1 + q2 + 2 * m) || (npl true true true m k q1 q2 && npl true true false m k q1 q2)))) = true := by sorry
theorem a9A : ckl xa1 (fun k q1 q2 => Nat.blt q1 10 || (List.range 6).all (fun m => Nat.blt m 3 || (npl true false true m k q1 q2 || (Nat.blt 58 (9 + k + q1 + q2 + 2 * m + 5) || ((Nat.blt m 5 && memt to1 k q1 q2) || (Nat.ble q1 12 && (ndk q1 q2 && memt ta9 k q1 q2))))))) = true := by sorry
theorem a9C : ckl xc1 (fun k q1 q2 => Nat.blt q1 10 || (List.range 20).all (fun m => Nat.blt m 6 || (Nat.blt 58 (9 + k + q1 + q2 + 2 * m + 5) || (npl true false true m k q1 q2 && (npl true false false m k q1 q2 || ((Nat.beq m 6 && Nat.blt 48 (9 + k + q1 + q2 + 2 * m)) || memt tc9 k q1 q2)))))) = true := by sorry
theorem A_su {co : Bool} (f0 : ∃ b ∈ Γ0, noh 0 b = false) (ho : ∀ b ∈ Γ0, nsch b = true ∨ (true = true ∧ tch b ≤ tch C + 5)) (w1 : TWf f (cxs Δ1 Γ0 (tAll tTop C)).length (Δ.map (fun a => a.1)) s) (he : TE (cxs Δ1 Γ0 (tAll tTop C)) Δ) (t1 : TNo f s) (le : mch s ≤ mch u) (m3 : 3 ≤ mch s) (hb : cch (cxs Δ1 Γ0 (tAll tTop C)) + dch Δ + (2 + (mch s + mch u)) ≤ 60) (h20 : 20 ≤ cch (cxs Δ1 Γ0 (tAll tTop C))) (h49 : cch (cxs Δ1 Γ0 (tAll tTop C)) ≤ 47) (hco : co = true ↔ COk f s 0) (hn : npl true Δ.isEmpty co (mch s) (tch C) (cch Γ0) (cch Δ1) = false) : NtV (cxs Δ1 Γ0 (tAll tTop C)) Δ f s 887 597 ∨ (Δ ≠ [] ∧ ((mch s < 6 ∧ cch Γ0 ≤ 12 ∧ ndk (cch Γ0) (cch Δ1) = true ∧ memt ta9 (tch C) (cch Γ0) (cch Δ1) = true) ∨ (memt tc9 (tch C) (cch Γ0) (cch Δ1) = true ∧ 6 ≤ mch s ∧ ¬ COk f s 0))) := by sorry
def RsF (f : Nat) (x y C : Ty) (Γ0 Δ1 : List Ty) (Δ : List (Nat × Ty × Nat)) : Prop := Δ ≠ [] ∧ ((8 ≤ hd C ∧ memt [(22, 11, 0), (23, 11, 0), (27, 11, 0)] (tch C) (cch Γ0) (cch Δ1) = true ∧ (mch x < 6 ∨ mch y < 6)) ∨ (memt tc9 (tch C) (cch Γ0) (cch Δ1) = true ∧ ∃ s, (s = x ∨ s = y) ∧ (mch s ≤ mch x ∧ mch s ≤ mch y) ∧ 6 ≤ mch s ∧ ¬ COk f s 0))
theorem pair_F (nC : noh 0 C = true) (f0 : ∃ b ∈ Γ0, noh 0 b = false) (x1 : TWf f (cxs Δ1 Γ0 (tAll tTop C)).length (Δ.map (fun a => a.1)) x) (x2 : TWf f (cxs Δ1 Γ0 (tAll tTop C)).length (Δ.map (fun a => a.1)) y) (he : TE (cxs Δ1 Γ0 (tAll tTop C)) Δ) (y1 : NAt f x) (y2 : NAt f y) (hv : noac (cxs Δ1 Γ0 (tAll tTop C))) (hd' : ∀ a ∈ Δ, noal a.2.1 = true) (t1 : TNo f x) (t2 : TNo f y) (ho : ∀ b ∈ Γ0, nsch b = true ∨ (true = true ∧ tch b ≤ tch C + 5)) (m3 : 3 ≤ mch x) (n3 : 3 ≤ mch y) (hb : cch (cxs Δ1 Γ0 (tAll tTop C)) + dch Δ + (2 + (mch x + mch y)) ≤ 60) (h20 : 20 ≤ cch (cxs Δ1 Γ0 (tAll tTop C))) (h49 : cch (cxs Δ1 Γ0 (tAll tTop C)) ≤ 47) (lf : LFn f x y C Γ0 Δ1 Δ) : PRn f x y (cxs Δ1 Γ0 (tAll tTop C)) Δ ∨ RsF f x y C Γ0 Δ1 Δ := by sorry
end PmZb

end
section
-- from 99z12
def RsB (f : Nat) (x y C : Ty) (Γ0 Δ1 : List Ty) (Δ : List (Nat × Ty × Nat)) : Prop := LFn f x y C Γ0 Δ1 Δ ∧ ((phf (fun _ => true) C = true ∧ ndk (cch Γ0) (cch Δ1) = true ∧ ¬ HKd 0 tTop C Γ0) ∨ (phf (fun _ => true) C = true ∧ (memt [(10, 0, 22)] (tch C) (cch Γ0) (cch Δ1) = true ∨ (kdt C ≠ 1 ∧ kdt C ≠ 4 ∧ memt exV (tch C) (cch Γ0) (cch Δ1) = true))) ∨ (noh 0 C = true ∧ (((∀ b ∈ Γ0, noh 0 b = true) ∧ RsS f x y C Γ0 Δ1 Δ) ∨ ((∃ b ∈ Γ0, noh 0 b = false) ∧ RsF f x y C Γ0 Δ1 Δ))) ∨ (noh 0 C = true ∧ Δ = [] ∧ 18 ≤ tch C ∧ ¬ (NHt 0 f x ∧ NHt 0 f y) ∧ ¬ (SMd C Γ0 Δ1 Δ f x ∧ SMd C Γ0 Δ1 Δ f y)))
def LeftB (f : Nat) (x y : Ty) (Γ : List Ty) (Δ : List (Nat × Ty × Nat)) : Prop := ∃ (Δ1 Γ0 : List Ty) (b : Ty), Γ = cxs Δ1 Γ0 b ∧ nsch b = false ∧ ((∀ a ∈ Γ0, nsch a = true ∨ tch a ≤ tch b) ∧ ∀ a ∈ Δ1, nsch a = true ∨ tch a ≤ tch b) ∧ ((∀ B C, b ≠ tAll B C) ∨ (∃ B C, b = tAll B C ∧ B ≠ tTop) ∨ ∃ (C : Ty), b = tAll tTop C ∧ RsB f x y C Γ0 Δ1 Δ)
def RESTb : Prop := ∀ (f : Nat) (x y : Ty) (Γ : List Ty) (Δ : List (Nat × Ty × Nat)), TWf f Γ.length (Δ.map (fun a => a.1)) x → TWf f Γ.length (Δ.map (fun a => a.1)) y → TE Γ Δ → NAt f x → NAt f y → noac Γ → (∀ a ∈ Δ, noal a.2.1 = true) → TNo f x → TNo f y → 3 ≤ mch x → 3 ≤ mch y → (mch x ≤ mch y → ¬ NOp f x) → (¬ mch x ≤ mch y → ¬ NOp f y) → 20 ≤ cch Γ → cch Γ ≤ 47 → cch Γ + dch Δ + (2 + (mch x + mch y)) ≤ 60 → NoG f x y Γ Δ → (¬ ((mch x ≤ mch y → CHo f x []) ∧ (¬ mch x ≤ mch y → CHo f y [])) ∨ LeftB f x y Γ Δ) → PRn f x y Γ Δ
theorem restm_of (R : RESTb) : RESTm := by sorry
end
section
-- from 99z13
def rz : Ty := tRec 0 .nil .nil .nil
theorem chr_cl : ∀ (f D : Nat) (t : Ty), TWf f D [] t → ∃ a b c, 2 + a + b + c ≤ mch t ∧ (NHt 0 f t ∨ 5 ≤ a) ∧ (CFt f t ∨ 4 ≤ b) ∧ (NOp f t ∨ 2 ≤ c) := by sorry
theorem cl_min {f D : Nat} {t : Ty} (w : TWf f D [] t) : 2 ≤ mch t ∧ (CFt f t ∨ 6 ≤ mch t) ∧ (COk f t 0 ∨ 8 ≤ mch t) := by sorry
theorem hd_rz : hd rz = 8 := by sorry
theorem no_A (Γ : List Ty) (n : Nat) (T : Ty) : tyA Γ (expo Γ n rz) T = none := by sorry
theorem no_I (Γ : List Ty) (n : Nat) (T : Ty) : tyI Γ (expo Γ n rz) T = none := by sorry
theorem no_D (Γ : List Ty) (n m : Nat) (h3 : m < 3) : tyD m (expo Γ n rz) = none := by sorry
theorem cl_ty : ∀ (f : Nat) (t : Ty) (Γ : List Ty) (S : Ty), TWf f Γ.length [] t → okc Γ → TNo f t → tyF f t Γ [] = .inr S → (mch t ≤ 5 → S = rz) ∧ (mch t ≤ 9 → ¬ CFt f t → S = rz) ∧ (mch t ≤ 11 → COk f t 0) := by sorry
end
section
-- from 99z14
def lD9 (co : Bool) (m k q1 q2 : Nat) : Bool := npl true true co m k q1 q2 || ((Nat.beq (9 + k + q1 + q2) 36 && Nat.beq m 11) || (Nat.ble 40 (9 + k + q1 + q2) && Nat.ble 8 m))
theorem k9D : ckl xe1 (fun k q1 q2 => Nat.blt k 18 || (ndk q1 q2 || (List.range 20).all (fun m => Nat.blt m 3 || (Nat.blt 58 (9 + k + q1 + q2 + 2 * m) || (lD9 true m k q1 q2 && lD9 false m k q1 q2))))) = true := by sorry
theorem lD9_get {co : Bool} {m k q1 q2 : Nat} (hn : npl true true co m k q1 q2 = false) (k18 : 18 ≤ k) (nd : ndk q1 q2 = false) (m3 : 3 ≤ m) (hc : 9 + k + q1 + q2 + 2 * m ≤ 58) (k38 : k ≤ 38) : (9 + k + q1 + q2 = 36 ∧ m = 11) ∨ (40 ≤ 9 + k + q1 + q2 ∧ 8 ≤ m) := by sorry
section PmZe
variable {f : Nat} {x y C : Ty} {Γ0 Δ1 : List Ty} {Δ : List (Nat × Ty × Nat)}
theorem pair_D (nΔ : Δ = []) (nC : noh 0 C = true) (k18 : 18 ≤ tch C) (x1 : TWf f (cxs Δ1 Γ0 (tAll tTop C)).length (Δ.map (fun a => a.1)) x) (x2 : TWf f (cxs Δ1 Γ0 (tAll tTop C)).length (Δ.map (fun a => a.1)) y) (he : TE (cxs Δ1 Γ0 (tAll tTop C)) Δ) (y1 : NAt f x) (y2 : NAt f y) (hv : noac (cxs Δ1 Γ0 (tAll tTop C))) (hd' : ∀ a ∈ Δ, noal a.2.1 = true) (t1 : TNo f x) (t2 : TNo f y) (ch1 : mch x ≤ mch y → CHo f x []) (ch2 : ¬ mch x ≤ mch y → CHo f y []) (ho : (∀ b ∈ Γ0, nsch b = true ∨ (true = true ∧ tch b ≤ tch C + 5)) ∧ ∀ b ∈ Δ1, nsch b = true ∨ (true = true ∧ tch b ≤ tch C + 5)) (m3 : 3 ≤ mch x) (n3 : 3 ≤ mch y) (hb : cch (cxs Δ1 Γ0 (tAll tTop C)) + dch Δ + (2 + (mch x + mch y)) ≤ 60) (h20 : 20 ≤ cch (cxs Δ1 Γ0 (tAll tTop C))) (h49 : cch (cxs Δ1 Γ0 (tAll tTop C)) ≤ 47) (lf : LFn f x y C Γ0 Δ1 Δ) : PRn f x y (cxs Δ1 Γ0 (tAll tTop C)) Δ := by sorry
end PmZe
def RsC (f : Nat) (x y C : Ty) (Γ0 Δ1 : List Ty) (Δ : List (Nat × Ty × Nat)) : Prop := LFn f x y C Γ0 Δ1 Δ ∧ ((phf (fun _ => true) C = true ∧ ndk (cch Γ0) (cch Δ1) = true ∧ ¬ HKd 0 tTop C Γ0) ∨ (phf (fun _ => true) C = true ∧ (memt [(10, 0, 22)] (tch C) (cch Γ0) (cch Δ1) = true ∨ (kdt C ≠ 1 ∧ kdt C ≠ 4 ∧ memt exV (tch C) (cch Γ0) (cch Δ1) = true))) ∨ (noh 0 C = true ∧ (((∀ b ∈ Γ0, noh 0 b = true) ∧ RsS f x y C Γ0 Δ1 Δ) ∨ ((∃ b ∈ Γ0, noh 0 b = false) ∧ RsF f x y C Γ0 Δ1 Δ))))
def LeftC (f : Nat) (x y : Ty) (Γ : List Ty) (Δ : List (Nat × Ty × Nat)) : Prop := ∃ (Δ1 Γ0 : List Ty) (b : Ty), Γ = cxs Δ1 Γ0 b ∧ nsch b = false ∧ ((∀ a ∈ Γ0, nsch a = true ∨ tch a ≤ tch b) ∧ ∀ a ∈ Δ1, nsch a = true ∨ tch a ≤ tch b) ∧ ((∀ B C, b ≠ tAll B C) ∨ (∃ B C, b = tAll B C ∧ B ≠ tTop) ∨ ∃ (C : Ty), b = tAll tTop C ∧ RsC f x y C Γ0 Δ1 Δ)
def RESTc : Prop := ∀ (f : Nat) (x y : Ty) (Γ : List Ty) (Δ : List (Nat × Ty × Nat)), TWf f Γ.length (Δ.map (fun a => a.1)) x → TWf f Γ.length (Δ.map (fun a => a.1)) y → TE Γ Δ → NAt f x → NAt f y → noac Γ → (∀ a ∈ Δ, noal a.2.1 = true) → TNo f x → TNo f y → 3 ≤ mch x → 3 ≤ mch y → (mch x ≤ mch y → ¬ NOp f x) → (¬ mch x ≤ mch y → ¬ NOp f y) → 20 ≤ cch Γ → cch Γ ≤ 47 → cch Γ + dch Δ + (2 + (mch x + mch y)) ≤ 60 → NoG f x y Γ Δ → (¬ ((mch x ≤ mch y → CHo f x []) ∧ (¬ mch x ≤ mch y → CHo f y [])) ∨ LeftC f x y Γ Δ) → PRn f x y Γ Δ
theorem restb_of (R : RESTc) : RESTb := by sorry
end
section
-- from 99z15
def lsT : List Nat := [0, 0, 0, 0, 0, 0, 1, 1, 1, 1, 2, 2, 2, 2, 4, 4, 4, 4, 6, 6]
theorem ls_mono : ∀ n, n < 20 → ∀ k, k < 20 → n ≤ k → lsT.getD n 0 ≤ lsT.getD k 0 := by sorry
theorem ls_fun : ∀ i, i < 20 → ∀ j, j < 20 → 6 ≤ i → 3 + (i + j) < 20 → lsT.getD i 0 + lmT.getD j 0 ≤ lsT.getD (3 + (i + j)) 0 := by sorry
theorem ls_all : ∀ i, i < 20 → ∀ j, j < 20 → 1 ≤ i → 1 ≤ j → 4 + (i + j) < 20 → lmT.getD j 0 * max 1 (lmT.getD i 0) ≤ lsT.getD (4 + (i + j)) 0 := by sorry
theorem ls_rec : ∀ i, i < 17 → ∀ j, j < 17 → ∀ k, k < 17 → 6 ≤ i → 3 + jz j + jz k + (i + (j + k)) < 20 → lsT.getD i 0 + (lmT.getD j 0 + lmT.getD k 0) ≤ lsT.getD (3 + jz j + jz k + (i + (j + k))) 0 := by sorry
theorem flv_sch : ∀ (f : Nat) (t : Ty) (D : Nat), (flat t).length ≤ f → ok D t = true → nsch t = false → tch t < 20 → flv t ≤ lsT.getD (tch t) 0 ∧ 6 ≤ tch t := by sorry
theorem sch_two {d : Nat} {t : Ty} (o : ok d t = true) (hk : tch t < 14) : nsch t = true ∨ flv t ≤ 2 := by sorry
def yp1 : LnT := [[], [], [], [], [], [], [], [], [], [], [], [], [], [], [], [], [], [], [], [], [], [], [], [], [], [], [], [], [], [], [], [], [], [], [], [(63, 0, 4, 3, 2, 9), (59, 0, 7, 1, 2, 9), (59, 0, 5, 2, 2, 9), (55, 0, 8, 0, 2, 9), (50, 0, 46, 0, 2, 9), (38, 0, 32, 1, 2, 9), (26, 0, 18, 2, 2, 9)], [], [], [], [(89, 0, 4, 2, 2, 8), (83, 0, 5, 1, 2, 8), (77, 0, 6, 0, 2, 8)], [], [], [], [], [], [], [], []]
def ypq : LnT := [[], [], [], [], [], [], [], [], [], [], [], [], [], [], [], [], [], [], [], [], [], [], [], [], [], [], [], [], [], [], [], [], [], [], [], [(42, 0, 41, 0, 2, 9), (36, 0, 6, 1, 2, 8), (35, 0, 6, 1, 2, 9), (32, 0, 4, 2, 2, 8), (31, 0, 4, 2, 2, 9), (30, 0, 28, 1, 2, 9), (27, 0, 2, 3, 2, 9), (18, 0, 15, 2, 2, 9)], [], [], [], [(54, 0, 7, 0, 2, 8), (54, 0, 6, 1, 2, 8), (48, 0, 4, 2, 2, 8)], [], [], [], [], [], [], [], []]
theorem yp1_k : lnkb yp1 = true := by sorry
theorem yp1_w : lnw yp1 2 = true := by sorry
theorem ypq_k : lnkb ypq = true := by sorry
theorem ypq_w : lnw ypq 1 = true := by sorry
theorem yp1_z : tk2.all (fun s => lnz yp1 xr1 fg1 fx1 1 3 2 s.1 s.2.1 s.2.2 2) = true := by sorry
theorem ypq_z : tk2.all (fun s => lnz ypq xrq fgq fxq 0 1 1 s.1 s.2.1 s.2.2 2) = true := by sorry
theorem yp1_d : lne true false yp1 fr1 fg1 1 2 3 2 2 2 2 2 887 20 48 6 10 = true := by sorry
theorem ypq_d : lne true false ypq frq fgq 0 1 1 1 3 2 1 1 597 20 48 6 10 = true := by sorry
section PmZf
variable {f : Nat} {t C : Ty} {Γ0 Δ1 : List Ty} {Δ : List (Nat × Ty × Nat)}
theorem nat_p (w : TWf f (cxs Δ1 Γ0 (tAll tTop C)).length (Δ.map (fun a => a.1)) t) (he : TE (cxs Δ1 Γ0 (tAll tTop C)) Δ) (hΔ : Δ ≠ []) (m6 : 6 ≤ mch t) (ch : CHo f t []) (hz : memt tk2 (tch C) (cch Γ0) (cch Δ1) = true) (ho : (∀ b ∈ Γ0, nsch b = true ∨ (true = true ∧ tch b ≤ tch C + 5)) ∧ ∀ b ∈ Δ1, nsch b = true ∨ (true = true ∧ tch b ≤ tch C + 5)) (hb : cch (cxs Δ1 Γ0 (tAll tTop C)) + dch Δ + 2 * mch t ≤ 58) (h20 : 20 ≤ cch (cxs Δ1 Γ0 (tAll tTop C))) (h49 : cch (cxs Δ1 Γ0 (tAll tTop C)) ≤ 47) : NtV (cxs Δ1 Γ0 (tAll tTop C)) Δ f t 887 597 := by sorry
end PmZf

end
section
-- from 99z16
def RsR (x y C : Ty) (Γ0 Δ1 : List Ty) (Δ : List (Nat × Ty × Nat)) : Prop := Δ ≠ [] ∧ 8 ≤ hd C ∧ memt [(22, 11, 0), (23, 11, 0), (27, 11, 0)] (tch C) (cch Γ0) (cch Δ1) = true ∧ (mch x < 6 ∨ mch y < 6)
def RsD (f : Nat) (x y C : Ty) (Γ0 Δ1 : List Ty) (Δ : List (Nat × Ty × Nat)) : Prop := LFn f x y C Γ0 Δ1 Δ ∧ ((phf (fun _ => true) C = true ∧ ndk (cch Γ0) (cch Δ1) = true ∧ ¬ HKd 0 tTop C Γ0) ∨ (phf (fun _ => true) C = true ∧ (memt [(10, 0, 22)] (tch C) (cch Γ0) (cch Δ1) = true ∨ (kdt C ≠ 1 ∧ kdt C ≠ 4 ∧ memt exV (tch C) (cch Γ0) (cch Δ1) = true))) ∨ (noh 0 C = true ∧ (∃ b ∈ Γ0, noh 0 b = false) ∧ RsR x y C Γ0 Δ1 Δ))
def LeftE (f : Nat) (x y : Ty) (Γ : List Ty) (Δ : List (Nat × Ty × Nat)) : Prop := ∃ (Δ1 Γ0 : List Ty) (b : Ty), Γ = cxs Δ1 Γ0 b ∧ nsch b = false ∧ ((∀ a ∈ Γ0, nsch a = true ∨ tch a ≤ tch b) ∧ ∀ a ∈ Δ1, nsch a = true ∨ tch a ≤ tch b) ∧ ((∀ B C, b ≠ tAll B C) ∨ (∃ B C, b = tAll B C ∧ B ≠ tTop) ∨ ∃ (C : Ty), b = tAll tTop C ∧ RsD f x y C Γ0 Δ1 Δ)
def RESTd : Prop := ∀ (f : Nat) (x y : Ty) (Γ : List Ty) (Δ : List (Nat × Ty × Nat)), TWf f Γ.length (Δ.map (fun a => a.1)) x → TWf f Γ.length (Δ.map (fun a => a.1)) y → TE Γ Δ → NAt f x → NAt f y → noac Γ → (∀ a ∈ Δ, noal a.2.1 = true) → TNo f x → TNo f y → 3 ≤ mch x → 3 ≤ mch y → (mch x ≤ mch y → ¬ NOp f x) → (¬ mch x ≤ mch y → ¬ NOp f y) → 20 ≤ cch Γ → cch Γ ≤ 47 → cch Γ + dch Δ + (2 + (mch x + mch y)) ≤ 60 → NoG f x y Γ Δ → (¬ ((mch x ≤ mch y → CHo f x []) ∧ (¬ mch x ≤ mch y → CHo f y [])) ∨ LeftE f x y Γ Δ) → PRn f x y Γ Δ
theorem restc_of (R : RESTd) : RESTc := by sorry
end
section
-- from 99z17
def frz (F : FrT) (n : Nat) : List (Nat × Nat) := if n = 0 then [(0, 0)] else frg F n
def rr2 (r1 r2 r3 w : Nat) : Nat := if w = 2 then r1 else if w = 4 then r2 else r3
def rfc (F : FrT) (V : List (Nat × Nat)) (r1 r2 r3 n : Nat) : Bool := (List.range n).all (fun i => (List.range n).all (fun j => (List.range n).all (fun k => !(Nat.beq (1 + jz i + jz j + jz k + (i + (j + k))) n) || (frz F i).all (fun a => (frz F j).all (fun b => (frz F k).all (fun c => V.any (fun v => Nat.ble (a.1 + (b.1 + c.1)) v.1 && Nat.ble (rr2 r1 r2 r3 (jz i + jz j + jz k) + (a.2 + (b.2 + c.2))) v.2)))))))
theorem rec_form {F : FrT} {V : List (Nat × Nat)} {t0 s2 hv r0 r1 r2 r3 d : Nat} {n1 : Nat → Nat} {C : Ty} (xf : ∀ t, ok d t = true → tch t ≤ 40 → ∃ p ∈ frg F (tch t), XFm t0 n1 s2 hv d t p.1 p.2) (hr : ∀ m, m < 8 → n1 (8 + m) ≤ (if nlb m = 0 then r0 else if nlb m = 1 then r1 else if nlb m = 2 then r2 else r3)) (ck : rfc F V r1 r2 r3 (tch C) = true) (o : ok d C = true) (h8 : 8 ≤ hd C) (h16 : hd C < 16) (h3 : 3 ≤ tch C) (h40 : tch C ≤ 40) : ∃ v ∈ V, xt d C ≤ v.1 ∧ xa t0 n1 s2 hv d C ≤ v.2 := by sorry
def xrr1 : FrT := [[], [], [], [], [], [], [], [], [], [], [], [], [], [], [], [], [], [], [], [], [], [], [(6, 18), (4, 27)], [(6, 18), (4, 27), (2, 29), (0, 31)], [], [], [], [(9, 24), (8, 31), (6, 39), (4, 43), (0, 45)]]
def xrrq : FrT := [[], [], [], [], [], [], [], [], [], [], [], [], [], [], [], [], [], [], [], [], [], [], [(6, 9), (4, 15), (3, 16), (2, 23), (0, 25)], [(6, 12), (4, 19), (3, 24), (0, 27)], [], [], [], [(9, 15), (7, 17), (6, 27), (4, 31), (3, 33), (0, 36)]]
def tr9 : List (Nat × Nat × Nat) := [(22, 11, 0), (23, 11, 0), (27, 11, 0)]
theorem xrr1_ok : tr9.all (fun s => rfc xr1 (frg xrr1 s.1) 2 2 2 s.1) = true := by sorry
theorem xrrq_ok : tr9.all (fun s => rfc xrq (frg xrrq s.1) 3 2 1 s.1) = true := by sorry
def yr9 : LnT := [[], [], [], [], [], [], [], [], [], [], [], [], [], [], [], [], [], [], [], [], [], [], [], [], [], [], [], [], [], [], [], [], [], [], [], [], [], [], [], [], [], [], [(70, 0, 66, 0, 4, 22), (64, 0, 58, 1, 4, 22), (58, 0, 50, 2, 4, 22), (52, 0, 42, 3, 4, 22), (46, 0, 34, 4, 4, 22), (40, 0, 26, 5, 4, 22), (34, 0, 18, 6, 4, 22)], [(70, 0, 66, 0, 4, 23), (64, 0, 58, 1, 4, 23), (58, 0, 50, 2, 4, 23), (52, 0, 42, 3, 4, 23), (46, 0, 34, 4, 4, 23), (40, 0, 26, 5, 4, 23), (34, 0, 18, 6, 4, 23)], [], [], [], [(100, 0, 96, 0, 4, 27), (94, 0, 88, 1, 4, 27), (88, 0, 80, 2, 4, 27), (82, 0, 72, 3, 4, 27), (76, 0, 64, 4, 4, 27), (70, 0, 56, 5, 4, 27), (64, 0, 48, 6, 4, 27), (58, 0, 40, 7, 4, 27), (52, 0, 32, 8, 4, 27), (46, 0, 24, 9, 4, 27)]]
def yrq : LnT := [[], [], [], [], [], [], [], [], [], [], [], [], [], [], [], [], [], [], [], [], [], [], [], [], [], [], [], [], [], [], [], [], [], [], [], [], [], [], [], [], [], [], [(52, 0, 51, 0, 4, 22), (46, 0, 44, 1, 4, 22), (40, 0, 37, 2, 4, 22), (34, 0, 30, 3, 4, 22), (28, 0, 23, 4, 4, 22), (22, 0, 16, 5, 4, 22), (16, 0, 9, 6, 4, 22)], [(55, 0, 54, 0, 4, 23), (49, 0, 47, 1, 4, 23), (43, 0, 40, 2, 4, 23), (37, 0, 33, 3, 4, 23), (31, 0, 26, 4, 4, 23), (25, 0, 19, 5, 4, 23), (19, 0, 12, 6, 4, 23)], [], [], [], [(79, 0, 78, 0, 4, 27), (73, 0, 71, 1, 4, 27), (67, 0, 64, 2, 4, 27), (61, 0, 57, 3, 4, 27), (55, 0, 50, 4, 4, 27), (49, 0, 43, 5, 4, 27), (43, 0, 36, 6, 4, 27), (37, 0, 29, 7, 4, 27), (31, 0, 22, 8, 4, 27), (25, 0, 15, 9, 4, 27)]]
theorem yr9_k : lnkb yr9 = true := by sorry
theorem yr9_w : lnw yr9 2 = true := by sorry
theorem yrq_k : lnkb yrq = true := by sorry
theorem yrq_w : lnw yrq 1 = true := by sorry
theorem yr9_z : tr9.all (fun s => lnz yr9 xrr1 fg1 fx1 1 3 2 s.1 s.2.1 s.2.2 4) = true := by sorry
theorem yrq_z : tr9.all (fun s => lnz yrq xrrq fgq fxq 0 1 1 s.1 s.2.1 s.2.2 4) = true := by sorry
theorem yr9_d : lne false false yr9 fr1 fg1 1 2 3 2 2 2 2 2 887 20 48 3 6 = true := by sorry
theorem yrq_d : lne false false yrq frq fgq 0 1 1 1 3 2 1 1 597 20 48 3 6 = true := by sorry
section PmZg
variable {f : Nat} {t C : Ty} {Γ0 Δ1 : List Ty} {Δ : List (Nat × Ty × Nat)}
theorem nat_r (w : TWf f (cxs Δ1 Γ0 (tAll tTop C)).length (Δ.map (fun a => a.1)) t) (he : TE (cxs Δ1 Γ0 (tAll tTop C)) Δ) (hΔ : Δ ≠ []) (m3 : 3 ≤ mch t) (m5 : mch t < 6) (co : COk f t 0) (h8 : 8 ≤ hd C) (hz : (tch C, cch Γ0, cch Δ1) ∈ tr9) (hfl : ∃ b ∈ Γ0, noh 0 b = false) (ho : ∀ b ∈ Γ0, nsch b = true ∨ (true = true ∧ tch b ≤ tch C + 5)) (hb : cch (cxs Δ1 Γ0 (tAll tTop C)) + dch Δ + 2 * mch t ≤ 58) (h20 : 20 ≤ cch (cxs Δ1 Γ0 (tAll tTop C))) (h49 : cch (cxs Δ1 Γ0 (tAll tTop C)) ≤ 47) : NtV (cxs Δ1 Γ0 (tAll tTop C)) Δ f t 887 597 := by sorry
end PmZg

end
section
-- from 99z18
def RsE (f : Nat) (x y C : Ty) (Γ0 Δ1 : List Ty) (Δ : List (Nat × Ty × Nat)) : Prop := LFn f x y C Γ0 Δ1 Δ ∧ phf (fun _ => true) C = true ∧ ((ndk (cch Γ0) (cch Δ1) = true ∧ ¬ HKd 0 tTop C Γ0) ∨ memt [(10, 0, 22)] (tch C) (cch Γ0) (cch Δ1) = true ∨ (kdt C ≠ 1 ∧ kdt C ≠ 4 ∧ memt exV (tch C) (cch Γ0) (cch Δ1) = true))
def LeftF (f : Nat) (x y : Ty) (Γ : List Ty) (Δ : List (Nat × Ty × Nat)) : Prop := ∃ (Δ1 Γ0 : List Ty) (b : Ty), Γ = cxs Δ1 Γ0 b ∧ nsch b = false ∧ ((∀ a ∈ Γ0, nsch a = true ∨ tch a ≤ tch b) ∧ ∀ a ∈ Δ1, nsch a = true ∨ tch a ≤ tch b) ∧ ((∀ B C, b ≠ tAll B C) ∨ (∃ B C, b = tAll B C ∧ B ≠ tTop) ∨ ∃ (C : Ty), b = tAll tTop C ∧ RsE f x y C Γ0 Δ1 Δ)
def RESTe : Prop := ∀ (f : Nat) (x y : Ty) (Γ : List Ty) (Δ : List (Nat × Ty × Nat)), TWf f Γ.length (Δ.map (fun a => a.1)) x → TWf f Γ.length (Δ.map (fun a => a.1)) y → TE Γ Δ → NAt f x → NAt f y → noac Γ → (∀ a ∈ Δ, noal a.2.1 = true) → TNo f x → TNo f y → 3 ≤ mch x → 3 ≤ mch y → (mch x ≤ mch y → ¬ NOp f x) → (¬ mch x ≤ mch y → ¬ NOp f y) → 20 ≤ cch Γ → cch Γ ≤ 47 → cch Γ + dch Δ + (2 + (mch x + mch y)) ≤ 60 → NoG f x y Γ Δ → (¬ ((mch x ≤ mch y → CHo f x []) ∧ (¬ mch x ≤ mch y → CHo f y [])) ∨ LeftF f x y Γ Δ) → PRn f x y Γ Δ
theorem restd_of (R : RESTe) : RESTd := by sorry
end
section
-- from 99z19
def tb9 : List (Nat × Nat × Nat) := [(10, 0, 22), (23, 0, 9), (15, 0, 17)]
def exW : List (Nat × Nat × Nat) := [(12, 0, 26), (15, 0, 22), (15, 0, 23), (16, 0, 22), (27, 0, 9), (27, 0, 10), (27, 0, 11), (28, 0, 9), (28, 0, 10), (29, 0, 9)]
def nvp (e co : Bool) (m k q1 q2 : Nat) : Bool := npl true e co m k q1 q2 || nvl true e co m k q1 q2
theorem b9E : tb9.all (fun s => (List.range 20).all (fun m => Nat.blt m 3 || (Nat.blt 58 (9 + s.1 + s.2.1 + s.2.2 + 2 * m) || (nvp true true m s.1 s.2.1 s.2.2 && nvp true false m s.1 s.2.1 s.2.2)))) = true := by sorry
theorem b9A : tb9.all (fun s => (List.range 20).all (fun m => Nat.blt m 3 || (Nat.blt 58 (9 + s.1 + s.2.1 + s.2.2 + 2 * m + 5) || (nvp false true m s.1 s.2.1 s.2.2 && (Nat.ble m 6 || nvp false false m s.1 s.2.1 s.2.2))))) = true := by sorry
theorem b9c : tb9.all (fun s => Nat.beq (9 + s.1 + s.2.1 + s.2.2) 41) = true := by sorry
section PmZh
variable {f : Nat} {s x y C : Ty} {Γ0 Δ1 : List Ty} {Δ : List (Nat × Ty × Nat)}
theorem nat_q (hp : phf (fun _ => true) C = true) (w : TWf f (cxs Δ1 Γ0 (tAll tTop C)).length (Δ.map (fun a => a.1)) s) (he : TE (cxs Δ1 Γ0 (tAll tTop C)) Δ) (tn : TNo f s) (ch : CHo f s []) (hz : memt tb9 (tch C) (cch Γ0) (cch Δ1) = true) (ho : (∀ b ∈ Γ0, nsch b = true ∨ (true = true ∧ tch b ≤ tch C + 5)) ∧ ∀ b ∈ Δ1, nsch b = true ∨ (true = true ∧ tch b ≤ tch C + 5)) (m3 : 3 ≤ mch s) (hb : cch (cxs Δ1 Γ0 (tAll tTop C)) + dch Δ + 2 * mch s ≤ 58) (h20 : 20 ≤ cch (cxs Δ1 Γ0 (tAll tTop C))) (h49 : cch (cxs Δ1 Γ0 (tAll tTop C)) ≤ 47) : NtV (cxs Δ1 Γ0 (tAll tTop C)) Δ f s 887 597 := by sorry
end PmZh
def RsG (f : Nat) (x y C : Ty) (Γ0 Δ1 : List Ty) (Δ : List (Nat × Ty × Nat)) : Prop := LFn f x y C Γ0 Δ1 Δ ∧ phf (fun _ => true) C = true ∧ ((ndk (cch Γ0) (cch Δ1) = true ∧ ¬ HKd 0 tTop C Γ0) ∨ (kdt C ≠ 1 ∧ kdt C ≠ 4 ∧ memt exW (tch C) (cch Γ0) (cch Δ1) = true))
def LeftG (f : Nat) (x y : Ty) (Γ : List Ty) (Δ : List (Nat × Ty × Nat)) : Prop := ∃ (Δ1 Γ0 : List Ty) (b : Ty), Γ = cxs Δ1 Γ0 b ∧ nsch b = false ∧ ((∀ a ∈ Γ0, nsch a = true ∨ tch a ≤ tch b) ∧ ∀ a ∈ Δ1, nsch a = true ∨ tch a ≤ tch b) ∧ ((∀ B C, b ≠ tAll B C) ∨ (∃ B C, b = tAll B C ∧ B ≠ tTop) ∨ ∃ (C : Ty), b = tAll tTop C ∧ RsG f x y C Γ0 Δ1 Δ)
def RESTf : Prop := ∀ (f : Nat) (x y : Ty) (Γ : List Ty) (Δ : List (Nat × Ty × Nat)), TWf f Γ.length (Δ.map (fun a => a.1)) x → TWf f Γ.length (Δ.map (fun a => a.1)) y → TE Γ Δ → NAt f x → NAt f y → noac Γ → (∀ a ∈ Δ, noal a.2.1 = true) → TNo f x → TNo f y → 3 ≤ mch x → 3 ≤ mch y → (mch x ≤ mch y → ¬ NOp f x) → (¬ mch x ≤ mch y → ¬ NOp f y) → 20 ≤ cch Γ → cch Γ ≤ 47 → cch Γ + dch Δ + (2 + (mch x + mch y)) ≤ 60 → NoG f x y Γ Δ → (¬ ((mch x ≤ mch y → CHo f x []) ∧ (¬ mch x ≤ mch y → CHo f y [])) ∨ LeftG f x y Γ Δ) → PRn f x y Γ Δ
theorem reste_of (R : RESTf) : RESTe := by sorry
end
section
-- from 99z20
theorem pairn_of (R : RESTf) : PAIRn := by sorry
end
section
-- from 99z21
def exL : List (Nat × Nat × Nat) := [(27, 0, 9), (27, 0, 10), (27, 0, 11), (28, 0, 9), (28, 0, 10), (29, 0, 9)]
section PmZi
variable {f : Nat} {x y C : Ty} {Γ0 Δ1 : List Ty} {Δ : List (Nat × Ty × Nat)}
theorem pair_L (H : HKd 0 tTop C Γ0) (x1 : TWf f (cxs Δ1 Γ0 (tAll tTop C)).length (Δ.map (fun a => a.1)) x) (x2 : TWf f (cxs Δ1 Γ0 (tAll tTop C)).length (Δ.map (fun a => a.1)) y) (he : TE (cxs Δ1 Γ0 (tAll tTop C)) Δ) (y1 : NAt f x) (y2 : NAt f y) (hv : noac (cxs Δ1 Γ0 (tAll tTop C))) (hd' : ∀ a ∈ Δ, noal a.2.1 = true) (t1 : TNo f x) (t2 : TNo f y) (nΔ : Δ ≠ []) (hz : memt exL (tch C) (cch Γ0) (cch Δ1) = true) (m3 : 3 ≤ mch x) (n3 : 3 ≤ mch y) (hb : cch (cxs Δ1 Γ0 (tAll tTop C)) + dch Δ + (2 + (mch x + mch y)) ≤ 60) (h49 : cch (cxs Δ1 Γ0 (tAll tTop C)) ≤ 47) : PRn f x y (cxs Δ1 Γ0 (tAll tTop C)) Δ ∨ (memt [(27, 0, 9)] (tch C) (cch Γ0) (cch Δ1) = true ∧ mch x + mch y = 8 ∧ ¬ (CFt f x ∧ CFt f y)) := by sorry
end PmZi

end
section
-- from 99z22
section PmZj
variable {t0 s2 : Nat} {n1 h : Nat → Nat}
theorem vz_Es {E E' : Stk → Nat} : ∀ (f : Nat) (t : Ty) (ρ : Stk) (ω : List Nat), (flat t).length ≤ f → ok ω.length t = true → (∀ σ : Stk, σ ≠ [] → σ.length ≤ ρ.length → E σ ≤ E' σ) → vz t0 n1 s2 h E t ρ ω ≤ vz t0 n1 s2 h E' t ρ ω := by sorry
def E5 (X7 : Nat) (eb es e2 : Nat → Nat) (π : Stk) : Nat := if π.length ≤ 2 then E2 X7 eb es π else E2 X7 eb e2 π
variable {X7 : Nat} {eb es e2 : Nat → Nat}
theorem E2_le (les : ∀ z, es z ≤ e2 z) (π : Stk) : E2 X7 eb es π ≤ E2 X7 eb e2 π := by sorry
theorem E5_b (les : ∀ z, es z ≤ e2 z) (π : Stk) : E5 X7 eb es e2 π ≤ E2 X7 eb e2 π := by sorry
theorem E5_s {π : Stk} (h : π.length ≤ 2) : E5 X7 eb es e2 π = E2 X7 eb es π := by sorry
theorem E5_l {π : Stk} (h : ¬ π.length ≤ 2) : E5 X7 eb es e2 π = E2 X7 eb e2 π := by sorry
theorem vz_E5 (les : ∀ z, es z ≤ e2 z) {t : Ty} {ρ : Stk} {ω : List Nat} (o : ok ω.length t = true) (hs : ρ.length ≤ 2 → vz t0 n1 s2 h (E2 X7 eb es) t ρ ω ≤ E2 X7 eb es ρ) (hb : vz t0 n1 s2 h (E2 X7 eb e2) t ρ ω ≤ E2 X7 eb e2 ρ) : vz t0 n1 s2 h (E5 X7 eb es e2) t ρ ω ≤ E5 X7 eb es e2 ρ := by sorry
theorem SKb_len {Z : Nat → Nat → Nat} {gy : Nat → Nat} {b : Nat} : ∀ (π : Stk) (w : Nat), SKb Z gy b π w → 2 * π.length ≤ w := by sorry
theorem SKb_zl {Z : Nat → Nat → Nat} {gy : Nat → Nat} {b : Nat} (hZ : ∀ s s', s ≤ s' → Z b s ≤ Z b s') : ∀ (π : Stk) (w : Nat), SKb Z gy b π w → zm π ≤ Z b (w + 1 - 2 * π.length) := by sorry
def H5 (X7 : Nat) (eb es e2 : Nat → Nat) (Z : Nat → Nat) (w : Nat) : Nat := max (Hdw X7 eb es Z w) (if Nat.ble 6 w then e2 (Z (w - 5)) else 0)
theorem E5_w {gy : Nat → Nat} {Z : Nat → Nat → Nat} {b : Nat} (he : ∀ z z', z ≤ z' → eb z ≤ eb z') (hes : ∀ z z', z ≤ z' → es z ≤ es z') (he2 : ∀ z z', z ≤ z' → e2 z ≤ e2 z') (hZ : ∀ s s', s ≤ s' → Z b s ≤ Z b s') (π : Stk) (w : Nat) (sk : SKb Z gy b π w) : E5 X7 eb es e2 π ≤ H5 X7 eb es e2 (Z b) w := by sorry
theorem DHy5 {un : Bool} {a5 fn r0 r1 r2 r3 mt : Nat} {V gy : Nat → Nat} {Z Ha Hb : Nat → Nat → Nat} {D D' : Nat → Nat → Nat → Nat} (he : ∀ z z', z ≤ z' → eb z ≤ eb z') (hes : ∀ z z', z ≤ z' → es z ≤ es z') (he2 : ∀ z z', z ≤ z' → e2 z ≤ e2 z') (les : ∀ z, es z ≤ e2 z) (ds : DHy un a5 t0 fn s2 r0 r1 r2 r3 mt n1 h V gy Z Ha (E2 X7 eb es) D) (db : DHy un a5 t0 fn s2 r0 r1 r2 r3 mt n1 h V gy Z Hb (E2 X7 eb e2) D') : DHy un a5 t0 fn s2 r0 r1 r2 r3 mt n1 h V gy Z (fun b => H5 X7 eb es e2 (Z b)) (E5 X7 eb es e2) (DT un a5 fn s2 r0 r1 r2 r3 V Z (fun b => H5 X7 eb es e2 (Z b)) mt) := by sorry
theorem DVn5 {V0 : Nat} {ω : List Nat} {Δ : List (Nat × Ty × Nat)} (les : ∀ z, es z ≤ e2 z) (ds : DVn t0 n1 s2 h (E2 X7 eb es) V0 ω Δ) (db : DVn t0 n1 s2 h (E2 X7 eb e2) V0 ω Δ) : DVn t0 n1 s2 h (E5 X7 eb es e2) V0 ω Δ := by sorry
def HEs (t0 : Nat) (n1 : Nat → Nat) (s2 : Nat) (h : Nat → Nat) (X7 : Nat) (eb es : Nat → Nat) : List Ty → List Nat → Prop
  | [], [] => True
  | b :: Γ, _ :: ω => (∀ ρ, ρ ≠ [] → ρ.length ≤ 2 → vz t0 n1 s2 h (E2 X7 eb es) b ρ ω ≤ E2 X7 eb es ρ) ∧ HEs t0 n1 s2 h X7 eb es Γ ω
  | _, _ => False
theorem HEs_of : ∀ {Γ : List Ty} {ω : List Nat}, HEk t0 n1 s2 h (E2 X7 eb es) Γ ω → HEs t0 n1 s2 h X7 eb es Γ ω := by sorry
theorem HEk5 (les : ∀ z, es z ≤ e2 z) : ∀ {Γ : List Ty} {ω : List Nat}, okc Γ → ω.length = Γ.length → HEk t0 n1 s2 h (E2 X7 eb e2) Γ ω → HEs t0 n1 s2 h X7 eb es Γ ω → HEk t0 n1 s2 h (E5 X7 eb es e2) Γ ω := by sorry
theorem vz_s5 (he : ∀ z z', z ≤ z' → eb z ≤ eb z') (he2 : ∀ z z', z ≤ z' → es z ≤ es z') (hm : ∀ y y', y ≤ y' → h y ≤ h y') {B C : Ty} {ω : List Nat} (o : ok ω.length (tAll B C) = true) (hC : hd C ≠ 2 ∧ hd C < 16) (hz : ∀ z, nz t0 n1 s2 h (hzx h z (nz t0 n1 s2 h ω B) :: ω) C ≤ eb z) : ∀ ρ : Stk, ρ ≠ [] → ρ.length ≤ 2 → vz t0 n1 s2 h (E2 X7 eb es) (tAll B C) ρ ω ≤ E2 X7 eb es ρ := by sorry
theorem HEs_cx {y : Nat} {B C β' : Ty} {Γ0 : List Ty} (hn : NC t0 n1 s2 h) (hm : ∀ y y', y ≤ y' → h y ≤ h y') (hh : ∀ y δ, h (y + δ) ≤ h y + δ) (he : ∀ z z', z ≤ z' → eb z ≤ eb z') (he2 : ∀ z z', z ≤ z' → es z ≤ es z') (h7 : y ≤ X7) (hC : hd C ≠ 2 ∧ hd C < 16) (hz : ∀ z, nz t0 n1 s2 h (hzx h z (nz t0 n1 s2 h (onz t0 n1 s2 h Γ0) B) :: onz t0 n1 s2 h Γ0) C ≤ eb z) (hp0 : ∀ b ∈ Γ0, nsch b = true ∨ ∀ z, y + flv b * z ≤ eb z) : ∀ (Δ1 : List Ty), okc (cxs Δ1 Γ0 (tAll B C)) → (∀ j, j < (cxs Δ1 Γ0 β').length → vw (onz t0 n1 s2 h (cxs Δ1 Γ0 β')) j ≤ y) → (∀ b ∈ Δ1, nsch b = true ∨ ∀ z, y + flv b * z ≤ eb z) → HEs t0 n1 s2 h X7 eb es (cxs Δ1 Γ0 (tAll B C)) (onz t0 n1 s2 h (cxs Δ1 Γ0 β')) := by sorry
end PmZj
section PmZk
variable {t0 fn s2 hv r0 r1 r2 r3 x0 : Nat} {n1 h : Nat → Nat} {P Q : List (List Nat)} {F G W : FrT} {X : List Nat} {B C β' : Ty} {Γ0 : List Ty}
def dp5 (un : Bool) (F W : FrT) (a5 hv fn s2 r0 r1 r2 r3 E0 p wB ob k y cd m : Nat) : Nat := DT un a5 fn s2 r0 r1 r2 r3 (Vbw F W y cd) (Zbw F W y) (fun b => H5 (X7w F W y cd m) (ebw F W hv y cd m E0 p wB ob) (e2w F W hv y cd m 0) (e2w F W hv y cd m k) (Zbw F W y b)) m m 0 0
theorem gen_fin7 (hn : NC t0 n1 s2 h) (hm : ∀ y y', y ≤ y' → h y ≤ h y') (hh : ∀ y δ, h (y + δ) ≤ h y + δ) (T : TBs 58 t0 fn s2 hv r0 r1 r2 r3 x0 n1 h P Q F G X) (hFm : frm F = true) (hgr : fgc F W hv = true) (hWm : fgm W = true) (hW1 : fg1s W = true) (hW : (1, 0) ∈ frg W 0) (H1 : ∀ y, h y ≤ hv + max 1 y) {f : Nat} {t S : Ty} {Δ1 : List Ty} {Δ : List (Nat × Ty × Nat)} {un : Bool} {a5 ob cd wB Bd y E0 p k : Nat} (w : TWf f (cxs Δ1 Γ0 (tAll B C)).length (Δ.map (fun a => a.1)) t) (he : TE (cxs Δ1 Γ0 (tAll B C)) Δ) (cu : un = true ∨ COk f t 0) (hm30 : mch t ≤ 30) (hb0 : ∀ b ∈ Γ0, nsch b = true ∨ flv b ≤ ob) (hb1 : ∀ b ∈ Δ1, nsch b = true ∨ flv b ≤ ob) (hdc : dch Δ ≤ cd) (hcd : cd ≤ 56) (a55 : a5 ≤ 5) (ha5 : Δ ≠ [] → a5 = 0) (y01 : x0 ≤ y) (hw : ∀ j, j < (cxs Δ1 Γ0 β').length → vw (onz t0 n1 s2 h (cxs Δ1 Γ0 β')) j ≤ y) (go : ∀ E Z, AQh t0 n1 s2 h E Z f t [] (onz t0 n1 s2 h (cxs Δ1 Γ0 β')) → HEk t0 n1 s2 h E (cxs Δ1 Γ0 (tAll B C)) (onz t0 n1 s2 h (cxs Δ1 Γ0 β')) → GOk t0 n1 s2 h E f t [] (onz t0 n1 s2 h (cxs Δ1 Γ0 β')) (cxs Δ1 Γ0 (tAll B C)) Δ) (vZ : ∀ z, nz t0 n1 s2 h (hzx h z (nz t0 n1 s2 h (onz t0 n1 s2 h Γ0) B) :: onz t0 n1 s2 h Γ0) C ≤ E0 + p * max z wB) (hwB : h (nz t0 n1 s2 h (onz t0 n1 s2 h Γ0) B) ≤ wB) (wBy : wB ≤ y) (hC : hd C ≠ 2 ∧ hd C < 16) (hk : tch C ≤ k) (hk2 : k ≤ 50) (R1 : dp5 un F W a5 hv fn s2 r0 r1 r2 r3 E0 p wB ob k y cd (mch t) ≤ Bd) (hS : tyF f t (cxs Δ1 Γ0 (tAll B C)) Δ = .inr S) : nz t0 n1 s2 h (onz t0 n1 s2 h (cxs Δ1 Γ0 β')) S ≤ Bd := by sorry
end PmZk

end
section
-- from 99z23
def prn (P Q L : List (Nat × Nat)) (c : Nat) : Bool := P.all (fun p => Q.all (fun q => dom (p.1 + q.1) (c + (p.2 + q.2)) L))
def hpn (s2 hv : Nat) (P Q L : List (Nat × Nat)) : Bool := P.all (fun p => Q.all (fun q => hsp s2 hv p q L))
theorem prn_get {P Q L : List (Nat × Nat)} {c : Nat} (h : prn P Q L c = true) {p q : Nat × Nat} (hp : p ∈ P) (hq : q ∈ Q) : dom (p.1 + q.1) (c + (p.2 + q.2)) L = true := by sorry
theorem hpn_get {s2 hv : Nat} {P Q L : List (Nat × Nat)} (h : hpn s2 hv P Q L = true) {p q : Nat × Nat} (hp : p ∈ P) (hq : q ∈ Q) : hsp s2 hv p q L = true := by sorry
def nst (A B U V X Y : FrT) (fn s2 hv i j : Nat) : Bool :=
  ((prn (frg A i) (frg A j) (frg A (i + j + 1)) fn && (prn (frg B i) (frg A j) (frg B (i + j + 1)) fn && prn (frg A i) (frg B j) (frg B (i + j + 1)) fn)) &&
  (hpn s2 hv (frg A i) (frg A j) (frg A (i + j + 1)) && (hpn s2 hv (frg B i) (frg A j) (frg B (i + j + 1)) && hpn s2 hv (frg A i) (frg B j) (frg B (i + j + 1))))) &&
  ((prn (frg A i) (frg A j) (frg U (i + j)) 0 && (prn (frg B i) (frg A j) (frg V (i + j)) 0 && prn (frg A i) (frg B j) (frg V (i + j)) 0)) &&
  (prn (frg A i) (frg U j) (frg X (i + j)) 0 && (prn (frg B i) (frg U j) (frg Y (i + j)) 0 && prn (frg A i) (frg V j) (frg Y (i + j)) 0)))
def nsu (L M : List (Nat × Nat)) (r : Nat) : Bool := L.all (fun p => dom p.1 (r + p.2) M)
theorem nsu_get {L M : List (Nat × Nat)} {r : Nat} (h : nsu L M r = true) {p : Nat × Nat} (hp : p ∈ L) : dom p.1 (r + p.2) M = true := by sorry
def nso (A B U V X Y : FrT) (s2 hv r1 r2 r3 n : Nat) : Bool :=
  ((nsu (frg A n) (frg A (n + 1)) r1 && (nsu (frg U n) (frg A (n + 1)) r2 && nsu (frg X n) (frg A (n + 1)) r3)) &&
  (nsu (frg B n) (frg B (n + 1)) r1 && (nsu (frg V n) (frg B (n + 1)) r2 && nsu (frg Y n) (frg B (n + 1)) r3))) &&
  (Nat.ble 13 n || hpn s2 hv [(0, 1)] (frg A n) (frg B (n + 2)))
def nfc (A B U V X Y : FrT) (t0 fn s2 hv r0 r1 r2 r3 : Nat) : Bool :=
  (dom 0 t0 (frg A 1) && (dom 1 0 (frg A 1) && dom 0 r0 (frg A 1))) &&
  ((List.range 13).all (fun n => nso A B U V X Y s2 hv r1 r2 r3 (n + 1)) &&
  (List.range 12).all (fun i => (List.range (12 - i)).all (fun j => nst A B U V X Y fn s2 hv (i + 1) (j + 1))))
def nwc (A B V Y : FrT) (W : List (Nat × Nat)) (fn r1 r2 r3 : Nat) : Bool :=
  (List.range 13).all (fun n => nsu (frg B (n + 1)) W r1 && (nsu (frg V (n + 1)) W r2 && nsu (frg Y (n + 1)) W r3)) &&
  (List.range 12).all (fun i => (List.range (12 - i)).all (fun j => prn (frg B (i + 1)) (frg A (j + 1)) W fn && prn (frg A (i + 1)) (frg B (j + 1)) W fn))
section PmZl
variable {A B U V X Y : FrT} {W : List (Nat × Nat)} {t0 fn s2 hv r0 r1 r2 r3 : Nat} {n1 : Nat → Nat}
theorem nfc_o (h : nfc A B U V X Y t0 fn s2 hv r0 r1 r2 r3 = true) {n : Nat} (k1 : 1 ≤ n) (k2 : n ≤ 13) : nso A B U V X Y s2 hv r1 r2 r3 n = true := by sorry
theorem nfc_p (h : nfc A B U V X Y t0 fn s2 hv r0 r1 r2 r3 = true) {i j : Nat} (i1 : 1 ≤ i) (j1 : 1 ≤ j) (k2 : i + j ≤ 13) : nst A B U V X Y fn s2 hv i j = true := by sorry
theorem rec_nodes {K : Nat → Bool} {d m : Nat} {x y z : Ty} (o0 : okl d m 0 x) (o1 : okl d m 1 y) (o2 : okl d m 2 z) : ∃ l : List Ty, (∀ q ∈ l, ok d q = true) ∧ l.length = nlb m ∧ (l.map (xt d)).sum = xt d (tRec m x y z) ∧ n1 (8 + m) + (l.map (xa t0 n1 s2 hv d)).sum = xa t0 n1 s2 hv d (tRec m x y z) ∧ (l.map (fun q => (flat q).length)).sum + 1 = (flat (tRec m x y z)).length ∧ l.any (phf K) = phf K (tRec m x y z) := by sorry
def NFp (A B : FrT) (t0 : Nat) (n1 : Nat → Nat) (s2 hv d : Nat) (t : Ty) : Prop := (∃ p ∈ frg A (flat t).length, XFm t0 n1 s2 hv d t p.1 p.2) ∧ (phf (fun _ => true) t = true → ∃ p ∈ frg B (flat t).length, XFm t0 n1 s2 hv d t p.1 p.2)
theorem nf_two (hc : nfc A B U V X Y t0 fn s2 hv r0 r1 r2 r3 = true) {d : Nat} {a b : Ty} (oa : ok d a = true) (ob : ok d b = true) (ia : NFp A B t0 n1 s2 hv d a) (ib : NFp A B t0 n1 s2 hv d b) (hk : (flat a).length + (flat b).length ≤ 13) : (∃ v ∈ frg U ((flat a).length + (flat b).length), xt d a + xt d b ≤ v.1 ∧ xa t0 n1 s2 hv d a + xa t0 n1 s2 hv d b ≤ v.2) ∧ (phf (fun _ => true) a = true ∨ phf (fun _ => true) b = true → ∃ v ∈ frg V ((flat a).length + (flat b).length), xt d a + xt d b ≤ v.1 ∧ xa t0 n1 s2 hv d a + xa t0 n1 s2 hv d b ≤ v.2) := by sorry
theorem nf_three (hc : nfc A B U V X Y t0 fn s2 hv r0 r1 r2 r3 = true) {d : Nat} {a b c : Ty} (oa : ok d a = true) (ob : ok d b = true) (oc : ok d c = true) (ia : NFp A B t0 n1 s2 hv d a) (ib : NFp A B t0 n1 s2 hv d b) (ic : NFp A B t0 n1 s2 hv d c) (hk : (flat a).length + ((flat b).length + (flat c).length) ≤ 13) : (∃ v ∈ frg X ((flat a).length + ((flat b).length + (flat c).length)), xt d a + (xt d b + xt d c) ≤ v.1 ∧ xa t0 n1 s2 hv d a + (xa t0 n1 s2 hv d b + xa t0 n1 s2 hv d c) ≤ v.2) ∧ (phf (fun _ => true) a = true ∨ phf (fun _ => true) b = true ∨ phf (fun _ => true) c = true → ∃ v ∈ frg Y ((flat a).length + ((flat b).length + (flat c).length)), xt d a + (xt d b + xt d c) ≤ v.1 ∧ xa t0 n1 s2 hv d a + (xa t0 n1 s2 hv d b + xa t0 n1 s2 hv d c) ≤ v.2) := by sorry
theorem nf_rec (hc : nfc A B U V X Y t0 fn s2 hv r0 r1 r2 r3 = true) (hr : ∀ m, m < 8 → n1 (8 + m) ≤ (if nlb m = 0 then r0 else if nlb m = 1 then r1 else if nlb m = 2 then r2 else r3)) {d m : Nat} {x y z : Ty} (hm : m < 8) (o0 : okl d m 0 x) (o1 : okl d m 1 y) (o2 : okl d m 2 z) (hk : (flat (tRec m x y z)).length ≤ 14) (ih : ∀ q, ok d q = true → (flat q).length < (flat (tRec m x y z)).length → NFp A B t0 n1 s2 hv d q) : (nlb m = 0 ∧ XFm t0 n1 s2 hv d (tRec m x y z) 0 r0 ∧ (flat (tRec m x y z)).length = 1 ∧ phf (fun _ => true) (tRec m x y z) = false) ∨ ∃ n, n + 1 = (flat (tRec m x y z)).length ∧ 1 ≤ n ∧ ∃ (r : Nat) (L M : FrT), ((r = r1 ∧ L = A ∧ M = B) ∨ (r = r2 ∧ L = U ∧ M = V) ∨ (r = r3 ∧ L = X ∧ M = Y)) ∧ (∃ v ∈ frg L n, XFm t0 n1 s2 hv d (tRec m x y z) v.1 (r + v.2)) ∧ (phf (fun _ => true) (tRec m x y z) = true → ∃ v ∈ frg M n, XFm t0 n1 s2 hv d (tRec m x y z) v.1 (r + v.2)) := by sorry
theorem nf_form (hc : nfc A B U V X Y t0 fn s2 hv r0 r1 r2 r3 = true) (ht0 : t0 ≤ 1) (hf1 : n1 1 ≤ fn) (hr : ∀ m, m < 8 → n1 (8 + m) ≤ (if nlb m = 0 then r0 else if nlb m = 1 then r1 else if nlb m = 2 then r2 else r3)) : ∀ (f : Nat) (t : Ty) (d : Nat), (flat t).length ≤ f → ok d t = true → (flat t).length ≤ 14 → NFp A B t0 n1 s2 hv d t := by sorry
theorem nw_form (hc : nfc A B U V X Y t0 fn s2 hv r0 r1 r2 r3 = true) (hw : nwc A B V Y W fn r1 r2 r3 = true) (ht0 : t0 ≤ 1) (hf1 : n1 1 ≤ fn) (hr : ∀ m, m < 8 → n1 (8 + m) ≤ (if nlb m = 0 then r0 else if nlb m = 1 then r1 else if nlb m = 2 then r2 else r3)) {t : Ty} {d : Nat} (o : ok d t = true) (hk : (flat t).length ≤ 14) (hp : phf (fun _ => true) t = true) (kd : kdt t = 1 ∨ kdt t = 4) : ∃ v ∈ W, XFm t0 n1 s2 hv d t v.1 v.2 := by sorry
end PmZl
def nA1 : FrT := [[], [(1, 0), (0, 2)], [(1, 2), (0, 4)], [(2, 2), (1, 5), (0, 6)], [(3, 2), (2, 4), (1, 7), (0, 8)], [(3, 4), (2, 9), (1, 10), (0, 11)], [(4, 4), (3, 11), (1, 12), (0, 15)], [(5, 4), (4, 11), (3, 14), (2, 17), (0, 20)], [(6, 14), (4, 15), (3, 23), (0, 26)], [(9, 14), (6, 20), (4, 25), (3, 29), (0, 32)], [(9, 20), (6, 35), (3, 38), (0, 41)], [(12, 20), (10, 22), (9, 41), (3, 44), (0, 53)], [(15, 22), (12, 41), (9, 50), (6, 59), (0, 68)], [(18, 50), (12, 55), (10, 57), (9, 77), (0, 86)], [(27, 50), (18, 68), (12, 83), (9, 95), (0, 104)]]
def nB1 : FrT := [[], [], [], [(1, 3), (0, 5)], [(1, 5), (0, 7)], [(2, 5), (1, 8), (0, 10)], [(3, 5), (2, 7), (1, 10), (0, 12)], [(3, 7), (2, 13), (1, 14), (0, 17)], [(4, 7), (3, 17), (1, 18), (0, 23)], [(5, 7), (4, 17), (3, 23), (0, 29)], [(6, 23), (3, 32), (0, 38)], [(9, 23), (6, 29), (4, 33), (3, 38), (0, 44)], [(9, 29), (8, 31), (6, 47), (3, 50), (0, 59)], [(12, 31), (10, 37), (9, 59), (3, 62), (1, 65), (0, 77)], [(15, 37), (12, 59), (9, 77), (1, 81), (0, 95)]]
def nU1 : FrT := [[], [], [(2, 0), (1, 2), (0, 4)], [(2, 2), (1, 4), (0, 6)], [(3, 2), (2, 5), (1, 7), (0, 8)], [(4, 2), (3, 4), (2, 7), (1, 9), (0, 10)], [(4, 4), (3, 9), (2, 11), (1, 12), (0, 13)], [(5, 4), (4, 11), (3, 13), (1, 15), (0, 17)], [(6, 4), (5, 11), (4, 14), (3, 17), (2, 19), (1, 20), (0, 22)], [(7, 14), (6, 16), (4, 23), (3, 25), (1, 26), (0, 28)], [(10, 14), (9, 16), (7, 20), (6, 22), (5, 25), (4, 29), (3, 31), (1, 32), (0, 34)], [(10, 20), (9, 22), (7, 35), (6, 37), (4, 38), (3, 40), (1, 41), (0, 43)], [(13, 20), (12, 22), (10, 41), (9, 43), (4, 44), (3, 46), (1, 53), (0, 55)], [(16, 22), (15, 24), (13, 41), (12, 43), (10, 50), (9, 52), (7, 59), (6, 61), (1, 68), (0, 70)], [(19, 50), (18, 52), (13, 55), (12, 57), (10, 77), (9, 79), (1, 86), (0, 88)]]
def nV1 : FrT := [[], [], [], [], [(2, 3), (1, 5), (0, 7)], [(2, 5), (1, 7), (0, 9)], [(3, 5), (2, 8), (1, 10), (0, 12)], [(4, 5), (3, 7), (2, 10), (1, 12), (0, 14)], [(4, 7), (3, 13), (2, 15), (1, 17), (0, 19)], [(5, 7), (4, 17), (3, 19), (1, 23), (0, 25)], [(6, 7), (5, 17), (4, 23), (3, 25), (1, 29), (0, 31)], [(7, 23), (6, 25), (4, 32), (3, 34), (1, 38), (0, 40)], [(10, 23), (9, 25), (7, 29), (6, 31), (5, 33), (4, 38), (3, 40), (1, 44), (0, 46)], [(10, 29), (9, 31), (8, 33), (7, 47), (6, 49), (4, 50), (3, 52), (1, 59), (0, 61)], [(13, 31), (12, 33), (11, 37), (10, 59), (9, 61), (4, 62), (3, 64), (2, 65), (1, 77), (0, 79)]]
def nX1 : FrT := [[], [], [], [(3, 0), (2, 2), (1, 4), (0, 6)], [(3, 2), (2, 4), (1, 6), (0, 8)], [(4, 2), (3, 5), (2, 7), (1, 9), (0, 10)], [(5, 2), (4, 4), (3, 7), (2, 9), (1, 11), (0, 12)], [(5, 4), (4, 9), (3, 11), (2, 13), (1, 14), (0, 15)], [(6, 4), (5, 11), (4, 13), (3, 15), (1, 17), (0, 19)], [(7, 4), (6, 11), (5, 14), (4, 17), (3, 19), (2, 21), (1, 22), (0, 24)], [(8, 14), (7, 16), (6, 18), (5, 23), (4, 25), (3, 27), (1, 28), (0, 30)], [(11, 14), (10, 16), (9, 18), (8, 20), (7, 22), (6, 25), (5, 29), (4, 31), (3, 33), (1, 34), (0, 36)], [(11, 20), (10, 22), (9, 24), (8, 35), (7, 37), (6, 39), (4, 40), (3, 42), (1, 43), (0, 45)], [(14, 20), (13, 22), (12, 24), (11, 41), (10, 43), (9, 45), (4, 46), (3, 48), (2, 53), (1, 55), (0, 57)], [(17, 22), (16, 24), (15, 26), (14, 41), (13, 43), (12, 45), (11, 50), (10, 52), (9, 54), (8, 59), (7, 61), (6, 63), (2, 68), (1, 70), (0, 72)]]
def nY1 : FrT := [[], [], [], [], [], [(3, 3), (2, 5), (1, 7), (0, 9)], [(3, 5), (2, 7), (1, 9), (0, 11)], [(4, 5), (3, 8), (2, 10), (1, 12), (0, 14)], [(5, 5), (4, 7), (3, 10), (2, 12), (1, 14), (0, 16)], [(5, 7), (4, 13), (3, 15), (2, 17), (1, 19), (0, 21)], [(6, 7), (5, 17), (4, 19), (3, 21), (2, 23), (1, 25), (0, 27)], [(7, 7), (6, 17), (5, 23), (4, 25), (3, 27), (2, 29), (1, 31), (0, 33)], [(8, 23), (7, 25), (6, 27), (5, 32), (4, 34), (3, 36), (2, 38), (1, 40), (0, 42)], [(11, 23), (10, 25), (9, 27), (8, 29), (7, 31), (6, 33), (5, 38), (4, 40), (3, 42), (2, 44), (1, 46), (0, 48)], [(11, 29), (10, 31), (9, 33), (8, 47), (7, 49), (6, 51), (4, 52), (3, 54), (2, 59), (1, 61), (0, 63)]]
def nW1 : List (Nat × Nat) := [(12, 33), (10, 39), (9, 61), (3, 64), (1, 67), (0, 79)]
theorem nf1_ok : nfc nA1 nB1 nU1 nV1 nX1 nY1 0 2 3 1 2 2 2 2 = true := by sorry
theorem nw1_ok : nwc nA1 nB1 nV1 nY1 nW1 2 2 2 2 = true := by sorry
def nAq : FrT := [[], [(1, 0), (0, 1)], [(1, 3), (0, 4)], [(2, 2), (1, 6), (0, 7)], [(3, 1), (2, 5), (1, 9), (0, 10)], [(3, 4), (2, 8), (1, 12), (0, 13)], [(4, 3), (3, 7), (2, 11), (1, 15), (0, 16)], [(5, 2), (4, 7), (3, 11), (2, 15), (1, 18), (0, 19)], [(6, 8), (4, 13), (3, 20), (2, 21), (0, 23)], [(9, 5), (6, 17), (4, 19), (3, 29), (0, 32)], [(9, 14), (6, 26), (4, 28), (3, 38), (0, 41)], [(12, 11), (10, 13), (9, 23), (8, 24), (6, 35), (4, 40), (3, 47), (0, 50)], [(15, 8), (12, 23), (10, 28), (9, 35), (8, 36), (6, 47), (5, 48), (4, 52), (3, 56), (0, 59)], [(18, 26), (12, 41), (10, 43), (9, 62), (6, 65), (0, 71)], [(27, 17), (20, 18), (18, 53), (12, 59), (9, 89), (0, 98)]]
def nBq : FrT := [[], [], [], [(1, 1), (0, 2)], [(1, 4), (0, 5)], [(2, 3), (1, 7), (0, 8)], [(3, 2), (2, 6), (1, 10), (0, 11)], [(3, 5), (2, 9), (1, 13), (0, 14)], [(4, 4), (3, 8), (2, 12), (1, 16), (0, 17)], [(5, 3), (4, 9), (3, 14), (2, 17), (1, 19), (0, 20)], [(6, 11), (4, 15), (3, 23), (0, 26)], [(9, 8), (6, 20), (4, 21), (3, 32), (0, 35)], [(9, 17), (6, 29), (4, 32), (3, 41), (0, 44)], [(12, 14), (10, 18), (9, 26), (8, 28), (6, 38), (4, 44), (3, 50), (0, 53)], [(15, 13), (12, 29), (10, 33), (9, 44), (6, 53), (4, 56), (3, 59), (0, 62)]]
def nUq : FrT := [[], [], [(2, 0), (1, 1), (0, 2)], [(2, 3), (1, 4), (0, 5)], [(3, 2), (2, 6), (1, 7), (0, 8)], [(4, 1), (3, 5), (2, 9), (1, 10), (0, 11)], [(4, 4), (3, 8), (2, 12), (1, 13), (0, 14)], [(5, 3), (4, 7), (3, 11), (2, 15), (1, 16), (0, 17)], [(6, 2), (5, 7), (4, 11), (3, 15), (2, 18), (1, 19), (0, 20)], [(7, 8), (6, 9), (5, 13), (4, 20), (3, 21), (2, 22), (1, 23), (0, 24)], [(10, 5), (9, 6), (7, 17), (6, 18), (5, 19), (4, 29), (3, 30), (1, 32), (0, 33)], [(10, 14), (9, 15), (7, 26), (6, 27), (5, 28), (4, 38), (3, 39), (1, 41), (0, 42)], [(13, 11), (12, 12), (11, 13), (10, 23), (9, 24), (8, 25), (7, 35), (6, 36), (5, 40), (4, 47), (3, 48), (1, 50), (0, 51)], [(16, 8), (15, 9), (13, 23), (12, 24), (11, 28), (10, 35), (9, 36), (8, 37), (7, 47), (6, 48), (5, 52), (4, 56), (3, 57), (1, 59), (0, 60)], [(19, 26), (18, 27), (13, 41), (12, 42), (11, 43), (10, 62), (9, 63), (7, 65), (6, 66), (1, 71), (0, 72)]]
def nVq : FrT := [[], [], [], [], [(2, 1), (1, 2), (0, 3)], [(2, 4), (1, 5), (0, 6)], [(3, 3), (2, 7), (1, 8), (0, 9)], [(4, 2), (3, 6), (2, 10), (1, 11), (0, 12)], [(4, 5), (3, 9), (2, 13), (1, 14), (0, 15)], [(5, 4), (4, 8), (3, 12), (2, 16), (1, 17), (0, 18)], [(6, 3), (5, 9), (4, 14), (3, 17), (2, 19), (1, 20), (0, 21)], [(7, 11), (6, 12), (5, 15), (4, 23), (3, 24), (1, 26), (0, 27)], [(10, 8), (9, 9), (7, 20), (6, 21), (4, 32), (3, 33), (1, 35), (0, 36)], [(10, 17), (9, 18), (7, 29), (6, 30), (5, 32), (4, 41), (3, 42), (1, 44), (0, 45)], [(13, 14), (12, 15), (11, 18), (10, 26), (9, 28), (8, 29), (7, 38), (6, 39), (5, 44), (4, 50), (3, 51), (1, 53), (0, 54)]]
def nXq : FrT := [[], [], [], [(3, 0), (2, 1), (1, 2), (0, 3)], [(3, 3), (2, 4), (1, 5), (0, 6)], [(4, 2), (3, 6), (2, 7), (1, 8), (0, 9)], [(5, 1), (4, 5), (3, 9), (2, 10), (1, 11), (0, 12)], [(5, 4), (4, 8), (3, 12), (2, 13), (1, 14), (0, 15)], [(6, 3), (5, 7), (4, 11), (3, 15), (2, 16), (1, 17), (0, 18)], [(7, 2), (6, 7), (5, 11), (4, 15), (3, 18), (2, 19), (1, 20), (0, 21)], [(8, 8), (7, 9), (6, 13), (5, 20), (4, 21), (3, 22), (2, 23), (1, 24), (0, 25)], [(11, 5), (10, 6), (9, 7), (8, 17), (7, 18), (6, 19), (5, 29), (4, 30), (3, 31), (2, 32), (1, 33), (0, 34)], [(11, 14), (10, 15), (9, 16), (8, 26), (7, 27), (6, 28), (5, 38), (4, 39), (3, 40), (2, 41), (1, 42), (0, 43)], [(14, 11), (13, 12), (12, 13), (11, 23), (10, 24), (9, 25), (8, 35), (7, 36), (6, 40), (5, 47), (4, 48), (3, 49), (2, 50), (1, 51), (0, 52)], [(17, 8), (16, 9), (15, 10), (14, 23), (13, 24), (12, 28), (11, 35), (10, 36), (9, 37), (8, 47), (7, 48), (6, 52), (5, 56), (4, 57), (3, 58), (2, 59), (1, 60), (0, 61)]]
def nYq : FrT := [[], [], [], [], [], [(3, 1), (2, 2), (1, 3), (0, 4)], [(3, 4), (2, 5), (1, 6), (0, 7)], [(4, 3), (3, 7), (2, 8), (1, 9), (0, 10)], [(5, 2), (4, 6), (3, 10), (2, 11), (1, 12), (0, 13)], [(5, 5), (4, 9), (3, 13), (2, 14), (1, 15), (0, 16)], [(6, 4), (5, 8), (4, 12), (3, 16), (2, 17), (1, 18), (0, 19)], [(7, 3), (6, 9), (5, 14), (4, 17), (3, 19), (2, 20), (1, 21), (0, 22)], [(8, 11), (7, 12), (6, 15), (5, 23), (4, 24), (3, 25), (2, 26), (1, 27), (0, 28)], [(11, 8), (10, 9), (9, 10), (8, 20), (7, 21), (6, 22), (5, 32), (4, 33), (3, 34), (2, 35), (1, 36), (0, 37)], [(11, 17), (10, 18), (9, 19), (8, 29), (7, 30), (6, 32), (5, 41), (4, 42), (3, 43), (2, 44), (1, 45), (0, 46)]]
def nWq : List (Nat × Nat) := [(12, 17), (10, 21), (9, 29), (8, 31), (6, 41), (4, 47), (3, 53), (0, 56)]
theorem nfq_ok : nfc nAq nBq nUq nVq nXq nYq 1 1 1 0 1 3 2 1 = true := by sorry
theorem nwq_ok : nwc nAq nBq nVq nYq nWq 1 3 2 1 = true := by sorry
end
section
-- from 99z24
def TpR7 (un e : Bool) (wB cd m : Nat) (s : T6) : Prop := (s.2.2.2.2.2 ≤ 50 ∧ wB ≤ s.1) ∧ (e = false → 5 ≤ cd → dp5 un fr1 fg1 0 1 2 3 2 2 2 2 s.2.2.1 s.2.2.2.1 wB s.2.2.2.2.1 s.2.2.2.2.2 s.1 cd m ≤ 887) ∧ (e = true → dp5 un fr1 fg1 5 1 2 3 2 2 2 2 s.2.2.1 s.2.2.2.1 wB s.2.2.2.2.1 s.2.2.2.2.2 s.1 0 m ≤ 887)
def TpG7 (un e : Bool) (wB cd m : Nat) (s : T6) : Prop := (s.2.2.2.2.2 ≤ 50 ∧ wB ≤ s.1) ∧ (e = false → 5 ≤ cd → dp5 un frq fgq 0 0 1 1 1 3 2 1 s.2.2.1 s.2.2.2.1 wB s.2.2.2.2.1 s.2.2.2.2.2 s.1 cd m ≤ 597) ∧ (e = true → dp5 un frq fgq 5 0 1 1 1 3 2 1 s.2.2.1 s.2.2.2.1 wB s.2.2.2.2.1 s.2.2.2.2.2 s.1 0 m ≤ 597)
section PmZm
variable {f : Nat} {t B C : Ty} {Γ0 Δ1 : List Ty} {Δ : List (Nat × Ty × Nat)} {un e : Bool} {cd ob wR wG yR yG : Nat} {VR VG WR WG : List (Nat × Nat)}
theorem zone_g7 (w : TWf f (cxs Δ1 Γ0 (tAll B C)).length (Δ.map (fun a => a.1)) t) (he : TE (cxs Δ1 Γ0 (tAll B C)) Δ) (hΔ : (e = true ∧ Δ = []) ∨ (e = false ∧ Δ ≠ [])) (cu : un = true ∨ COk f t 0) (hC : hd C ≠ 2 ∧ hd C < 16) (ch : CHo f t []) (m30 : mch t ≤ 30) (hdd : dch Δ ≤ cd) (hcd : cd ≤ 56) (hb0 : ∀ b ∈ Γ0, nsch b = true ∨ flv b ≤ ob) (hb1 : ∀ b ∈ Δ1, nsch b = true ∨ flv b ≤ ob) (wbR : ∀ b, vlr b 1 (nz 0 (fun _ => 1 + 1) (2 + 1) (vlr b 1) (onz 0 (fun _ => 1 + 1) (2 + 1) (vlr b 1) Γ0) B) ≤ wR) (wbG : nz 1 ngc 1 (fun x => x) (onz 1 ngc 1 (fun x => x) Γ0) B ≤ wG)
  (hVR : ∃ v ∈ VR, xt (Γ0.length + 1) C ≤ v.1 ∧ xa 0 (fun _ => 1 + 1) 3 1 (Γ0.length + 1) C ≤ v.2) (hVG : ∃ v ∈ VG, xt (Γ0.length + 1) C ≤ v.1 ∧ xa 1 ngc 1 0 (Γ0.length + 1) C ≤ v.2)
  (cR : ∀ (b : Bool) (v : Nat × Nat), xt (Γ0.length + 1) C ≤ v.1 → xa 0 (fun _ => 1 + 1) 3 1 (Γ0.length + 1) C ≤ v.2 → ∃ p, p ≤ v.1 ∧ ∃ w ∈ WR, 1 ≤ w.2 + w.1 * max yR (1 + (3 + (v.2 + (v.1 - p) * yR + p * wR))) ∧ (∀ j, j < (cxs Δ1 Γ0 (tAll B C)).length → vw (onz 0 (fun _ => 1 + 1) (2 + 1) (vlr b 1) (cxs Δ1 Γ0 (tAll B C))) j ≤ w.2 + w.1 * max yR (1 + (3 + (v.2 + (v.1 - p) * yR + p * wR)))) ∧ ∀ z, nz 0 (fun _ => 1 + 1) (2 + 1) (vlr b 1) (hzx (vlr b 1) z (nz 0 (fun _ => 1 + 1) (2 + 1) (vlr b 1) (onz 0 (fun _ => 1 + 1) (2 + 1) (vlr b 1) Γ0) B) :: onz 0 (fun _ => 1 + 1) (2 + 1) (vlr b 1) Γ0) C ≤ v.2 + (v.1 - p) * yR + p * max z wR)
  (cG : ∀ (v : Nat × Nat), xt (Γ0.length + 1) C ≤ v.1 → xa 1 ngc 1 0 (Γ0.length + 1) C ≤ v.2 → ∃ p, p ≤ v.1 ∧ ∃ w ∈ WG, 1 ≤ w.2 + w.1 * max yG (0 + (1 + (v.2 + (v.1 - p) * yG + p * wG))) ∧ (∀ j, j < (cxs Δ1 Γ0 (tAll B C)).length → vw (onz 1 ngc 1 (fun x => x) (cxs Δ1 Γ0 (tAll B C))) j ≤ w.2 + w.1 * max yG (0 + (1 + (v.2 + (v.1 - p) * yG + p * wG)))) ∧ ∀ z, nz 1 ngc 1 (fun x => x) (hzx (fun x => x) z (nz 1 ngc 1 (fun x => x) (onz 1 ngc 1 (fun x => x) Γ0) B) :: onz 1 ngc 1 (fun x => x) Γ0) C ≤ v.2 + (v.1 - p) * yG + p * max z wG)
  (hTR : ∀ v ∈ VR, ∀ p, p ≤ v.1 → ∀ w ∈ WR, ∃ s, TpD 1 3 wR yR ob (tch C) p v w s ∧ TpR7 un e wR cd (mch t) s)
  (hTG : ∀ v ∈ VG, ∀ p, p ≤ v.1 → ∀ w ∈ WG, ∃ s, TpD 0 1 wG yG ob (tch C) p v w s ∧ TpG7 un e wG cd (mch t) s) : NtV (cxs Δ1 Γ0 (tAll B C)) Δ f t 887 597 := by sorry
end PmZm
def mnl (A B : List (Nat × Nat)) : List (Nat × Nat) := A.flatMap (fun u => B.map (fun v => (min u.1 v.1, min u.2 v.2)))
theorem mnl_ex {A B : List (Nat × Nat)} {l a : Nat} (h1 : ∃ u ∈ A, l ≤ u.1 ∧ a ≤ u.2) (h2 : ∃ v ∈ B, l ≤ v.1 ∧ a ≤ v.2) : ∃ w ∈ mnl A B, l ≤ w.1 ∧ a ≤ w.2 := by sorry
def k14 : List Nat := [22, 26, 27, 28, 30, 31, 32, 33, 34, 35, 36, 37, 38]
def t7R : List (List (Nat × Nat × Nat)) := [[], [], [], [], [], [], [], [], [], [], [], [], [], [], [], [], [], [], [], [], [], [], [(31, 27, 5)], [], [], [], [(43, 39, 5), (43, 27, 6)], [(47, 43, 7)], [(49, 44, 7)], [], [(55, 51, 9)], [(67, 63, 10)], [(69, 64, 10)], [(69, 65, 10)], [(79, 75, 10), (61, 34, 12)], [(83, 79, 9), (63, 39, 12)], [(83, 79, 9), (63, 39, 12)], [(83, 79, 9), (63, 39, 12)], [(83, 79, 9), (63, 39, 12)]]
def t7G : List (List (Nat × Nat × Nat)) := [[], [], [], [], [], [], [], [], [], [], [], [], [], [], [], [], [], [], [], [], [], [], [(18, 17, 5)], [], [], [], [(23, 22, 6)], [(28, 27, 7)], [(31, 30, 7)], [], [(34, 33, 9)], [(40, 39, 10)], [(40, 39, 10)], [(42, 41, 10)], [(49, 48, 11), (30, 17, 12)], [(52, 51, 10), (30, 18, 12)], [(54, 53, 10), (30, 18, 12)], [(57, 56, 9), (32, 21, 12)], [(57, 56, 9), (32, 21, 12)]]
def d7 (F : FrT) (N : List (Nat × Nat)) (T : List (List (Nat × Nat × Nat))) (hv s2 wB : Nat) : Bool := k14.all (fun k => (mnl (frg F k) N).all (fun v => (List.range (v.1 + 1)).all (fun p => (T.getD k []).any (fun s => Nat.ble (max 1 (hv + (s2 + (v.2 + (v.1 - p) * 1 + p * wB)))) s.1 && (Nat.ble (v.2 + (v.1 - p) * 1) s.2.1 && Nat.ble p s.2.2)))))
theorem d7R_ok : d7 yw1 nW1 t7R 1 3 2 = true := by sorry
theorem d7G_ok : d7 ywq nWq t7G 0 1 1 = true := by sorry
def u7 (k m : Nat) : Bool := Nat.ble 6 m && !(Nat.ble 30 k && (Nat.ble k 32 && Nat.beq m 6))
def c7 (F W : FrT) (hv fn s2 r0 r1 r2 r3 wB Bd : Nat) (T : List (List (Nat × Nat × Nat))) (k : Nat) : Bool := (T.getD k []).all (fun s => (List.range 12).all (fun m => Nat.blt m 3 || (Nat.blt 58 (9 + k + 5 + 2 * m) || ((Nat.beq k 30 && Nat.beq m 7) || Nat.ble (dp5 (u7 k m) F W 0 hv fn s2 r0 r1 r2 r3 s.2.1 s.2.2 wB 0 k s.1 (58 - 2 * m - (9 + k)) m) Bd))))
theorem c7R_22 : c7 fr1 fg1 1 2 3 2 2 2 2 2 887 t7R 22 = true := by sorry
theorem c7G_22 : c7 frq fgq 0 1 1 1 3 2 1 1 597 t7G 22 = true := by sorry
theorem c7R_26 : c7 fr1 fg1 1 2 3 2 2 2 2 2 887 t7R 26 = true := by sorry
theorem c7G_26 : c7 frq fgq 0 1 1 1 3 2 1 1 597 t7G 26 = true := by sorry
theorem c7R_27 : c7 fr1 fg1 1 2 3 2 2 2 2 2 887 t7R 27 = true := by sorry
theorem c7G_27 : c7 frq fgq 0 1 1 1 3 2 1 1 597 t7G 27 = true := by sorry
theorem c7R_28 : c7 fr1 fg1 1 2 3 2 2 2 2 2 887 t7R 28 = true := by sorry
theorem c7G_28 : c7 frq fgq 0 1 1 1 3 2 1 1 597 t7G 28 = true := by sorry
theorem c7R_30 : c7 fr1 fg1 1 2 3 2 2 2 2 2 887 t7R 30 = true := by sorry
theorem c7G_30 : c7 frq fgq 0 1 1 1 3 2 1 1 597 t7G 30 = true := by sorry
theorem c7R_31 : c7 fr1 fg1 1 2 3 2 2 2 2 2 887 t7R 31 = true := by sorry
theorem c7G_31 : c7 frq fgq 0 1 1 1 3 2 1 1 597 t7G 31 = true := by sorry
theorem c7R_32 : c7 fr1 fg1 1 2 3 2 2 2 2 2 887 t7R 32 = true := by sorry
theorem c7G_32 : c7 frq fgq 0 1 1 1 3 2 1 1 597 t7G 32 = true := by sorry
theorem c7R_33 : c7 fr1 fg1 1 2 3 2 2 2 2 2 887 t7R 33 = true := by sorry
theorem c7G_33 : c7 frq fgq 0 1 1 1 3 2 1 1 597 t7G 33 = true := by sorry
theorem c7R_34 : c7 fr1 fg1 1 2 3 2 2 2 2 2 887 t7R 34 = true := by sorry
theorem c7G_34 : c7 frq fgq 0 1 1 1 3 2 1 1 597 t7G 34 = true := by sorry
theorem c7R_35 : c7 fr1 fg1 1 2 3 2 2 2 2 2 887 t7R 35 = true := by sorry
theorem c7G_35 : c7 frq fgq 0 1 1 1 3 2 1 1 597 t7G 35 = true := by sorry
theorem c7R_36 : c7 fr1 fg1 1 2 3 2 2 2 2 2 887 t7R 36 = true := by sorry
theorem c7G_36 : c7 frq fgq 0 1 1 1 3 2 1 1 597 t7G 36 = true := by sorry
theorem c7R_37 : c7 fr1 fg1 1 2 3 2 2 2 2 2 887 t7R 37 = true := by sorry
theorem c7G_37 : c7 frq fgq 0 1 1 1 3 2 1 1 597 t7G 37 = true := by sorry
theorem c7R_38 : c7 fr1 fg1 1 2 3 2 2 2 2 2 887 t7R 38 = true := by sorry
theorem c7G_38 : c7 frq fgq 0 1 1 1 3 2 1 1 597 t7G 38 = true := by sorry
theorem c7_all : ∀ k ∈ k14, c7 fr1 fg1 1 2 3 2 2 2 2 2 887 t7R k = true ∧ c7 frq fgq 0 1 1 1 3 2 1 1 597 t7G k = true := by sorry
theorem d7_get {F : FrT} {N : List (Nat × Nat)} {T : List (List (Nat × Nat × Nat))} {hv s2 wB k p : Nat} (h : d7 F N T hv s2 wB = true) (hk : k ∈ k14) {v : Nat × Nat} (hv' : v ∈ mnl (frg F k) N) (hp : p ≤ v.1) : ∃ s ∈ T.getD k [], max 1 (hv + (s2 + (v.2 + (v.1 - p) * 1 + p * wB))) ≤ s.1 ∧ v.2 + (v.1 - p) * 1 ≤ s.2.1 ∧ p ≤ s.2.2 := by sorry
theorem c7_get {F W : FrT} {hv fn s2 r0 r1 r2 r3 wB Bd k m : Nat} {T : List (List (Nat × Nat × Nat))} (h : c7 F W hv fn s2 r0 r1 r2 r3 wB Bd T k = true) {s : Nat × Nat × Nat} (hs : s ∈ T.getD k []) (m3 : 3 ≤ m) (m12 : m < 12) (hb : 9 + k + 5 + 2 * m ≤ 58) (h7 : ¬ (k = 30 ∧ m = 7)) : dp5 (u7 k m) F W 0 hv fn s2 r0 r1 r2 r3 s.2.1 s.2.2 wB 0 k s.1 (58 - 2 * m - (9 + k)) m ≤ Bd := by sorry
theorem k14_min : ∀ k ∈ k14, 22 ≤ k ∧ k ≤ 38 := by sorry
section PmZn
variable {f : Nat} {t C : Ty} {Δ : List (Nat × Ty × Nat)}
theorem nat_7 (w : TWf f (cxs [] [] (tAll tTop C)).length (Δ.map (fun a => a.1)) t) (he : TE (cxs [] [] (tAll tTop C)) Δ) (nΔ : Δ ≠ []) (tn : TNo f t) (ch : CHo f t []) (hp : phf (fun _ => true) C = true) (kd : kdt C = 1 ∨ kdt C = 4) (hk : tch C ∈ k14) (m3 : 3 ≤ mch t) (hb : 9 + tch C + dch Δ + 2 * mch t ≤ 58) (h7 : ¬ (tch C = 30 ∧ mch t = 7)) : NtV (cxs [] [] (tAll tTop C)) Δ f t 887 597 := by sorry
end PmZn

end
section
-- from 99z25
section PmZo
variable {t0 s2 X7 : Nat} {n1 h eb e2 : Nat → Nat}
theorem vz_s6 (he : ∀ z z', z ≤ z' → eb z ≤ eb z') (he2 : ∀ z z', z ≤ z' → e2 z ≤ e2 z') (hm : ∀ y y', y ≤ y' → h y ≤ h y') {B D : Ty} {ω : List Nat} (o : ok ω.length (tAll B (tAll tTop D)) = true) (hz : ∀ z, nz t0 n1 s2 h (hzx h z (nz t0 n1 s2 h ω B) :: ω) (tAll tTop D) ≤ eb z) (hz2 : ∀ z, nz t0 n1 s2 (hzx h z) (hzx h z t0 :: hzx h z (nz t0 n1 s2 h ω B) :: ω) D ≤ e2 z) : ∀ ρ : Stk, ρ ≠ [] → vz t0 n1 s2 h (E2 X7 eb e2) (tAll B (tAll tTop D)) ρ ω ≤ E2 X7 eb e2 ρ := by sorry
theorem HE6_cx {y : Nat} {B D β' : Ty} {Γ0 : List Ty} (hn : NC t0 n1 s2 h) (hm : ∀ y y', y ≤ y' → h y ≤ h y') (hh : ∀ y δ, h (y + δ) ≤ h y + δ) (he : ∀ z z', z ≤ z' → eb z ≤ eb z') (he2 : ∀ z z', z ≤ z' → e2 z ≤ e2 z') (h7 : y ≤ X7) (hz : ∀ z, nz t0 n1 s2 h (hzx h z (nz t0 n1 s2 h (onz t0 n1 s2 h Γ0) B) :: onz t0 n1 s2 h Γ0) (tAll tTop D) ≤ eb z) (hz2 : ∀ z, nz t0 n1 s2 (hzx h z) (hzx h z t0 :: hzx h z (nz t0 n1 s2 h (onz t0 n1 s2 h Γ0) B) :: onz t0 n1 s2 h Γ0) D ≤ e2 z) (hp0 : ∀ b ∈ Γ0, nsch b = true ∨ ∀ z, y + flv b * z ≤ eb z) : ∀ (Δ1 : List Ty), okc (cxs Δ1 Γ0 (tAll B (tAll tTop D))) → (∀ j, j < (cxs Δ1 Γ0 β').length → vw (onz t0 n1 s2 h (cxs Δ1 Γ0 β')) j ≤ y) → (∀ b ∈ Δ1, nsch b = true ∨ ∀ z, y + flv b * z ≤ eb z) → HEk t0 n1 s2 h (E2 X7 eb e2) (cxs Δ1 Γ0 (tAll B (tAll tTop D))) (onz t0 n1 s2 h (cxs Δ1 Γ0 β')) := by sorry
end PmZo
section PmZp
variable {t0 fn s2 hv r0 r1 r2 r3 x0 : Nat} {n1 h : Nat → Nat} {P Q : List (List Nat)} {F G W : FrT} {X : List Nat} {B D β' : Ty} {Γ0 : List Ty}
theorem gen_fin8 (hn : NC t0 n1 s2 h) (hm : ∀ y y', y ≤ y' → h y ≤ h y') (hh : ∀ y δ, h (y + δ) ≤ h y + δ) (T : TBs 58 t0 fn s2 hv r0 r1 r2 r3 x0 n1 h P Q F G X) (hFm : frm F = true) (hgr : fgc F W hv = true) (hWm : fgm W = true) (hW1 : fg1s W = true) (hW : (1, 0) ∈ frg W 0) (H1 : ∀ y, h y ≤ hv + max 1 y) {f : Nat} {t S : Ty} {Δ1 : List Ty} {Δ : List (Nat × Ty × Nat)} {un : Bool} {a5 ob cd wB Bd y E0 p k : Nat} (w : TWf f (cxs Δ1 Γ0 (tAll B (tAll tTop D))).length (Δ.map (fun a => a.1)) t) (he : TE (cxs Δ1 Γ0 (tAll B (tAll tTop D))) Δ) (cu : un = true ∨ COk f t 0) (hm30 : mch t ≤ 30) (hb0 : ∀ b ∈ Γ0, nsch b = true ∨ flv b ≤ ob) (hb1 : ∀ b ∈ Δ1, nsch b = true ∨ flv b ≤ ob) (hdc : dch Δ ≤ cd) (hcd : cd ≤ 56) (a55 : a5 ≤ 5) (ha5 : Δ ≠ [] → a5 = 0) (y01 : x0 ≤ y) (hw : ∀ j, j < (cxs Δ1 Γ0 β').length → vw (onz t0 n1 s2 h (cxs Δ1 Γ0 β')) j ≤ y) (go : ∀ E Z, AQh t0 n1 s2 h E Z f t [] (onz t0 n1 s2 h (cxs Δ1 Γ0 β')) → HEk t0 n1 s2 h E (cxs Δ1 Γ0 (tAll B (tAll tTop D))) (onz t0 n1 s2 h (cxs Δ1 Γ0 β')) → GOk t0 n1 s2 h E f t [] (onz t0 n1 s2 h (cxs Δ1 Γ0 β')) (cxs Δ1 Γ0 (tAll B (tAll tTop D))) Δ) (vZ : ∀ z, nz t0 n1 s2 h (hzx h z (nz t0 n1 s2 h (onz t0 n1 s2 h Γ0) B) :: onz t0 n1 s2 h Γ0) (tAll tTop D) ≤ E0 + p * max z wB) (hT : h t0 ≤ y) (hwB : h (nz t0 n1 s2 h (onz t0 n1 s2 h Γ0) B) ≤ wB) (wBy : wB ≤ y) (hk : tch D ≤ k) (hk2 : k ≤ 50) (R1 : dpD un F W a5 hv fn s2 r0 r1 r2 r3 E0 p wB ob k y cd (mch t) ≤ Bd) (hS : tyF f t (cxs Δ1 Γ0 (tAll B (tAll tTop D))) Δ = .inr S) : nz t0 n1 s2 h (onz t0 n1 s2 h (cxs Δ1 Γ0 β')) S ≤ Bd := by sorry
end PmZp
section PmZq
variable {f : Nat} {t B D : Ty} {Γ0 Δ1 : List Ty} {Δ : List (Nat × Ty × Nat)} {un e : Bool} {cd ob wR wG yR yG : Nat} {VR VG WR WG : List (Nat × Nat)}
theorem zone_g8 (w : TWf f (cxs Δ1 Γ0 (tAll B (tAll tTop D))).length (Δ.map (fun a => a.1)) t) (he : TE (cxs Δ1 Γ0 (tAll B (tAll tTop D))) Δ) (hΔ : (e = true ∧ Δ = []) ∨ (e = false ∧ Δ ≠ [])) (cu : un = true ∨ COk f t 0) (ch : CHo f t []) (m30 : mch t ≤ 30) (hdd : dch Δ ≤ cd) (hcd : cd ≤ 56) (hb0 : ∀ b ∈ Γ0, nsch b = true ∨ flv b ≤ ob) (hb1 : ∀ b ∈ Δ1, nsch b = true ∨ flv b ≤ ob) (wbR : ∀ b, vlr b 1 (nz 0 (fun _ => 1 + 1) (2 + 1) (vlr b 1) (onz 0 (fun _ => 1 + 1) (2 + 1) (vlr b 1) Γ0) B) ≤ wR) (wbG : nz 1 ngc 1 (fun x => x) (onz 1 ngc 1 (fun x => x) Γ0) B ≤ wG)
  (hVR : ∃ v ∈ VR, xt (Γ0.length + 1) (tAll tTop D) ≤ v.1 ∧ xa 0 (fun _ => 1 + 1) 3 1 (Γ0.length + 1) (tAll tTop D) ≤ v.2) (hVG : ∃ v ∈ VG, xt (Γ0.length + 1) (tAll tTop D) ≤ v.1 ∧ xa 1 ngc 1 0 (Γ0.length + 1) (tAll tTop D) ≤ v.2)
  (cR : ∀ (b : Bool) (v : Nat × Nat), xt (Γ0.length + 1) (tAll tTop D) ≤ v.1 → xa 0 (fun _ => 1 + 1) 3 1 (Γ0.length + 1) (tAll tTop D) ≤ v.2 → ∃ p, p ≤ v.1 ∧ ∃ w ∈ WR, 1 ≤ w.2 + w.1 * max yR (1 + (3 + (v.2 + (v.1 - p) * yR + p * wR))) ∧ (∀ j, j < (cxs Δ1 Γ0 (tAll B (tAll tTop D))).length → vw (onz 0 (fun _ => 1 + 1) (2 + 1) (vlr b 1) (cxs Δ1 Γ0 (tAll B (tAll tTop D)))) j ≤ w.2 + w.1 * max yR (1 + (3 + (v.2 + (v.1 - p) * yR + p * wR)))) ∧ ∀ z, nz 0 (fun _ => 1 + 1) (2 + 1) (vlr b 1) (hzx (vlr b 1) z (nz 0 (fun _ => 1 + 1) (2 + 1) (vlr b 1) (onz 0 (fun _ => 1 + 1) (2 + 1) (vlr b 1) Γ0) B) :: onz 0 (fun _ => 1 + 1) (2 + 1) (vlr b 1) Γ0) (tAll tTop D) ≤ v.2 + (v.1 - p) * yR + p * max z wR)
  (cG : ∀ (v : Nat × Nat), xt (Γ0.length + 1) (tAll tTop D) ≤ v.1 → xa 1 ngc 1 0 (Γ0.length + 1) (tAll tTop D) ≤ v.2 → ∃ p, p ≤ v.1 ∧ ∃ w ∈ WG, 1 ≤ w.2 + w.1 * max yG (0 + (1 + (v.2 + (v.1 - p) * yG + p * wG))) ∧ (∀ j, j < (cxs Δ1 Γ0 (tAll B (tAll tTop D))).length → vw (onz 1 ngc 1 (fun x => x) (cxs Δ1 Γ0 (tAll B (tAll tTop D)))) j ≤ w.2 + w.1 * max yG (0 + (1 + (v.2 + (v.1 - p) * yG + p * wG)))) ∧ ∀ z, nz 1 ngc 1 (fun x => x) (hzx (fun x => x) z (nz 1 ngc 1 (fun x => x) (onz 1 ngc 1 (fun x => x) Γ0) B) :: onz 1 ngc 1 (fun x => x) Γ0) (tAll tTop D) ≤ v.2 + (v.1 - p) * yG + p * max z wG)
  (w2 : 2 ≤ wR) (w1 : 1 ≤ wG) (hTR : ∀ v ∈ VR, ∀ p, p ≤ v.1 → ∀ w ∈ WR, ∃ s, TpD 1 3 wR yR ob (tch D) p v w s ∧ TpR un e wR cd (mch t) s)
  (hTG : ∀ v ∈ VG, ∀ p, p ≤ v.1 → ∀ w ∈ WG, ∃ s, TpD 0 1 wG yG ob (tch D) p v w s ∧ TpG un e wG cd (mch t) s) : NtV (cxs Δ1 Γ0 (tAll B (tAll tTop D))) Δ f t 887 597 := by sorry
end PmZq

end
section
-- from 99z26
def n121 : List (Nat × Nat) := [(9, 29), (8, 31), (6, 47), (3, 50), (0, 59)]
def n12q : List (Nat × Nat) := [(9, 17), (6, 29), (4, 32), (3, 41), (0, 44)]
theorem n121_ok : (List.range 13).all (fun n => nsu (frg nB1 n) n121 0) = true := by sorry
theorem n12q_ok : (List.range 13).all (fun n => nsu (frg nBq n) n12q 0) = true := by sorry
def hdl (s2 w : Nat) (L : List (Nat × Nat)) : List (Nat × Nat) := L.flatMap (fun q => (List.range (q.1 + 1)).map (fun u => (q.1 - u, s2 + q.2 + u * w)))
theorem hdl_ex {t0 s2 hv d w : Nat} {n1 : Nat → Nat} {D : Ty} {L : List (Nat × Nat)} (h : ∃ q ∈ L, xt (d + 1) D ≤ q.1 ∧ xa t0 n1 s2 hv (d + 1) D ≤ q.2) (hw : hv + max 1 t0 ≤ w) : ∃ v ∈ hdl s2 w L, xt d (tAll tTop D) ≤ v.1 ∧ xa t0 n1 s2 hv d (tAll tTop D) ≤ v.2 := by sorry
def c27 : List ((Nat × Nat × Nat) × (Nat × Nat × Nat) × (Nat × Nat × Nat)) := [((12, 0, 26), (131, 8, 1), (45, 3, 1)), ((15, 0, 22), (113, 12, 2), (48, 6, 2)), ((15, 0, 23), (113, 12, 2), (48, 6, 2)), ((16, 0, 22), (119, 13, 2), (48, 6, 2)), ((22, 0, 0), (24, 20, 3), (13, 12, 3)), ((23, 0, 0), (28, 24, 4), (16, 15, 4)), ((24, 0, 0), (32, 28, 4), (16, 15, 4)), ((26, 0, 0), (34, 30, 4), (20, 19, 4)), ((27, 0, 0), (38, 34, 5), (20, 19, 5)), ((27, 0, 5), (39, 34, 5), (21, 19, 5)), ((27, 0, 9), (79, 34, 5), (41, 19, 5)), ((27, 0, 10), (79, 34, 5), (41, 19, 5)), ((27, 0, 11), (79, 34, 5), (42, 19, 5)), ((27, 5, 0), (38, 34, 5), (20, 19, 5)), ((28, 0, 0), (44, 40, 6), (21, 20, 6)), ((28, 0, 9), (91, 40, 6), (43, 20, 6)), ((28, 0, 10), (91, 40, 6), (43, 20, 6)), ((28, 6, 0), (50, 46, 6), (21, 20, 6)), ((29, 0, 0), (48, 44, 6), (26, 25, 6)), ((29, 0, 9), (99, 44, 6), (53, 25, 6)), ((30, 0, 0), (48, 44, 6), (29, 28, 6)), ((31, 0, 0), (50, 46, 6), (29, 28, 6)), ((31, 0, 6), (53, 46, 6), (30, 28, 6)), ((31, 0, 7), (53, 46, 6), (30, 28, 6)), ((32, 0, 0), (56, 52, 9), (32, 31, 9)), ((32, 0, 5), (57, 52, 9), (33, 31, 9)), ((32, 0, 6), (59, 52, 9), (33, 31, 9)), ((32, 5, 0), (56, 52, 9), (32, 31, 9)), ((32, 6, 0), (63, 59, 9), (32, 31, 9)), ((33, 0, 0), (66, 62, 9), (38, 37, 9)), ((33, 0, 5), (67, 62, 9), (39, 37, 9)), ((33, 5, 0), (66, 62, 9), (38, 37, 9)), ((34, 0, 0), (66, 62, 9), (38, 37, 9)), ((35, 0, 0), (66, 62, 9), (40, 39, 9)), ((36, 0, 0), (66, 62, 9), (46, 45, 9)), ((37, 0, 0), (66, 62, 9), (46, 45, 9)), ((38, 0, 0), (66, 62, 9), (46, 45, 9))]
def t27 : List (Nat × Nat × Nat) := [(12, 0, 26), (15, 0, 22), (15, 0, 23), (16, 0, 22), (22, 0, 0), (23, 0, 0), (24, 0, 0), (26, 0, 0), (27, 0, 0), (27, 0, 5), (27, 0, 9), (27, 0, 10), (27, 0, 11), (27, 5, 0), (28, 0, 0), (28, 0, 9), (28, 0, 10), (28, 6, 0), (29, 0, 0), (29, 0, 9), (30, 0, 0), (31, 0, 0), (31, 0, 6), (31, 0, 7), (32, 0, 0), (32, 0, 5), (32, 0, 6), (32, 5, 0), (32, 6, 0), (33, 0, 0), (33, 0, 5), (33, 5, 0), (34, 0, 0), (35, 0, 0), (36, 0, 0), (37, 0, 0), (38, 0, 0)]
theorem c27_t : t27.all (fun t => c27.any (fun c => Nat.beq c.1.1 t.1 && (Nat.beq c.1.2.1 t.2.1 && Nat.beq c.1.2.2 t.2.2))) = true := by sorry
def d8 (F : FrT) (N : List (Nat × Nat)) (W : FrT) (X : List Nat) (hv s2 wB : Nat) (k q1 q2 : Nat) (s : Nat × Nat × Nat) : Bool := (hdl s2 (hv + 1) (mnl (frg F (k - 5)) N)).all (fun v => (List.range (v.1 + 1)).all (fun p => (frg W q2).all (fun e => Nat.ble (e.2 + e.1 * max (max 1 (X.getD q1 0)) (hv + (s2 + (v.2 + (v.1 - p) * max 1 (X.getD q1 0) + p * wB)))) s.1 && (Nat.ble (v.2 + (v.1 - p) * max 1 (X.getD q1 0)) s.2.1 && (Nat.ble p s.2.2 && Nat.ble wB s.1)))))
theorem d8R_ok : c27.all (fun c => d8 xfa1 n121 fg1 fx1 1 3 2 c.1.1 c.1.2.1 c.1.2.2 c.2.1) = true := by sorry
theorem d8G_ok : c27.all (fun c => d8 xfaq n12q fgq fxq 0 1 1 c.1.1 c.1.2.1 c.1.2.2 c.2.2) = true := by sorry
def u8 (k q1 q2 m : Nat) : Bool := Nat.ble 6 m && !(Nat.beq k 32 && (Nat.beq q1 0 && (Nat.beq q2 0 && Nat.beq m 6)))
def ck8 (F W : FrT) (hv fn s2 r0 r1 r2 r3 wB Bd k q1 q2 : Nat) (s : Nat × Nat × Nat) : Bool := (List.range 14).all (fun m => Nat.blt m 3 || ((Nat.blt 58 (9 + k + q1 + q2 + 5 + 2 * m) || Nat.ble (dpD (u8 k q1 q2 m) F W 0 hv fn s2 r0 r1 r2 r3 s.2.1 s.2.2 wB (zow true k q1 q2) (k - 5) s.1 (58 - 2 * m - (9 + k + q1 + q2)) m) Bd) && (Nat.blt 58 (9 + k + q1 + q2 + 2 * m) || Nat.ble (dpD true F W 5 hv fn s2 r0 r1 r2 r3 s.2.1 s.2.2 wB (zow true k q1 q2) (k - 5) s.1 0 m) Bd)))
theorem c8R_0 : ((c27.drop 0).take 7).all (fun c => ck8 fr1 fg1 1 2 3 2 2 2 2 2 887 c.1.1 c.1.2.1 c.1.2.2 c.2.1) = true := by sorry
theorem c8G_0 : ((c27.drop 0).take 7).all (fun c => ck8 frq fgq 0 1 1 1 3 2 1 1 597 c.1.1 c.1.2.1 c.1.2.2 c.2.2) = true := by sorry
theorem c8R_7 : ((c27.drop 7).take 7).all (fun c => ck8 fr1 fg1 1 2 3 2 2 2 2 2 887 c.1.1 c.1.2.1 c.1.2.2 c.2.1) = true := by sorry
theorem c8G_7 : ((c27.drop 7).take 7).all (fun c => ck8 frq fgq 0 1 1 1 3 2 1 1 597 c.1.1 c.1.2.1 c.1.2.2 c.2.2) = true := by sorry
theorem c8R_14 : ((c27.drop 14).take 7).all (fun c => ck8 fr1 fg1 1 2 3 2 2 2 2 2 887 c.1.1 c.1.2.1 c.1.2.2 c.2.1) = true := by sorry
theorem c8G_14 : ((c27.drop 14).take 7).all (fun c => ck8 frq fgq 0 1 1 1 3 2 1 1 597 c.1.1 c.1.2.1 c.1.2.2 c.2.2) = true := by sorry
theorem c8R_21 : ((c27.drop 21).take 7).all (fun c => ck8 fr1 fg1 1 2 3 2 2 2 2 2 887 c.1.1 c.1.2.1 c.1.2.2 c.2.1) = true := by sorry
theorem c8G_21 : ((c27.drop 21).take 7).all (fun c => ck8 frq fgq 0 1 1 1 3 2 1 1 597 c.1.1 c.1.2.1 c.1.2.2 c.2.2) = true := by sorry
theorem c8R_28 : ((c27.drop 28).take 7).all (fun c => ck8 fr1 fg1 1 2 3 2 2 2 2 2 887 c.1.1 c.1.2.1 c.1.2.2 c.2.1) = true := by sorry
theorem c8G_28 : ((c27.drop 28).take 7).all (fun c => ck8 frq fgq 0 1 1 1 3 2 1 1 597 c.1.1 c.1.2.1 c.1.2.2 c.2.2) = true := by sorry
theorem c8R_35 : ((c27.drop 35).take 7).all (fun c => ck8 fr1 fg1 1 2 3 2 2 2 2 2 887 c.1.1 c.1.2.1 c.1.2.2 c.2.1) = true := by sorry
theorem c8G_35 : ((c27.drop 35).take 7).all (fun c => ck8 frq fgq 0 1 1 1 3 2 1 1 597 c.1.1 c.1.2.1 c.1.2.2 c.2.2) = true := by sorry
theorem c8R_ok : ∀ c ∈ c27, ck8 fr1 fg1 1 2 3 2 2 2 2 2 887 c.1.1 c.1.2.1 c.1.2.2 c.2.1 = true := by sorry
theorem c8G_ok : ∀ c ∈ c27, ck8 frq fgq 0 1 1 1 3 2 1 1 597 c.1.1 c.1.2.1 c.1.2.2 c.2.2 = true := by sorry
theorem d8_get {F : FrT} {N : List (Nat × Nat)} {W : FrT} {X : List Nat} {hv s2 wB k q1 q2 p : Nat} {s : Nat × Nat × Nat} (h : d8 F N W X hv s2 wB k q1 q2 s = true) {v e : Nat × Nat} (hv' : v ∈ hdl s2 (hv + 1) (mnl (frg F (k - 5)) N)) (hp : p ≤ v.1) (he : e ∈ frg W q2) : (e.2 + e.1 * max (max 1 (X.getD q1 0)) (hv + (s2 + (v.2 + (v.1 - p) * max 1 (X.getD q1 0) + p * wB))) ≤ s.1 ∧ v.2 + (v.1 - p) * max 1 (X.getD q1 0) ≤ s.2.1 ∧ p ≤ s.2.2) ∧ wB ≤ s.1 := by sorry
theorem c8_get {F W : FrT} {hv fn s2 r0 r1 r2 r3 wB Bd k q1 q2 m : Nat} {s : Nat × Nat × Nat} (h : ck8 F W hv fn s2 r0 r1 r2 r3 wB Bd k q1 q2 s = true) (m3 : 3 ≤ m) (m14 : m < 14) : (9 + k + q1 + q2 + 5 + 2 * m ≤ 58 → dpD (u8 k q1 q2 m) F W 0 hv fn s2 r0 r1 r2 r3 s.2.1 s.2.2 wB (zow true k q1 q2) (k - 5) s.1 (58 - 2 * m - (9 + k + q1 + q2)) m ≤ Bd) ∧ (9 + k + q1 + q2 + 2 * m ≤ 58 → dpD true F W 5 hv fn s2 r0 r1 r2 r3 s.2.1 s.2.2 wB (zow true k q1 q2) (k - 5) s.1 0 m ≤ Bd) := by sorry
theorem t27_min : ∀ t ∈ t27, 12 ≤ t.1 ∧ t.1 ≤ 38 ∧ t.2.1 ≤ 7 ∧ t.2.2 ≤ 26 ∧ 31 ≤ 9 + t.1 + t.2.1 + t.2.2 := by sorry
section PmZr
variable {f : Nat} {t D : Ty} {Γ0 Δ1 : List Ty} {Δ : List (Nat × Ty × Nat)}
theorem nat_8 (w : TWf f (cxs Δ1 Γ0 (tAll tTop (tAll tTop D))).length (Δ.map (fun a => a.1)) t) (he : TE (cxs Δ1 Γ0 (tAll tTop (tAll tTop D))) Δ) (tn : TNo f t) (ch : CHo f t []) (hp : phf (fun _ => true) D = true) (ho : (∀ b ∈ Γ0, nsch b = true ∨ (true = true ∧ tch b ≤ tch (tAll tTop D) + 5)) ∧ ∀ b ∈ Δ1, nsch b = true ∨ (true = true ∧ tch b ≤ tch (tAll tTop D) + 5)) (h27 : memt t27 (tch (tAll tTop D)) (cch Γ0) (cch Δ1) = true) (m3 : 3 ≤ mch t) (hb : cch (cxs Δ1 Γ0 (tAll tTop (tAll tTop D))) + dch Δ + 2 * mch t ≤ 58) (h49 : cch (cxs Δ1 Γ0 (tAll tTop (tAll tTop D))) ≤ 47) : NtV (cxs Δ1 Γ0 (tAll tTop (tAll tTop D))) Δ f t 887 597 := by sorry
end PmZr

end
section
-- from 99z27
def cvl (X : List (List (Nat × Nat))) (T : List (Nat × Nat × Nat)) (E : Nat → Nat → Nat → Bool) : Bool := (List.range 39).all (fun k => (X.getD k []).all (fun q => !(ndk q.1 q.2) || (Nat.blt 47 (9 + k + q.1 + q.2) || (memt T k q.1 q.2 || E k q.1 q.2))))
def e14 (k q1 q2 : Nat) : Bool := k14.any (fun j => Nat.beq j k) && (Nat.beq q1 0 && Nat.beq q2 0)
theorem cvw_a : cvl xa1 twa1 e14 = true := by sorry
theorem cvw_c : cvl xc1 twc1 e14 = true := by sorry
theorem cvw_e : cvl xe1 twe1 (fun _ _ _ => false) = true := by sorry
theorem cvv_a : cvl xa1 tva1 (fun k q1 q2 => memt t27 k q1 q2) = true := by sorry
theorem cvv_c : cvl xc1 tvc1 (fun k q1 q2 => memt t27 k q1 q2) = true := by sorry
theorem cvv_e : cvl xe1 tve1 (fun k q1 q2 => memt t27 k q1 q2) = true := by sorry
theorem cvl_get {X : List (List (Nat × Nat))} {T : List (Nat × Nat × Nat)} {E : Nat → Nat → Nat → Bool} {k q1 q2 : Nat} (h : cvl X T E = true) (k38 : k ≤ 38) (hq : (q1, q2) ∈ X.getD k []) (nd : ndk q1 q2 = true) (hc : 9 + k + q1 + q2 ≤ 47) : memt T k q1 q2 = true ∨ E k q1 q2 = true := by sorry
def xls (e : Bool) (m : Nat) : List (List (Nat × Nat)) := if e then xe1 else if Nat.blt m 6 then xa1 else xc1
theorem npl_mem {e co : Bool} {m k q1 q2 : Nat} (h : npl true e co m k q1 q2 = false) (k38 : k ≤ 38) : (q1, q2) ∈ (xls e m).getD k [] := by sorry
theorem cch_nil {Γ : List Ty} (h : cch Γ = 0) : Γ = [] := by sorry
section PmZs
variable {f : Nat} {s C D : Ty} {Γ0 Δ1 : List Ty} {Δ : List (Nat × Ty × Nat)}
theorem fl_w (hp : phf (fun _ => true) C = true) (kd : kdt C = 1 ∨ kdt C = 4) (nd : ndk (cch Γ0) (cch Δ1) = true) (w : TWf f (cxs Δ1 Γ0 (tAll tTop C)).length (Δ.map (fun a => a.1)) s) (he : TE (cxs Δ1 Γ0 (tAll tTop C)) Δ) (tn : TNo f s) (ch : CHo f s []) (ho : (∀ b ∈ Γ0, nsch b = true ∨ (true = true ∧ tch b ≤ tch C + 5)) ∧ ∀ b ∈ Δ1, nsch b = true ∨ (true = true ∧ tch b ≤ tch C + 5)) (m3 : 3 ≤ mch s) (hb : cch (cxs Δ1 Γ0 (tAll tTop C)) + dch Δ + 2 * mch s ≤ 58) (h20 : 20 ≤ cch (cxs Δ1 Γ0 (tAll tTop C))) (h49 : cch (cxs Δ1 Γ0 (tAll tTop C)) ≤ 47) (mem : (cch Γ0, cch Δ1) ∈ (xls Δ.isEmpty (mch s)).getD (tch C) []) : NtV (cxs Δ1 Γ0 (tAll tTop C)) Δ f s 887 597 ∨ (Γ0 = [] ∧ Δ1 = [] ∧ tch C = 30 ∧ mch s = 7 ∧ Δ ≠ []) := by sorry
theorem fl_v (hp : phf (fun _ => true) C = true) (nd : ndk (cch Γ0) (cch Δ1) = true) (w : TWf f (cxs Δ1 Γ0 (tAll tTop C)).length (Δ.map (fun a => a.1)) s) (he : TE (cxs Δ1 Γ0 (tAll tTop C)) Δ) (ch : CHo f s []) (ho : (∀ b ∈ Γ0, nsch b = true ∨ (true = true ∧ tch b ≤ tch C + 5)) ∧ ∀ b ∈ Δ1, nsch b = true ∨ (true = true ∧ tch b ≤ tch C + 5)) (m3 : 3 ≤ mch s) (hb : cch (cxs Δ1 Γ0 (tAll tTop C)) + dch Δ + 2 * mch s ≤ 58) (h20 : 20 ≤ cch (cxs Δ1 Γ0 (tAll tTop C))) (h49 : cch (cxs Δ1 Γ0 (tAll tTop C)) ≤ 47) (mem : (cch Γ0, cch Δ1) ∈ (xls Δ.isEmpty (mch s)).getD (tch C) []) : NtV (cxs Δ1 Γ0 (tAll tTop C)) Δ f s 887 597 ∨ memt t27 (tch C) (cch Γ0) (cch Δ1) = true := by sorry
theorem kd3_is {d : Nat} (o : ok d C = true) (k : kdt C = 3) : ∃ D, C = tAll tTop D := by sorry
theorem fl_D {d : Nat} {τ : Nat → Bool} (o : ok d (tAll tTop D) = true) (h7 : 2 ≤ tch D) (h : phf (Kis 3) (tAll tTop D) = true ∨ phl τ d (tAll tTop D) = true) : phf (fun _ => true) D = true := by sorry
theorem kd_phf {d : Nat} (o : ok d C = true) (hp : phf (fun _ => true) C = true) : kdt C = 1 ∨ kdt C = 2 ∨ kdt C = 3 ∨ kdt C = 4 := by sorry
end PmZs
def exS : List (Nat × Nat × Nat) := [(12, 0, 26), (15, 0, 22), (15, 0, 23), (16, 0, 22)]
def RsH (f : Nat) (x y C : Ty) (Γ0 Δ1 : List Ty) (Δ : List (Nat × Ty × Nat)) : Prop := LFn f x y C Γ0 Δ1 Δ ∧ phf (fun _ => true) C = true ∧ Δ ≠ [] ∧ (((kdt C = 1 ∨ kdt C = 4) ∧ tch C = 30 ∧ Γ0 = [] ∧ Δ1 = [] ∧ mch x = 7 ∧ mch y = 7) ∨ (kdt C = 2 ∧ memt exL (tch C) (cch Γ0) (cch Δ1) = true ∧ ¬ HKd 0 tTop C Γ0) ∨ (memt exS (tch C) (cch Γ0) (cch Δ1) = true ∧ (kdt C = 2 ∨ (kdt C = 3 ∧ HKd 0 tTop C Γ0))) ∨ ((kdt C = 2 ∨ kdt C = 3) ∧ HKd 0 tTop C Γ0 ∧ memt [(27, 0, 9)] (tch C) (cch Γ0) (cch Δ1) = true ∧ mch x + mch y = 8 ∧ ¬ (CFt f x ∧ CFt f y))) ∨ (LFn f x y C Γ0 Δ1 Δ ∧ phf (fun _ => true) C = true ∧ kdt C = 2 ∧ ndk (cch Γ0) (cch Δ1) = true ∧ ¬ HKd 0 tTop C Γ0 ∧ memt t27 (tch C) (cch Γ0) (cch Δ1) = true)
def LeftH (f : Nat) (x y : Ty) (Γ : List Ty) (Δ : List (Nat × Ty × Nat)) : Prop := ∃ (Δ1 Γ0 : List Ty) (b : Ty), Γ = cxs Δ1 Γ0 b ∧ nsch b = false ∧ ((∀ a ∈ Γ0, nsch a = true ∨ tch a ≤ tch b) ∧ ∀ a ∈ Δ1, nsch a = true ∨ tch a ≤ tch b) ∧ ((∀ B C, b ≠ tAll B C) ∨ (∃ B C, b = tAll B C ∧ B ≠ tTop) ∨ ∃ (C : Ty), b = tAll tTop C ∧ RsH f x y C Γ0 Δ1 Δ)
def RESTg : Prop := ∀ (f : Nat) (x y : Ty) (Γ : List Ty) (Δ : List (Nat × Ty × Nat)), TWf f Γ.length (Δ.map (fun a => a.1)) x → TWf f Γ.length (Δ.map (fun a => a.1)) y → TE Γ Δ → NAt f x → NAt f y → noac Γ → (∀ a ∈ Δ, noal a.2.1 = true) → TNo f x → TNo f y → 3 ≤ mch x → 3 ≤ mch y → (mch x ≤ mch y → ¬ NOp f x) → (¬ mch x ≤ mch y → ¬ NOp f y) → 20 ≤ cch Γ → cch Γ ≤ 47 → cch Γ + dch Δ + (2 + (mch x + mch y)) ≤ 60 → NoG f x y Γ Δ → (¬ ((mch x ≤ mch y → CHo f x []) ∧ (¬ mch x ≤ mch y → CHo f y [])) ∨ LeftH f x y Γ Δ) → PRn f x y Γ Δ
theorem exW_is : exW.all (fun t => memt t27 t.1 t.2.1 t.2.2 && (Nat.beq t.2.1 0 && ((memt exL t.1 t.2.1 t.2.2 || memt exS t.1 t.2.1 t.2.2) && !((xe1.getD t.1 []).any (fun s => Nat.beq s.1 t.2.1 && Nat.beq s.2 t.2.2))))) = true := by sorry
theorem restf_of (R : RESTg) : RESTf := by sorry
theorem pairn_og (R : RESTg) : PAIRn := by sorry
end
section
-- from 99z28
def gk (m c : Nat) : Bool := decide (c = 0) || (decide (c < 16) && kmm m c)
theorem gk_lft {m k n d : Nat} {a : Ty} (o : ok d a = true) (h : gk m (hd a) = true) : gk m (hd (lft k n a)) = true := by sorry
def updr (m : Nat) (τ : Nat → Bool) (D : Nat) (a : Ty) : Nat → Bool := fun i => if i = D then gk m (hd a) else τ i
def bdr (κ : Ty → Bool) (τ : Nat → Bool) (b : Ty) : Bool := decide (hd b = 0) || (if 16 ≤ hd b then τ (hd b - 16) else κ b)
def kr (m h : Nat) (κ : Ty → Bool) : (Nat → Bool) → Nat → Ty → Bool
  | τ, D, .tag c (.append a b) => if c = 2 then ((!(hd a == h)) || bdr κ (updr m τ D a) b) && (kr m h κ τ D a && kr m h κ (updr m τ D a) (D + 1) b) else kr m h κ τ D a && kr m h κ τ D b
  | τ, D, .append a b => kr m h κ τ D a && kr m h κ τ D b
  | _, _, _ => true
section PmZt
variable {m h : Nat} {κ : Ty → Bool}
theorem kr_top (τ : Nat → Bool) (D : Nat) : kr m h κ τ D tTop = true := by sorry
theorem kr_var (τ : Nat → Bool) (D k : Nat) : kr m h κ τ D (tVar k) = true := by sorry
theorem kr_nil (τ : Nat → Bool) (D : Nat) : kr m h κ τ D .nil = true := by sorry
theorem kr_fun {τ : Nat → Bool} {D : Nat} {a b : Ty} : kr m h κ τ D (tFun a b) = true ↔ kr m h κ τ D a = true ∧ kr m h κ τ D b = true := by sorry
theorem kr_all {τ : Nat → Bool} {D : Nat} {a b : Ty} : kr m h κ τ D (tAll a b) = true ↔ (hd a = h → bdr κ (updr m τ D a) b = true) ∧ kr m h κ τ D a = true ∧ kr m h κ (updr m τ D a) (D + 1) b = true := by sorry
theorem kr_rec {τ : Nat → Bool} {D c : Nat} {x y z : Ty} : kr m h κ τ D (tRec c x y z) = true ↔ kr m h κ τ D x = true ∧ kr m h κ τ D y = true ∧ kr m h κ τ D z = true := by sorry
theorem kr_lft {k n : Nat} (hκ : ∀ (t : Ty) (d : Nat), ok d t = true → hd t < 16 → κ (lft k n t) = κ t) : ∀ (f : Nat) (t : Ty) (D : Nat) (τ τ' : Nat → Bool), (flat t).length ≤ f → k ≤ D → ok D t = true → (∀ i, i < D → τ i = true → τ' (if k ≤ i then i + n else i) = true) → h < 16 → kr m h κ τ D t = true → kr m h κ τ' (D + n) (lft k n t) = true := by sorry
theorem kr_more : ∀ (f : Nat) (t : Ty) (D : Nat) (τ τ' : Nat → Bool), (flat t).length ≤ f → ok D t = true → (∀ i, i < D → τ i = true → τ' i = true) → kr m h κ τ D t = true → kr m h κ τ' D t = true := by sorry
end PmZt
def taur (m : Nat) (Γ : List Ty) : Nat → Bool := fun i => gk m (hd (bnd Γ i))
section PmZu
variable {e : Nat} {B C : Ty} {Γ0 : List Ty} {h : Nat}
theorem ev_smallr (e1 : 1 ≤ e) (hC : hd C ≠ 0 ∧ hd C < 16) {Δ : List Ty} {f : Ty} (tk : tok (upb Γ0 Δ B :: cxs Δ Γ0 (tAll B C), f, upb Γ0 Δ C)) (oC : ok (Γ0.length + 1) C = true) (q : bdr (kms C) (updr (hd C) (taur (hd C) (cxs Δ Γ0 (tAll B C))) (cxs Δ Γ0 (tAll B C)).length (upb Γ0 Δ B)) f = true) : EVb e B C Dsm Γ0 Δ f ∧ gn (0, upb Γ0 Δ B :: cxs Δ Γ0 (tAll B C), f, upb Γ0 Δ C) ≤ 2 ∧ gn (0, upb Γ0 Δ B :: cxs Δ Γ0 (tAll B C), upb Γ0 Δ C, f) ≤ 2 := by sorry
end PmZu
section PmZv
variable {e h : Nat} {B C : Ty} {Γ0 : List Ty}
def HKr (h : Nat) (B C : Ty) (Γ0 : List Ty) : Prop := (h < 16 ∧ hd B = h) ∧ (hd C ≠ 0 ∧ hd C < 16) ∧ (∀ j, j < Γ0.length → kr (hd C) h (kms C) (taur (hd C) Γ0) j (bnd Γ0 j) = true) ∧ kr (hd C) h (kms C) (taur (hd C) Γ0) Γ0.length B = true ∧ kr (hd C) h (kms C) (updr (hd C) (taur (hd C) Γ0) Γ0.length B) (Γ0.length + 1) C = true
def Kr9 (h : Nat) (B C : Ty) (Γ0 : List Ty) (l : Nat) (Δ : List Ty) (t : Ty) : Prop := (Γ0.length < l ∧ l ≤ (cxs Δ Γ0 (tAll B C)).length) ∧ okc (cxs Δ Γ0 (tAll B C)) ∧ gqc 5 Γ0.length l (cxs Δ Γ0 (tAll B C)) ∧ (∀ j, j < (cxs Δ Γ0 (tAll B C)).length → (j < Γ0.length ∨ l ≤ j) → kr (hd C) h (kms C) (taur (hd C) (cxs Δ Γ0 (tAll B C))) j (bnd (cxs Δ Γ0 (tAll B C)) j) = true) ∧ ok (cxs Δ Γ0 (tAll B C)).length t = true ∧ gq 5 Γ0.length l t = true ∧ kr (hd C) h (kms C) (taur (hd C) (cxs Δ Γ0 (tAll B C))) (cxs Δ Γ0 (tAll B C)).length t = true
theorem taur_cons {m : Nat} {Γ : List Ty} {a : Ty} (i : Nat) : taur m (a :: Γ) i = updr m (taur m Γ) Γ.length a i := by sorry
theorem Kr9.ext {l : Nat} {Δ : List Ty} {a b t : Ty} (k : Kr9 h B C Γ0 l Δ t) (oa : ok (cxs Δ Γ0 (tAll B C)).length a = true) (ob : ok ((cxs Δ Γ0 (tAll B C)).length + 1) b = true) (ga : gq 5 Γ0.length l a = true) (gb : gq 5 Γ0.length l b = true) (ka : kr (hd C) h (kms C) (taur (hd C) (cxs Δ Γ0 (tAll B C))) (cxs Δ Γ0 (tAll B C)).length a = true) (kb : kr (hd C) h (kms C) (updr (hd C) (taur (hd C) (cxs Δ Γ0 (tAll B C))) (cxs Δ Γ0 (tAll B C)).length a) ((cxs Δ Γ0 (tAll B C)).length + 1) b = true) : Kr9 h B C Γ0 l (a :: Δ) b := by sorry
theorem Kr9.part {l : Nat} {Δ : List Ty} {t b : Ty} (k : Kr9 h B C Γ0 l Δ t) (ob : ok (cxs Δ Γ0 (tAll B C)).length b = true) (gb : gq 5 Γ0.length l b = true) (kb : kr (hd C) h (kms C) (taur (hd C) (cxs Δ Γ0 (tAll B C))) (cxs Δ Γ0 (tAll B C)).length b = true) : Kr9 h B C Γ0 l Δ b := by sorry
theorem Kr_KP (e1 : 1 ≤ e) (H : HKr h B C Γ0) (l : Nat) : KPc e B C Dsm Γ0 (Kr9 h B C Γ0 l) ∧ KGc B C Dsm Γ0 (Kr9 h B C Γ0 l) := by sorry
theorem HKr.ov (e1 : 1 ≤ e) (H : HKr h B C Γ0) : OVq e B C Dsm Γ0 := by sorry
end PmZv

end
section
-- from 99z29
section PmZw
variable {f : Nat} {x y t C Dm : Ty} {Γ0 Δ1 : List Ty} {Δ : List (Nat × Ty × Nat)}
theorem pair_mixxo (ov : OVq 1 tTop C Dsm Γ0) (x1 : TWf f (cxs Δ1 Γ0 (tAll tTop C)).length (Δ.map (fun a => a.1)) x) (x2 : TWf f (cxs Δ1 Γ0 (tAll tTop C)).length (Δ.map (fun a => a.1)) y) (he : TE (cxs Δ1 Γ0 (tAll tTop C)) Δ) (y1 : NAt f x) (y2 : NAt f y) (hv : noac (cxs Δ1 Γ0 (tAll tTop C))) (hd' : ∀ a ∈ Δ, noal a.2.1 = true) (s1 : SMd C Γ0 Δ1 Δ f x) (s2 : SMd C Γ0 Δ1 Δ f y) (k18 : 18 ≤ tch C) (m1 : 3 ≤ mch x) (m2 : 3 ≤ mch y) (n1 : mch x < 16) (n2 : mch y < 16) (hb : cch (cxs Δ1 Γ0 (tAll tTop C)) + dch Δ + (2 + (mch x + mch y)) ≤ 60) (h47 : cch (cxs Δ1 Γ0 (tAll tTop C)) ≤ 47) : PRn f x y (cxs Δ1 Γ0 (tAll tTop C)) Δ := by sorry
end PmZw
section PmZx
variable {f h : Nat} {x y B C Dm : Ty} {Γ0 Δ1 : List Ty} {Δ : List (Nat × Ty × Nat)}
theorem pair_nodeso (ov : OVq 1 B C Dsm Γ0) (x1 : TWf f (cxs Δ1 Γ0 (tAll B C)).length (Δ.map (fun a => a.1)) x) (x2 : TWf f (cxs Δ1 Γ0 (tAll B C)).length (Δ.map (fun a => a.1)) y) (he : TE (cxs Δ1 Γ0 (tAll B C)) Δ) (y1 : NAt f x) (y2 : NAt f y) (hv : noac (cxs Δ1 Γ0 (tAll B C))) (hd' : ∀ a ∈ Δ, noal a.2.1 = true) (hk : ndk (cch Γ0) (cch Δ1) = true) (h47 : cch (cxs Δ1 Γ0 (tAll B C)) ≤ 47) : PRn f x y (cxs Δ1 Γ0 (tAll B C)) Δ := by sorry
end PmZx
section PmZy
variable {f : Nat} {x y C : Ty} {Γ0 Δ1 : List Ty} {Δ : List (Nat × Ty × Nat)}
theorem pair_Lo (H : OVq 1 tTop C Dsm Γ0) (x1 : TWf f (cxs Δ1 Γ0 (tAll tTop C)).length (Δ.map (fun a => a.1)) x) (x2 : TWf f (cxs Δ1 Γ0 (tAll tTop C)).length (Δ.map (fun a => a.1)) y) (he : TE (cxs Δ1 Γ0 (tAll tTop C)) Δ) (y1 : NAt f x) (y2 : NAt f y) (hv : noac (cxs Δ1 Γ0 (tAll tTop C))) (hd' : ∀ a ∈ Δ, noal a.2.1 = true) (t1 : TNo f x) (t2 : TNo f y) (nΔ : Δ ≠ []) (hz : memt exL (tch C) (cch Γ0) (cch Δ1) = true) (m3 : 3 ≤ mch x) (n3 : 3 ≤ mch y) (hb : cch (cxs Δ1 Γ0 (tAll tTop C)) + dch Δ + (2 + (mch x + mch y)) ≤ 60) (h49 : cch (cxs Δ1 Γ0 (tAll tTop C)) ≤ 47) : PRn f x y (cxs Δ1 Γ0 (tAll tTop C)) Δ ∨ (memt [(27, 0, 9)] (tch C) (cch Γ0) (cch Δ1) = true ∧ mch x + mch y = 8 ∧ ¬ (CFt f x ∧ CFt f y)) := by sorry
end PmZy
def NoO (f : Nat) (x y : Ty) (Γ : List Ty) (Δ : List (Nat × Ty × Nat)) : Prop := NoG f x y Γ Δ ∧ ∀ (Δ1 Γ0 : List Ty) (B C : Ty), Γ = cxs Δ1 Γ0 (tAll B C) → ndk (cch Γ0) (cch Δ1) = true → ¬ OVq 1 B C Dsm Γ0
def RsI (f : Nat) (x y C : Ty) (Γ0 Δ1 : List Ty) (Δ : List (Nat × Ty × Nat)) : Prop := LFn f x y C Γ0 Δ1 Δ ∧ phf (fun _ => true) C = true ∧ Δ ≠ [] ∧ (((kdt C = 1 ∨ kdt C = 4) ∧ tch C = 30 ∧ Γ0 = [] ∧ Δ1 = [] ∧ mch x = 7 ∧ mch y = 7) ∨ (kdt C = 2 ∧ memt exL (tch C) (cch Γ0) (cch Δ1) = true ∧ ¬ OVq 1 tTop C Dsm Γ0) ∨ (memt exS (tch C) (cch Γ0) (cch Δ1) = true ∧ (kdt C = 2 ∨ (kdt C = 3 ∧ OVq 1 tTop C Dsm Γ0))) ∨ ((kdt C = 2 ∨ kdt C = 3) ∧ OVq 1 tTop C Dsm Γ0 ∧ memt [(27, 0, 9)] (tch C) (cch Γ0) (cch Δ1) = true ∧ mch x + mch y = 8 ∧ ¬ (CFt f x ∧ CFt f y))) ∨ (LFn f x y C Γ0 Δ1 Δ ∧ phf (fun _ => true) C = true ∧ kdt C = 2 ∧ ndk (cch Γ0) (cch Δ1) = true ∧ ¬ OVq 1 tTop C Dsm Γ0 ∧ memt t27 (tch C) (cch Γ0) (cch Δ1) = true)
def LeftI (f : Nat) (x y : Ty) (Γ : List Ty) (Δ : List (Nat × Ty × Nat)) : Prop := ∃ (Δ1 Γ0 : List Ty) (b : Ty), Γ = cxs Δ1 Γ0 b ∧ nsch b = false ∧ ((∀ a ∈ Γ0, nsch a = true ∨ tch a ≤ tch b) ∧ ∀ a ∈ Δ1, nsch a = true ∨ tch a ≤ tch b) ∧ ((∀ B C, b ≠ tAll B C) ∨ (∃ B C, b = tAll B C ∧ B ≠ tTop) ∨ ∃ (C : Ty), b = tAll tTop C ∧ RsI f x y C Γ0 Δ1 Δ)
def RESTh : Prop := ∀ (f : Nat) (x y : Ty) (Γ : List Ty) (Δ : List (Nat × Ty × Nat)), TWf f Γ.length (Δ.map (fun a => a.1)) x → TWf f Γ.length (Δ.map (fun a => a.1)) y → TE Γ Δ → NAt f x → NAt f y → noac Γ → (∀ a ∈ Δ, noal a.2.1 = true) → TNo f x → TNo f y → 3 ≤ mch x → 3 ≤ mch y → (mch x ≤ mch y → ¬ NOp f x) → (¬ mch x ≤ mch y → ¬ NOp f y) → 20 ≤ cch Γ → cch Γ ≤ 47 → cch Γ + dch Δ + (2 + (mch x + mch y)) ≤ 60 → NoO f x y Γ Δ → (¬ ((mch x ≤ mch y → CHo f x []) ∧ (¬ mch x ≤ mch y → CHo f y [])) ∨ LeftI f x y Γ Δ) → PRn f x y Γ Δ
theorem restg_of (R : RESTh) : RESTg := by sorry
theorem pairn_oh (R : RESTh) : PAIRn := by sorry
end
section
-- from 99z30
def tE : Ty := tRec 0 .nil .nil .nil
section PmHa
variable {Γ : List Ty} {S T R : Ty}
theorem rec_zero {d : Nat} {t : Ty} (o : ok d t = true) (h : hd t = 8) : t = tE := by sorry
theorem top_zero {d : Nat} {t : Ty} (o : ok d t = true) (h : hd t = 0) : t = tTop := by sorry
theorem hd_tE : hd tE = 8 := by sorry
theorem tE_bel (tk : tok (Γ, tE, T)) (e : bel Γ tE T = true) : T = tTop ∨ T = tE := by sorry
theorem cu_tE : ∀ (f : Nat) (S T R : Ty), tok (Γ, S, T) → (S = tE ∨ T = tE) → cu f 0 Γ S T = some R → R = tTop ∨ R = tE := by sorry
end PmHa
def isE (t : Ty) : Prop := nKd t = 10 ∧ nMk t = 0
section PmHb
variable {f D p : Nat} {t x y C : Ty} {sc : List Nat} {Γ Γ0 Δ1 : List Ty} {Δ : List (Nat × Ty × Nat)} {S : Ty}
theorem isE_ty (h : isE t) (hS : tyF f t Γ Δ = .inr S) : S = tE := by sorry
theorem choE_ty (w : TWf (f + 1) Γ.length (Δ.map (fun a => a.1)) t) (he : TE Γ Δ) (k : nKd t = 12) (h : isE (nX t) ∨ isE (nY t)) (hS : tyF (f + 1) t Γ Δ = .inr S) : S = tTop ∨ S = tE := by sorry
theorem two_ch (w : TWf f D sc t) (h : mch t ≤ 2) : nKd t = 5 ∨ isE t := by sorry
theorem five_cho (w : TWf (f + 1) D [p] t) (tn : TNo (f + 1) t) (nc : ¬ CFt (f + 1) t) (h : mch t ≤ 5) : nKd t = 12 ∧ (isE (nX t) ∨ isE (nY t)) := by sorry
theorem mz_nil (d : Bool) (e : Nat) (Γ : List Ty) : mz d e Γ .nil = 0 := by sorry
theorem gz_nil (Γ : List Ty) : gz Γ .nil = 0 := by sorry
theorem choE_v {Dm B : Ty} (w : TWf f (cxs Δ1 Γ0 (tAll B C)).length (Δ.map (fun a => a.1)) t) (he : TE (cxs Δ1 Γ0 (tAll B C)) Δ) (tn : TNo f t) (nc : ¬ CFt f t) (h : mch t ≤ 5) {a : Nat × Ty × Nat} (e : Δ = [a]) : SmV Dm B C Γ0 Δ1 Δ f t 2 1 := by sorry
theorem pair_five (H : OVq 1 tTop C Dsm Γ0) (x1 : TWf f (cxs Δ1 Γ0 (tAll tTop C)).length (Δ.map (fun a => a.1)) x) (x2 : TWf f (cxs Δ1 Γ0 (tAll tTop C)).length (Δ.map (fun a => a.1)) y) (he : TE (cxs Δ1 Γ0 (tAll tTop C)) Δ) (y1 : NAt f x) (y2 : NAt f y) (hv : noac (cxs Δ1 Γ0 (tAll tTop C))) (hd' : ∀ a ∈ Δ, noal a.2.1 = true) (t1 : TNo f x) (t2 : TNo f y) (nΔ : Δ ≠ []) (hz : memt [(27, 0, 9)] (tch C) (cch Γ0) (cch Δ1) = true) (m3 : 3 ≤ mch x) (n3 : 3 ≤ mch y) (h8 : mch x + mch y = 8) (hb : cch (cxs Δ1 Γ0 (tAll tTop C)) + dch Δ + (2 + (mch x + mch y)) ≤ 60) (h49 : cch (cxs Δ1 Γ0 (tAll tTop C)) ≤ 47) (cf : ¬ (CFt f x ∧ CFt f y)) : PRn f x y (cxs Δ1 Γ0 (tAll tTop C)) Δ := by sorry
end PmHb

end
section
-- from 99z31
def RsJ (f : Nat) (x y C : Ty) (Γ0 Δ1 : List Ty) (Δ : List (Nat × Ty × Nat)) : Prop := LFn f x y C Γ0 Δ1 Δ ∧ phf (fun _ => true) C = true ∧ Δ ≠ [] ∧ (((kdt C = 1 ∨ kdt C = 4) ∧ tch C = 30 ∧ Γ0 = [] ∧ Δ1 = [] ∧ mch x = 7 ∧ mch y = 7) ∨ (kdt C = 2 ∧ memt exL (tch C) (cch Γ0) (cch Δ1) = true ∧ ¬ OVq 1 tTop C Dsm Γ0) ∨ (memt exS (tch C) (cch Γ0) (cch Δ1) = true ∧ (kdt C = 2 ∨ (kdt C = 3 ∧ OVq 1 tTop C Dsm Γ0)))) ∨ (LFn f x y C Γ0 Δ1 Δ ∧ phf (fun _ => true) C = true ∧ kdt C = 2 ∧ ndk (cch Γ0) (cch Δ1) = true ∧ ¬ OVq 1 tTop C Dsm Γ0 ∧ memt t27 (tch C) (cch Γ0) (cch Δ1) = true)
def LeftJ (f : Nat) (x y : Ty) (Γ : List Ty) (Δ : List (Nat × Ty × Nat)) : Prop := ∃ (Δ1 Γ0 : List Ty) (b : Ty), Γ = cxs Δ1 Γ0 b ∧ nsch b = false ∧ ((∀ a ∈ Γ0, nsch a = true ∨ tch a ≤ tch b) ∧ ∀ a ∈ Δ1, nsch a = true ∨ tch a ≤ tch b) ∧ ((∀ B C, b ≠ tAll B C) ∨ (∃ B C, b = tAll B C ∧ B ≠ tTop) ∨ ∃ (C : Ty), b = tAll tTop C ∧ RsJ f x y C Γ0 Δ1 Δ)
def RESTi : Prop := ∀ (f : Nat) (x y : Ty) (Γ : List Ty) (Δ : List (Nat × Ty × Nat)), TWf f Γ.length (Δ.map (fun a => a.1)) x → TWf f Γ.length (Δ.map (fun a => a.1)) y → TE Γ Δ → NAt f x → NAt f y → noac Γ → (∀ a ∈ Δ, noal a.2.1 = true) → TNo f x → TNo f y → 3 ≤ mch x → 3 ≤ mch y → (mch x ≤ mch y → ¬ NOp f x) → (¬ mch x ≤ mch y → ¬ NOp f y) → 20 ≤ cch Γ → cch Γ ≤ 47 → cch Γ + dch Δ + (2 + (mch x + mch y)) ≤ 60 → NoO f x y Γ Δ → (¬ ((mch x ≤ mch y → CHo f x []) ∧ (¬ mch x ≤ mch y → CHo f y [])) ∨ LeftJ f x y Γ Δ) → PRn f x y Γ Δ
theorem resth_of (R : RESTi) : RESTh := by sorry
theorem pairn_oi (R : RESTi) : PAIRn := by sorry
section PmHc
variable {f b c : Nat} {t : Ty} {Γ : List Ty} {Δ : List (Nat × Ty × Nat)}
theorem op_nz {t0 s2 : Nat} {n1 h : Nat → Nat} {ω : List Nat} {A : Ty} (hv : CV t0 n1 s2 h ω Γ) (w : TWf (f + 1) Γ.length (Δ.map (fun a => a.1)) t) (he : TE Γ Δ) (k : nKd t = 7 ∨ nKd t = 11) (e0 : tyF (f + 1) t Γ Δ = .inr A) : ∃ S, tyF f (nX t) Γ Δ = .inr S ∧ nz t0 n1 s2 h ω A ≤ nz t0 n1 s2 h ω S := by sorry
theorem NtV_op (w : TWf (f + 1) Γ.length (Δ.map (fun a => a.1)) t) (he : TE Γ Δ) (k : nKd t = 7 ∨ nKd t = 11) (z : NtV Γ Δ f (nX t) b c) : NtV Γ Δ (f + 1) t b c := by sorry
def pee : Nat → Ty → Nat × Ty
  | 0, t => (0, t)
  | f + 1, t => if nKd t = 7 ∨ nKd t = 11 then pee f (nX t) else (f + 1, t)
theorem NtV_pee : ∀ (f : Nat) (t : Ty), TWf f Γ.length (Δ.map (fun a => a.1)) t → TE Γ Δ → NtV Γ Δ (pee f t).1 (pee f t).2 b c → NtV Γ Δ f t b c := by sorry
theorem pee_ok : ∀ (f D : Nat) (sc : List Nat) (t : Ty), TWf f D sc t → (TWf (pee f t).1 D sc (pee f t).2 ∧ mch (pee f t).2 ≤ mch t) ∧ ((pee f t).2 = t ∨ mch (pee f t).2 + 2 ≤ mch t) ∧ (TNo f t → TNo (pee f t).1 (pee f t).2) ∧ nKd (pee f t).2 ≠ 7 ∧ nKd (pee f t).2 ≠ 11 := by sorry
end PmHc

end
section
-- from 99z32
theorem azR_a1 : z0R true (lmx fr1 43) 20 48 3 8 = true := by sorry
theorem azG_a1 : z0G true (lmx fr1 43) 20 48 3 8 = true := by sorry
theorem azR_a2 : z0R true (lmx fr1 25) 20 30 8 11 = true := by sorry
theorem azG_a2 : z0G true (lmx fr1 25) 20 30 8 11 = true := by sorry
theorem azR_a3 : z0R true (lmx fr1 21) 20 26 11 14 = true := by sorry
theorem azG_a3 : z0G true (lmx fr1 21) 20 26 11 14 = true := by sorry
theorem azR_b1 : z0R false (lmx fr1 26) 20 31 3 6 = true := by sorry
theorem azG_b1 : z0G false (lmx fr1 26) 20 31 3 6 = true := by sorry
theorem azR_b2 : z0R false (lmx fr1 21) 20 26 6 10 = true := by sorry
theorem azG_b2 : z0G false (lmx fr1 21) 20 26 6 10 = true := by sorry
theorem azR_b3 : z0R false (lmx fr1 18) 20 23 10 13 = true := by sorry
theorem azG_b3 : z0G false (lmx fr1 18) 20 23 10 13 = true := by sorry
def az (e : Bool) (m c : Nat) : Bool := Nat.ble 20 c && (Nat.ble 3 m && (if e then (Nat.ble m 7 && Nat.ble c 47) || ((Nat.ble m 10 && Nat.ble c 29) || (Nat.ble m 13 && Nat.ble c 25)) else (Nat.ble m 5 && Nat.ble c 30) || ((Nat.ble m 9 && Nat.ble c 25) || (Nat.ble m 12 && Nat.ble c 22))))
section PmHd
variable {f : Nat} {t : Ty} {Γ : List Ty} {Δ : List (Nat × Ty × Nat)}
theorem any_z {c0 c1 m0 m1 : Nat} {e : Bool} {k : Nat} (w : TWf f Γ.length (Δ.map (fun a => a.1)) t) (he : TE Γ Δ) (hΔ : (e = true ∧ Δ = []) ∨ (e = false ∧ Δ ≠ [])) (ch : CHo f t []) (hb : cch Γ + dch Δ + 2 * mch t ≤ 58) (R : z0R e (lmx fr1 k) c0 c1 m0 m1 = true) (G : z0G e (lmx fr1 k) c0 c1 m0 m1 = true) (k1 : c1 ≤ k + 5) (k56 : k ≤ 56) (h0 : c0 ≤ cch Γ) (h1 : cch Γ < c1) (g0 : m0 ≤ mch t) (g1 : mch t < m1) (c56 : cch Γ ≤ 47) (c20 : 20 ≤ cch Γ) : NtV Γ Δ f t 887 597 := by sorry
theorem any_v (w : TWf f Γ.length (Δ.map (fun a => a.1)) t) (he : TE Γ Δ) (ch : CHo f t []) (hz : az Δ.isEmpty (mch t) (cch Γ) = true) (hb : cch Γ + dch Δ + 2 * mch t ≤ 58) : NtV Γ Δ f t 887 597 := by sorry
end PmHd
def AzT (f : Nat) (t : Ty) (Γ : List Ty) (Δ : List (Nat × Ty × Nat)) : Prop := CHo (pee f t).1 (pee f t).2 [] ∧ az Δ.isEmpty (mch (pee f t).2) (cch Γ) = true ∧ cch Γ + dch Δ + 2 * mch (pee f t).2 ≤ 58
theorem AzT.v {f : Nat} {t : Ty} {Γ : List Ty} {Δ : List (Nat × Ty × Nat)} (w : TWf f Γ.length (Δ.map (fun a => a.1)) t) (he : TE Γ Δ) (h : AzT f t Γ Δ) : NtV Γ Δ f t 887 597 := by sorry
def RESTj : Prop := ∀ (f : Nat) (x y : Ty) (Γ : List Ty) (Δ : List (Nat × Ty × Nat)), TWf f Γ.length (Δ.map (fun a => a.1)) x → TWf f Γ.length (Δ.map (fun a => a.1)) y → TE Γ Δ → NAt f x → NAt f y → noac Γ → (∀ a ∈ Δ, noal a.2.1 = true) → TNo f x → TNo f y → 3 ≤ mch x → 3 ≤ mch y → (mch x ≤ mch y → ¬ NOp f x) → (¬ mch x ≤ mch y → ¬ NOp f y) → 20 ≤ cch Γ → cch Γ ≤ 47 → cch Γ + dch Δ + (2 + (mch x + mch y)) ≤ 60 → NoO f x y Γ Δ → ¬ AzT f x Γ Δ → ¬ AzT f y Γ Δ → (¬ ((mch x ≤ mch y → CHo f x []) ∧ (¬ mch x ≤ mch y → CHo f y [])) ∨ LeftJ f x y Γ Δ) → PRn f x y Γ Δ
theorem resti_of (R : RESTj) : RESTi := by sorry
theorem pairn_oj (R : RESTj) : PAIRn := by sorry
end
section
-- from 99z33
section PmHe
variable {t0 fn s2 hv r0 r1 r2 r3 x0 : Nat} {n1 h : Nat → Nat} {P Q : List (List Nat)} {F G W : FrT} {X : List Nat}
theorem FM_fa (H : ∀ y x, x0 ≤ x → h y ≤ hv + max y x) : ∀ (f : Nat) (t : Ty) (d : Nat), (flat t).length ≤ f → ok d t = true → FM t0 n1 s2 h x0 t (flv t) (fav t0 n1 s2 hv t) := by sorry
theorem app_cut {α : Type} : ∀ (Δ1 Δ' : List α) {b b' : α} {Γ0 Γ' : List α}, Δ1 ++ b :: Γ0 = Δ' ++ b' :: Γ' → b' ∈ Δ1 ∨ (b' = b ∧ Γ' = Γ0) ∨ b' ∈ Γ0 := by sorry
theorem BE2_sfx {X7 y : Nat} {eb e2 : Nat → Nat} (hn : NC t0 n1 s2 h) (h7 : y ≤ X7) : ∀ {Γ : List Ty}, (∀ j, j < Γ.length → vw (onz t0 n1 s2 h Γ) j ≤ y) → (∀ (Δ' : List Ty) (b' : Ty) (Γ' : List Ty), Γ = Δ' ++ b' :: Γ' → nz t0 n1 s2 h (onz t0 n1 s2 h Γ') b' ≤ y → nsch b' = true ∨ ∀ z, nz t0 n1 s2 h (onz t0 n1 s2 h Γ') b' + flv b' * z ≤ eb z) → BE2 t0 n1 s2 h X7 eb e2 Γ (onz t0 n1 s2 h Γ) := by sorry
def T1D (hv y1 ob : Nat) (v u : Nat × Nat) (s : T6) : Prop := u.2 + u.1 * max y1 (hv + max 1 (v.2 + v.1 * y1)) ≤ s.1 ∧ v.2 + v.1 * y1 ≤ s.2.2.1 ∧ v.1 ≤ s.2.2.2.1 ∧ ob ≤ s.2.2.2.2.1
theorem gen_z1 (hn : NC t0 n1 s2 h) (hm : ∀ y y', y ≤ y' → h y ≤ h y') (hh : ∀ y δ, h (y + δ) ≤ h y + δ) (T : TBs 58 t0 fn s2 hv r0 r1 r2 r3 x0 n1 h P Q F G X) (hFm : frm F = true) (hgr : fgc F W hv = true) (hWm : fgm W = true) (hW1 : fg1s W = true) (hW : (1, 0) ∈ frg W 0) (H1 : ∀ y, h y ≤ hv + max 1 y) {f : Nat} {t S b : Ty} {Γ0 Δ1 : List Ty} {Δ : List (Nat × Ty × Nat)} {un : Bool} {a5 ob cd Bd y1 : Nat} (w : TWf f (cxs Δ1 Γ0 b).length (Δ.map (fun a => a.1)) t) (he : TE (cxs Δ1 Γ0 b) Δ) (cu : un = true ∨ COk f t 0) (hm30 : mch t ≤ 30) (hdc : dch Δ ≤ cd) (hcd : cd ≤ 56) (a55 : a5 ≤ 5) (ha5 : Δ ≠ [] → a5 = 0) (hb0 : ∀ a ∈ Γ0, nsch a = true ∨ flv a ≤ ob) (hb1 : ∀ a ∈ Δ1, nsch a = true ∨ flv a ≤ ob) (q38 : cch Δ1 ≤ 38) (k56 : tch b ≤ 56) (q56 : cch Γ0 ≤ 56) (e1 : max x0 (X.getD (cch Γ0) 0) ≤ y1) (go : ∀ E Z, AQh t0 n1 s2 h E Z f t [] (onz t0 n1 s2 h (cxs Δ1 Γ0 b)) → HEk t0 n1 s2 h E (cxs Δ1 Γ0 b) (onz t0 n1 s2 h (cxs Δ1 Γ0 b)) → GOk t0 n1 s2 h E f t [] (onz t0 n1 s2 h (cxs Δ1 Γ0 b)) (cxs Δ1 Γ0 b) Δ) (hT : ∀ v ∈ frg F (tch b), ∀ u ∈ frg W (cch Δ1), ∃ s : T6, T1D hv y1 ob v u s ∧ dpD un F W a5 hv fn s2 r0 r1 r2 r3 s.2.2.1 s.2.2.2.1 0 s.2.2.2.2.1 0 s.1 cd (mch t) ≤ Bd) (hS : tyF f t (cxs Δ1 Γ0 b) Δ = .inr S) : nz t0 n1 s2 h (onz t0 n1 s2 h (cxs Δ1 Γ0 b)) S ≤ Bd := by sorry
end PmHe
section PmHf
variable {f : Nat} {t b : Ty} {Γ0 Δ1 : List Ty} {Δ : List (Nat × Ty × Nat)} {un e : Bool} {cd ob yR yG : Nat}
theorem zone_1 (w : TWf f (cxs Δ1 Γ0 b).length (Δ.map (fun a => a.1)) t) (he : TE (cxs Δ1 Γ0 b) Δ) (hΔ : (e = true ∧ Δ = []) ∨ (e = false ∧ Δ ≠ [])) (cu : un = true ∨ COk f t 0) (ch : CHo f t []) (m30 : mch t ≤ 30) (hdd : dch Δ ≤ cd) (hcd : cd ≤ 56) (hb0 : ∀ a ∈ Γ0, nsch a = true ∨ flv a ≤ ob) (hb1 : ∀ a ∈ Δ1, nsch a = true ∨ flv a ≤ ob) (q38 : cch Δ1 ≤ 38) (k56 : tch b ≤ 56) (q56 : cch Γ0 ≤ 56) (eR : max 1 (fx1.getD (cch Γ0) 0) ≤ yR) (eG : max 1 (fxq.getD (cch Γ0) 0) ≤ yG) (hTR : ∀ v ∈ frg fr1 (tch b), ∀ u ∈ frg fg1 (cch Δ1), ∃ s : T6, T1D 1 yR ob v u s ∧ TpR un e 0 cd (mch t) (s.1, s.2.1, s.2.2.1, s.2.2.2.1, s.2.2.2.2.1, 0)) (hTG : ∀ v ∈ frg frq (tch b), ∀ u ∈ frg fgq (cch Δ1), ∃ s : T6, T1D 0 yG ob v u s ∧ TpG un e 0 cd (mch t) (s.1, s.2.1, s.2.2.1, s.2.2.2.1, s.2.2.2.2.1, 0)) : NtV (cxs Δ1 Γ0 b) Δ f t 887 597 := by sorry
end PmHf

end
section
-- from 99z34
def l1z (L : LnT) (F W : FrT) (X : List Nat) (hv kb q1 q2 ob : Nat) : Bool := (frg F kb).all (fun v => (frg W q2).all (fun u => (lng L (4 + kb + q1 + q2)).any (fun s => Nat.ble (u.2 + u.1 * max (max 1 (X.getD q1 0)) (hv + max 1 (v.2 + v.1 * max 1 (X.getD q1 0)))) s.1 && (Nat.ble (v.2 + v.1 * max 1 (X.getD q1 0)) s.2.2.1 && (Nat.ble v.1 s.2.2.2.1 && (Nat.ble ob s.2.2.2.2.1 && Nat.beq s.2.2.2.2.2 0))))))
def o1s (kb q : Nat) : Nat := if Nat.ble q 4 then 0 else lmx fr1 (min (q - 4) kb)
def o1z (kb q1 q2 : Nat) : Nat := max (o1s kb q1) (o1s kb q2)
theorem l1z_get {L : LnT} {F W : FrT} {X : List Nat} {hv kb q1 q2 ob : Nat} (h : l1z L F W X hv kb q1 q2 ob = true) : ∀ v ∈ frg F kb, ∀ u ∈ frg W q2, ∃ s : T6, s ∈ lng L (4 + kb + q1 + q2) ∧ T1D hv (max 1 (X.getD q1 0)) ob v u s ∧ s.2.2.2.2.2 = 0 := by sorry
theorem o1s_le {Γ : List Ty} {b : Ty} {k : Nat} (hc : okc Γ) (k56 : k ≤ 56) (h : ∀ a ∈ Γ, nsch a = true ∨ tch a ≤ k) : ∀ a ∈ Γ, nsch a = true ∨ flv a ≤ o1s k (cch Γ) := by sorry
theorem okc_top {Γ0 : List Ty} {b : Ty} : ∀ (Δ1 : List Ty), okc (cxs Δ1 Γ0 b) → ∀ a ∈ Δ1, ∃ d, ok d a = true ∧ tch a + 4 ≤ cch Δ1 := by sorry
section PmHg
variable {f : Nat} {t b : Ty} {Γ0 Δ1 : List Ty} {Δ : List (Nat × Ty × Nat)} {un e : Bool} {LR LG : LnT} {c0 c1 m0 m1 : Nat}
theorem nat_bb (w : TWf f (cxs Δ1 Γ0 b).length (Δ.map (fun a => a.1)) t) (he : TE (cxs Δ1 Γ0 b) Δ) (hΔ : (e = true ∧ Δ = []) ∨ (e = false ∧ Δ ≠ [])) (cu : un = true ∨ COk f t 0) (ch : CHo f t []) (hs : (∀ a ∈ Γ0, nsch a = true ∨ tch a ≤ tch b) ∧ ∀ a ∈ Δ1, nsch a = true ∨ tch a ≤ tch b) (zR : l1z LR fr1 fg1 fx1 1 (tch b) (cch Γ0) (cch Δ1) (o1z (tch b) (cch Γ0) (cch Δ1)) = true) (zG : l1z LG frq fgq fxq 0 (tch b) (cch Γ0) (cch Δ1) (o1z (tch b) (cch Γ0) (cch Δ1)) = true) (tR : lne un e LR fr1 fg1 1 2 3 2 2 2 2 0 887 c0 c1 m0 m1 = true) (tG : lne un e LG frq fgq 0 1 1 1 3 2 1 0 597 c0 c1 m0 m1 = true) (h0 : c0 ≤ cch (cxs Δ1 Γ0 b)) (h1 : cch (cxs Δ1 Γ0 b) < c1) (g0 : m0 ≤ mch t) (g1 : mch t < m1) (h20 : 20 ≤ cch (cxs Δ1 Γ0 b)) (h47 : cch (cxs Δ1 Γ0 b) ≤ 47) (q38 : cch Δ1 ≤ 38) (hb : cch (cxs Δ1 Γ0 b) + dch Δ + 2 * mch t ≤ 58) : NtV (cxs Δ1 Γ0 b) Δ f t 887 597 := by sorry
end PmHg
def k0R : LnT := [[], [], [], [], [], [], [], [], [], [], [], [], [], [], [], [], [], [], [], [], [(22, 0, 21, 4, 2, 0)], [(23, 0, 22, 5, 2, 0)], [(26, 0, 25, 6, 2, 0)], [(26, 0, 25, 6, 2, 0)], [(34, 0, 33, 6, 2, 0)], [(34, 0, 33, 6, 2, 0)], [(34, 0, 33, 9, 3, 0)], [(42, 0, 41, 9, 3, 0)], [(50, 0, 49, 9, 3, 0)], [(50, 0, 49, 9, 3, 0)], [(52, 0, 51, 12, 3, 0)], [(62, 0, 61, 12, 3, 0)], [(68, 0, 67, 12, 3, 0)], [(74, 0, 73, 9, 3, 0), (56, 0, 55, 12, 0, 0)], [(74, 0, 73, 9, 4, 0)], [(83, 0, 82, 9, 4, 0), (54, 0, 53, 12, 1, 0)], [(87, 0, 86, 9, 4, 0), (68, 0, 67, 12, 1, 0)], [(107, 0, 106, 6, 4, 0), (79, 0, 77, 9, 2, 0), (68, 0, 67, 12, 1, 0)], [(107, 0, 106, 6, 4, 0), (82, 0, 81, 9, 2, 0), (68, 0, 67, 12, 1, 0)], [(111, 0, 110, 6, 4, 0), (83, 0, 82, 9, 2, 0), (59, 0, 55, 12, 1, 0)], [(131, 0, 130, 3, 3, 0), (125, 0, 124, 6, 4, 0), (85, 0, 73, 9, 2, 0), (59, 0, 55, 12, 1, 0)], [(155, 0, 154, 4, 4, 0), (125, 0, 124, 6, 4, 0), (95, 0, 45, 8, 2, 0), (85, 0, 76, 9, 2, 0), (67, 0, 65, 12, 1, 0)], [(155, 0, 154, 4, 4, 0), (124, 0, 123, 6, 5, 0), (95, 0, 77, 8, 2, 0), (85, 0, 76, 9, 2, 0), (67, 0, 65, 12, 1, 0)], [(161, 0, 160, 4, 4, 0), (139, 0, 138, 5, 5, 0), (128, 0, 100, 6, 5, 0), (95, 0, 77, 8, 2, 0), (87, 0, 76, 9, 2, 0), (57, 0, 53, 12, 1, 0)], [(191, 0, 190, 3, 3, 0), (161, 0, 147, 4, 4, 0), (128, 0, 100, 6, 4, 0), (97, 0, 45, 8, 2, 0), (87, 0, 82, 9, 2, 0)], [(200, 0, 64, 4, 3, 0), (191, 0, 190, 3, 3, 0), (177, 0, 147, 4, 4, 0), (128, 0, 40, 6, 4, 0), (126, 0, 124, 6, 4, 0), (97, 0, 45, 8, 2, 0), (87, 0, 82, 9, 2, 0)], [(212, 0, 190, 3, 3, 0), (194, 0, 62, 4, 3, 0), (177, 0, 142, 4, 4, 0), (128, 0, 40, 6, 4, 0), (126, 0, 124, 6, 4, 0), (86, 0, 82, 9, 2, 0)], [(223, 0, 222, 2, 2, 0), (212, 0, 192, 3, 3, 0), (194, 0, 62, 4, 3, 0), (177, 0, 147, 4, 4, 0), (143, 0, 123, 5, 5, 0), (130, 0, 106, 6, 4, 0), (86, 0, 82, 9, 2, 0)]]
def k0G : LnT := [[], [], [], [], [], [], [], [], [], [], [], [], [], [], [], [], [], [], [], [], [(18, 0, 18, 4, 2, 0)], [(18, 0, 18, 5, 2, 0)], [(19, 0, 19, 6, 2, 0)], [(24, 0, 24, 6, 2, 0)], [(27, 0, 27, 6, 2, 0)], [(27, 0, 27, 6, 2, 0)], [(30, 0, 30, 9, 3, 0)], [(36, 0, 36, 9, 3, 0)], [(36, 0, 36, 9, 3, 0)], [(38, 0, 38, 9, 3, 0)], [(45, 0, 45, 12, 3, 0)], [(48, 0, 48, 9, 3, 0), (27, 0, 27, 12, 0, 0)], [(50, 0, 50, 9, 3, 0), (28, 0, 28, 12, 0, 0)], [(57, 0, 57, 9, 3, 0), (36, 0, 36, 12, 0, 0)], [(56, 0, 56, 9, 4, 0)], [(61, 0, 59, 6, 4, 0), (45, 0, 45, 12, 2, 0)], [(74, 0, 74, 6, 4, 0), (48, 0, 48, 9, 2, 0), (28, 0, 27, 12, 1, 0)], [(83, 0, 83, 6, 4, 0), (54, 0, 54, 9, 2, 0), (29, 0, 28, 12, 1, 0)], [(83, 0, 83, 6, 4, 0), (57, 0, 54, 9, 2, 0), (37, 0, 36, 12, 1, 0)], [(92, 0, 92, 3, 3, 0), (84, 0, 84, 6, 4, 0), (57, 0, 54, 9, 2, 0), (37, 0, 36, 12, 1, 0)], [(110, 0, 110, 4, 4, 0), (84, 0, 84, 6, 4, 0), (58, 0, 45, 9, 2, 0), (37, 0, 36, 12, 1, 0)], [(111, 0, 111, 4, 4, 0), (94, 0, 94, 5, 4, 0), (84, 0, 84, 6, 4, 0), (60, 0, 48, 9, 2, 0), (40, 0, 36, 12, 1, 0)], [(116, 0, 116, 4, 4, 0), (94, 0, 94, 5, 5, 0), (87, 0, 66, 6, 4, 0), (55, 0, 54, 9, 2, 0), (25, 0, 24, 12, 1, 0)], [(137, 0, 137, 3, 3, 0), (114, 0, 112, 4, 4, 0), (99, 0, 99, 5, 5, 0), (92, 0, 39, 6, 5, 0), (70, 0, 69, 6, 3, 0), (55, 0, 54, 9, 2, 0), (28, 0, 24, 12, 1, 0)], [(146, 0, 146, 3, 3, 0), (131, 0, 43, 4, 3, 0), (117, 0, 114, 4, 4, 0), (92, 0, 30, 6, 4, 0), (85, 0, 84, 6, 4, 0), (55, 0, 54, 9, 2, 0)], [(149, 0, 146, 3, 3, 0), (134, 0, 44, 4, 3, 0), (114, 0, 114, 4, 4, 0), (93, 0, 30, 6, 4, 0), (85, 0, 84, 6, 4, 0), (58, 0, 54, 9, 2, 0)], [(151, 0, 151, 2, 2, 0), (149, 0, 147, 3, 3, 0), (134, 0, 44, 4, 3, 0), (117, 0, 111, 4, 4, 0), (99, 0, 94, 5, 4, 0), (93, 0, 30, 6, 3, 0), (85, 0, 84, 6, 4, 0), (58, 0, 54, 9, 2, 0)], [(169, 0, 169, 2, 2, 0), (149, 0, 149, 3, 3, 0), (135, 0, 44, 4, 3, 0), (117, 0, 112, 4, 4, 0), (100, 0, 24, 5, 4, 0), (95, 0, 94, 5, 5, 0), (85, 0, 84, 6, 4, 0), (58, 0, 54, 9, 2, 0)]]
theorem k0R_20_3 : lne false false k0R fr1 fg1 1 2 3 2 2 2 2 0 887 20 48 3 6 = true := by sorry
theorem k0G_20_3 : lne false false k0G frq fgq 0 1 1 1 3 2 1 0 597 20 48 3 6 = true := by sorry
end
