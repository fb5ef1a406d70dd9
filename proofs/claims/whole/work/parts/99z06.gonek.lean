/-! A SCHEME THAT IS NEVER ENTERED, its body of at most 17 characters, other schemes around: lists. -/
def twk : List (Nat × Nat × Nat) := [(5, 0, 26), (5, 0, 27), (6, 0, 26), (8, 0, 18), (8, 0, 22), (8, 0, 23), (8, 0, 24), (9, 0, 17), (9, 0, 22), (9, 0, 23), (9, 17, 0), (9, 22, 0), (9, 23, 0), (10, 0, 21), (10, 0, 22), (10, 22, 0), (11, 0, 21), (12, 0, 26), (12, 20, 0), (13, 0, 18), (13, 0, 19), (13, 0, 22), (13, 0, 23), (13, 0, 24), (13, 0, 25), (13, 19, 0), (13, 23, 0), (13, 24, 0), (13, 25, 0), (14, 0, 17), (14, 0, 18), (14, 0, 22), (14, 0, 23), (14, 0, 24), (14, 23, 0), (14, 24, 0), (15, 0, 17), (15, 0, 22), (15, 0, 23), (15, 23, 0), (16, 0, 22)]
/-- what stands in such a context has an entry -/
def lns (L : LnT) (XR W : FrT) (X : List Nat) (va : Nat) (T : List (Nat × Nat × Nat)) : Bool := T.all (fun a => (frg XR a.1).all (fun v => (List.range (v.1 + 1)).all (fun p => (frg W a.2.2).all (fun e => (lng L (9 + a.1 + a.2.1 + a.2.2)).any (fun s => Nat.ble (e.2 + e.1 * max (max 1 (X.getD a.2.1 0)) va) s.1 && (Nat.ble (v.2 + (v.1 - p) * max 1 (X.getD a.2.1 0)) s.2.2.1 && (Nat.ble p s.2.2.2.1 && (Nat.ble (zow true a.1 a.2.1 a.2.2) s.2.2.2.2.1 && Nat.ble a.1 s.2.2.2.2.2))))))))
theorem lns_get {L : LnT} {XR W : FrT} {X : List Nat} {va k q1 q2 : Nat} {T : List (Nat × Nat × Nat)} (h : lns L XR W X va T = true) (hT : (k, q1, q2) ∈ T) {v e : Nat × Nat} {p : Nat} (hv : v ∈ frg XR k) (hp : p ≤ v.1) (he : e ∈ frg W q2) : ∃ s ∈ lng L (9 + k + q1 + q2), TqD va (max 1 (X.getD q1 0)) (zow true k q1 q2) k p v e s := by
  unfold lns at h
  have q := List.all_eq_true.mp h _ hT
  have q := rng_all (List.all_eq_true.mp q v hv) (i := p) (by omega)
  have q := List.all_eq_true.mp q e he
  obtain ⟨s, hs, r⟩ := List.any_eq_true.mp q
  rw [Bool.and_eq_true, Bool.and_eq_true, Bool.and_eq_true, Bool.and_eq_true] at r
  exact ⟨s, hs, Nat.le_of_ble_eq_true r.1, Nat.le_of_ble_eq_true r.2.1, Nat.le_of_ble_eq_true r.2.2.1, Nat.le_of_ble_eq_true r.2.2.2.1, Nat.le_of_ble_eq_true r.2.2.2.2⟩
def yka1 : LnT := [[], [], [], [], [], [], [], [], [], [], [], [], [], [], [], [], [], [], [], [], [], [], [], [], [], [], [], [], [], [], [], [], [], [], [], [(28, 0, 46, 3, 4, 9)], [], [], [], [(41, 0, 6, 2, 4, 8)], [(59, 0, 82, 4, 4, 14)], [(62, 0, 86, 4, 4, 15)], [], [], [(41, 0, 13, 4, 6, 13)], [(41, 0, 110, 4, 6, 14)], [(46, 0, 142, 4, 6, 15)], [(59, 0, 147, 4, 6, 16)]]
def ykaq : LnT := [[], [], [], [], [], [], [], [], [], [], [], [], [], [], [], [], [], [], [], [], [], [], [], [], [], [], [], [], [], [], [], [], [], [], [], [(15, 0, 41, 3, 4, 9)], [], [], [], [(21, 0, 7, 2, 4, 8)], [(32, 0, 59, 4, 4, 14)], [(39, 0, 74, 4, 4, 15)], [], [], [(21, 0, 13, 4, 6, 13)], [(26, 0, 99, 4, 6, 14)], [(30, 0, 111, 4, 6, 15)], [(32, 0, 112, 4, 6, 16)]]
theorem yka1_k : lnkb yka1 = true := by decide +kernel
theorem yka1_w : lnw yka1 2 = true := by decide +kernel
theorem ykaq_k : lnkb ykaq = true := by decide +kernel
theorem ykaq_w : lnw ykaq 1 = true := by decide +kernel
theorem yka1_s : lns yka1 xr1 fg1 fx1 4 twk = true := by decide +kernel
theorem ykaq_s : lns ykaq xrq fgq fxq 2 twk = true := by decide +kernel
theorem yka1_d20 : lne false false yka1 fr1 fg1 1 2 3 2 2 2 2 2 887 20 36 3 6 = true := by decide +kernel
theorem yka1_d36 : lne false false yka1 fr1 fg1 1 2 3 2 2 2 2 2 887 36 42 3 6 = true := by decide +kernel
theorem yka1_d42 : lne false false yka1 fr1 fg1 1 2 3 2 2 2 2 2 887 42 48 3 6 = true := by decide +kernel
theorem yka1_all {c m : Nat} (m3 : 3 ≤ m) (m5 : m < 6) (h20 : 20 ≤ c) (h47 : c ≤ 47) (hc : c + 2 * m ≤ 58) {s : T6} (hs : s ∈ lng yka1 c) : TqR false false 2 (58 - 2 * m - c) m 887 s := by
  refine ⟨⟨lnk yka1_k hs, lnw_get yka1_w hs⟩, ?_⟩
  by_cases c1 : c < 36
  · exact lne_get yka1_d20 h20 c1 (by omega) (by omega) hc hs
  · by_cases c2 : c < 42
    · exact lne_get yka1_d36 (by omega) c2 (by omega) (by omega) hc hs
    · exact lne_get yka1_d42 (by omega) (by omega) (by omega) (by omega) hc hs
theorem ykaq_d20 : lne false false ykaq frq fgq 0 1 1 1 3 2 1 1 597 20 36 3 6 = true := by decide +kernel
theorem ykaq_d36 : lne false false ykaq frq fgq 0 1 1 1 3 2 1 1 597 36 42 3 6 = true := by decide +kernel
theorem ykaq_d42 : lne false false ykaq frq fgq 0 1 1 1 3 2 1 1 597 42 48 3 6 = true := by decide +kernel
theorem ykaq_all {c m : Nat} (m3 : 3 ≤ m) (m5 : m < 6) (h20 : 20 ≤ c) (h47 : c ≤ 47) (hc : c + 2 * m ≤ 58) {s : T6} (hs : s ∈ lng ykaq c) : TqG false false 1 (58 - 2 * m - c) m 597 s := by
  refine ⟨⟨lnk ykaq_k hs, lnw_get ykaq_w hs⟩, ?_⟩
  by_cases c1 : c < 36
  · exact lne_get ykaq_d20 h20 c1 (by omega) (by omega) hc hs
  · by_cases c2 : c < 42
    · exact lne_get ykaq_d36 (by omega) c2 (by omega) (by omega) hc hs
    · exact lne_get ykaq_d42 (by omega) (by omega) (by omega) (by omega) hc hs
def ykb1 : LnT := [[], [], [], [], [], [], [], [], [], [], [], [], [], [], [], [], [], [], [], [], [], [], [], [], [], [], [], [], [], [], [], [], [], [], [], [(28, 0, 46, 3, 4, 9)], [], [], [], [(41, 0, 6, 2, 4, 8)], [(59, 0, 82, 4, 4, 14)], [(62, 0, 86, 4, 4, 15)], [], [], [(41, 0, 13, 4, 6, 13)], [(41, 0, 110, 4, 6, 14)], [(46, 0, 142, 4, 6, 15)], [(59, 0, 147, 4, 6, 16)]]
def ykbq : LnT := [[], [], [], [], [], [], [], [], [], [], [], [], [], [], [], [], [], [], [], [], [], [], [], [], [], [], [], [], [], [], [], [], [], [], [], [(15, 0, 41, 3, 4, 9)], [], [], [], [(21, 0, 7, 2, 4, 8)], [(32, 0, 59, 4, 4, 14)], [(39, 0, 74, 4, 4, 15)], [], [], [(21, 0, 13, 4, 6, 13)], [(26, 0, 99, 4, 6, 14)], [(30, 0, 111, 4, 6, 15)], [(32, 0, 112, 4, 6, 16)]]
theorem ykb1_k : lnkb ykb1 = true := by decide +kernel
theorem ykb1_w : lnw ykb1 2 = true := by decide +kernel
theorem ykbq_k : lnkb ykbq = true := by decide +kernel
theorem ykbq_w : lnw ykbq 1 = true := by decide +kernel
theorem ykb1_s : lns ykb1 xr1 fg1 fx1 4 twk = true := by decide +kernel
theorem ykbq_s : lns ykbq xrq fgq fxq 2 twk = true := by decide +kernel
theorem ykb1_d20 : lne false false ykb1 fr1 fg1 1 2 3 2 2 2 2 2 887 20 36 6 20 = true := by decide +kernel
theorem ykb1_d36 : lne false false ykb1 fr1 fg1 1 2 3 2 2 2 2 2 887 36 42 6 20 = true := by decide +kernel
theorem ykb1_d42 : lne false false ykb1 fr1 fg1 1 2 3 2 2 2 2 2 887 42 48 6 20 = true := by decide +kernel
theorem ykb1_all {c m : Nat} (m3 : 6 ≤ m) (h20 : 20 ≤ c) (h47 : c ≤ 47) (hc : c + 2 * m ≤ 58) {s : T6} (hs : s ∈ lng ykb1 c) : TqR false false 2 (58 - 2 * m - c) m 887 s := by
  refine ⟨⟨lnk ykb1_k hs, lnw_get ykb1_w hs⟩, ?_⟩
  by_cases c1 : c < 36
  · exact lne_get ykb1_d20 h20 c1 (by omega) (by omega) hc hs
  · by_cases c2 : c < 42
    · exact lne_get ykb1_d36 (by omega) c2 (by omega) (by omega) hc hs
    · exact lne_get ykb1_d42 (by omega) (by omega) (by omega) (by omega) hc hs
theorem ykbq_d20 : lne false false ykbq frq fgq 0 1 1 1 3 2 1 1 597 20 36 6 20 = true := by decide +kernel
theorem ykbq_d36 : lne false false ykbq frq fgq 0 1 1 1 3 2 1 1 597 36 42 6 20 = true := by decide +kernel
theorem ykbq_d42 : lne false false ykbq frq fgq 0 1 1 1 3 2 1 1 597 42 48 6 20 = true := by decide +kernel
theorem ykbq_all {c m : Nat} (m3 : 6 ≤ m) (h20 : 20 ≤ c) (h47 : c ≤ 47) (hc : c + 2 * m ≤ 58) {s : T6} (hs : s ∈ lng ykbq c) : TqG false false 1 (58 - 2 * m - c) m 597 s := by
  refine ⟨⟨lnk ykbq_k hs, lnw_get ykbq_w hs⟩, ?_⟩
  by_cases c1 : c < 36
  · exact lne_get ykbq_d20 h20 c1 (by omega) (by omega) hc hs
  · by_cases c2 : c < 42
    · exact lne_get ykbq_d36 (by omega) c2 (by omega) (by omega) hc hs
    · exact lne_get ykbq_d42 (by omega) (by omega) (by omega) (by omega) hc hs
def yke1 : LnT := [[], [], [], [], [], [], [], [], [], [], [], [], [], [], [], [], [], [], [], [], [], [], [], [], [], [], [], [], [], [], [], [], [], [], [], [(28, 0, 46, 3, 4, 9)], [], [], [], [(41, 0, 6, 2, 4, 8)], [(59, 0, 82, 4, 4, 14)], [(62, 0, 86, 4, 4, 15)], [], [], [(41, 0, 13, 4, 6, 13)], [(41, 0, 110, 4, 6, 14)], [(46, 0, 142, 4, 6, 15)], [(59, 0, 147, 4, 6, 16)]]
def ykeq : LnT := [[], [], [], [], [], [], [], [], [], [], [], [], [], [], [], [], [], [], [], [], [], [], [], [], [], [], [], [], [], [], [], [], [], [], [], [(15, 0, 41, 3, 4, 9)], [], [], [], [(21, 0, 7, 2, 4, 8)], [(32, 0, 59, 4, 4, 14)], [(39, 0, 74, 4, 4, 15)], [], [], [(21, 0, 13, 4, 6, 13)], [(26, 0, 99, 4, 6, 14)], [(30, 0, 111, 4, 6, 15)], [(32, 0, 112, 4, 6, 16)]]
theorem yke1_k : lnkb yke1 = true := by decide +kernel
theorem yke1_w : lnw yke1 2 = true := by decide +kernel
theorem ykeq_k : lnkb ykeq = true := by decide +kernel
theorem ykeq_w : lnw ykeq 1 = true := by decide +kernel
theorem yke1_s : lns yke1 xr1 fg1 fx1 4 twk = true := by decide +kernel
theorem ykeq_s : lns ykeq xrq fgq fxq 2 twk = true := by decide +kernel
theorem yke1_d20 : lne false true yke1 fr1 fg1 1 2 3 2 2 2 2 2 887 20 36 3 20 = true := by decide +kernel
theorem yke1_d36 : lne false true yke1 fr1 fg1 1 2 3 2 2 2 2 2 887 36 42 3 20 = true := by decide +kernel
theorem yke1_d42 : lne false true yke1 fr1 fg1 1 2 3 2 2 2 2 2 887 42 48 3 20 = true := by decide +kernel
theorem yke1_all {c m : Nat} (m3 : 3 ≤ m) (h20 : 20 ≤ c) (h47 : c ≤ 47) (hc : c + 2 * m ≤ 58) {s : T6} (hs : s ∈ lng yke1 c) : TqR false true 2 (58 - 2 * m - c) m 887 s := by
  refine ⟨⟨lnk yke1_k hs, lnw_get yke1_w hs⟩, ?_⟩
  by_cases c1 : c < 36
  · exact lne_get yke1_d20 h20 c1 (by omega) (by omega) hc hs
  · by_cases c2 : c < 42
    · exact lne_get yke1_d36 (by omega) c2 (by omega) (by omega) hc hs
    · exact lne_get yke1_d42 (by omega) (by omega) (by omega) (by omega) hc hs
theorem ykeq_d20 : lne false true ykeq frq fgq 0 1 1 1 3 2 1 1 597 20 36 3 20 = true := by decide +kernel
theorem ykeq_d36 : lne false true ykeq frq fgq 0 1 1 1 3 2 1 1 597 36 42 3 20 = true := by decide +kernel
theorem ykeq_d42 : lne false true ykeq frq fgq 0 1 1 1 3 2 1 1 597 42 48 3 20 = true := by decide +kernel
theorem ykeq_all {c m : Nat} (m3 : 3 ≤ m) (h20 : 20 ≤ c) (h47 : c ≤ 47) (hc : c + 2 * m ≤ 58) {s : T6} (hs : s ∈ lng ykeq c) : TqG false true 1 (58 - 2 * m - c) m 597 s := by
  refine ⟨⟨lnk ykeq_k hs, lnw_get ykeq_w hs⟩, ?_⟩
  by_cases c1 : c < 36
  · exact lne_get ykeq_d20 h20 c1 (by omega) (by omega) hc hs
  · by_cases c2 : c < 42
    · exact lne_get ykeq_d36 (by omega) c2 (by omega) (by omega) hc hs
    · exact lne_get ykeq_d42 (by omega) (by omega) (by omega) (by omega) hc hs
theorem twkA : ckl xa1 (fun k q1 q2 => Nat.ble 18 k || memt twk k q1 q2) = true := by decide +kernel
theorem twkC : ckl xc1 (fun k q1 q2 => Nat.ble 18 k || memt twk k q1 q2) = true := by decide +kernel
theorem twkE : ckl xe1 (fun k q1 q2 => Nat.ble 18 k || memt twk k q1 q2) = true := by decide +kernel
theorem twk_get {e co : Bool} {m k q1 q2 : Nat} (hn : npl true e co m k q1 q2 = false) (k17 : k ≤ 17) : (k, q1, q2) ∈ twk := by
  have fin : (Nat.ble 18 k || memt twk k q1 q2) = true → (k, q1, q2) ∈ twk := by
    intro h
    rw [Bool.or_eq_true] at h
    rcases h with h | h
    · have := Nat.le_of_ble_eq_true h
      omega
    · exact memt_mem h
  unfold npl at hn
  cases e with
  | true =>
    rw [if_pos rfl, Bool.or_eq_false_iff] at hn
    exact fin (ckl_get twkE (by omega) hn.1)
  | false =>
    rw [if_neg (by decide)] at hn
    by_cases m6 : m < 6
    · rw [blt_is m6, if_pos rfl, Bool.or_eq_false_iff] at hn
      exact fin (ckl_get twkA (by omega) hn.1)
    · rw [blt_not m6, if_neg (by decide), Bool.or_eq_false_iff] at hn
      exact fin (ckl_get twkC (by omega) hn.1)
section PmZ6
variable {f : Nat} {t x y C : Ty} {Γ0 Δ1 : List Ty} {Δ : List (Nat × Ty × Nat)}
theorem gone_k (nC : noh 0 C = true) (sg : SGc 0 tTop C tTop Γ0 Δ1) (nh : NHt 0 f t) (na : NAt f t) (hc : noac (cxs Δ1 Γ0 (tAll tTop C))) (nd : ∀ a ∈ Δ, noh 0 a.2.1 = true ∧ noal a.2.1 = true) (w : TWf f (cxs Δ1 Γ0 (tAll tTop C)).length (Δ.map (fun a => a.1)) t) (he : TE (cxs Δ1 Γ0 (tAll tTop C)) Δ) (co : COk f t 0) (m3 : 3 ≤ mch t) (hT : (tch C, cch Γ0, cch Δ1) ∈ twk) (ho : (∀ b ∈ Γ0, nsch b = true ∨ (true = true ∧ tch b ≤ tch C + 5)) ∧ ∀ b ∈ Δ1, nsch b = true ∨ (true = true ∧ tch b ≤ tch C + 5)) (hb : cch (cxs Δ1 Γ0 (tAll tTop C)) + dch Δ + 2 * mch t ≤ 58) (h20 : 20 ≤ cch (cxs Δ1 Γ0 (tAll tTop C))) (h49 : cch (cxs Δ1 Γ0 (tAll tTop C)) ≤ 47) : SmV tTop tTop C Γ0 Δ1 Δ f t 887 597 := by
  have ec := ec_top C Γ0 Δ1
  obtain ⟨hb0, hb1⟩ := zow_ob he.1 ho h49
  rw [ec] at hb h49 h20
  have c2 : 9 + tch C + cch Γ0 + cch Δ1 + 2 * mch t ≤ 58 := by omega
  by_cases cΔ : Δ = []
  · refine zone_gone (e := true) (cd := 58 - 2 * mch t - (9 + tch C + cch Γ0 + cch Δ1)) (ob := zow true (tch C) (cch Γ0) (cch Δ1)) nC sg nh na hc nd w he (Or.inl ⟨rfl, cΔ⟩) co (by omega) (by omega) (by omega) hb0 hb1 (by omega) (by omega) (by omega) (fun v hv p hp w hw => ?_) (fun v hv p hp w hw => ?_)
    · obtain ⟨s, hs, q⟩ := lns_get yke1_s hT hv hp hw
      exact ⟨s, q, yke1_all m3 h20 h49 c2 hs⟩
    · obtain ⟨s, hs, q⟩ := lns_get ykeq_s hT hv hp hw
      exact ⟨s, q, ykeq_all m3 h20 h49 c2 hs⟩
  · by_cases m6 : mch t < 6
    · refine zone_gone (e := false) (cd := 58 - 2 * mch t - (9 + tch C + cch Γ0 + cch Δ1)) (ob := zow true (tch C) (cch Γ0) (cch Δ1)) nC sg nh na hc nd w he (Or.inr ⟨rfl, cΔ⟩) co (by omega) (by omega) (by omega) hb0 hb1 (by omega) (by omega) (by omega) (fun v hv p hp w hw => ?_) (fun v hv p hp w hw => ?_)
      · obtain ⟨s, hs, q⟩ := lns_get yka1_s hT hv hp hw
        exact ⟨s, q, yka1_all m3 m6 h20 h49 c2 hs⟩
      · obtain ⟨s, hs, q⟩ := lns_get ykaq_s hT hv hp hw
        exact ⟨s, q, ykaq_all m3 m6 h20 h49 c2 hs⟩
    · refine zone_gone (e := false) (cd := 58 - 2 * mch t - (9 + tch C + cch Γ0 + cch Δ1)) (ob := zow true (tch C) (cch Γ0) (cch Δ1)) nC sg nh na hc nd w he (Or.inr ⟨rfl, cΔ⟩) co (by omega) (by omega) (by omega) hb0 hb1 (by omega) (by omega) (by omega) (fun v hv p hp w hw => ?_) (fun v hv p hp w hw => ?_)
      · obtain ⟨s, hs, q⟩ := lns_get ykb1_s hT hv hp hw
        exact ⟨s, q, ykb1_all (by omega) h20 h49 c2 hs⟩
      · obtain ⟨s, hs, q⟩ := lns_get ykbq_s hT hv hp hw
        exact ⟨s, q, ykbq_all (by omega) h20 h49 c2 hs⟩
end PmZ6
