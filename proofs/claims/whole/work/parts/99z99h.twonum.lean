/-! BODIES WITH TWO HEADERS: numbers; what natural values give. -/
def c29 : List ((Nat × Nat × Nat) × List (Nat × Nat × Nat) × List (Nat × Nat × Nat)) := [((12, 0, 26), [(2, 0, 0)], [(1, 0, 0)]), ((15, 0, 22), [(2, 0, 0)], [(1, 0, 0)]), ((15, 0, 23), [(2, 0, 0)], [(1, 0, 0)]), ((16, 0, 22), [(2, 0, 0)], [(1, 0, 0)]), ((22, 0, 0), [(22, 18, 2)], [(11, 10, 2)]), ((23, 0, 0), [(26, 20, 2)], [(13, 12, 2)]), ((24, 0, 0), [(30, 22, 4)], [(13, 12, 4)]), ((26, 0, 0), [(32, 26, 4)], [(19, 18, 4)]), ((27, 0, 0), [(34, 28, 4)], [(19, 18, 4)]), ((27, 0, 5), [(35, 28, 4)], [(20, 18, 4)]), ((27, 0, 9), [(71, 28, 4)], [(39, 18, 4)]), ((27, 0, 10), [(71, 28, 4)], [(39, 18, 4)]), ((27, 0, 11), [(71, 28, 4)], [(40, 18, 4)]), ((27, 5, 0), [(34, 30, 4)], [(19, 18, 4)]), ((28, 0, 0), [(39, 31, 6)], [(20, 19, 6)]), ((28, 0, 9), [(81, 31, 6)], [(41, 19, 6)]), ((28, 0, 10), [(81, 31, 6)], [(41, 19, 6)]), ((28, 6, 0), [(45, 41, 6)], [(20, 19, 6)]), ((29, 0, 0), [(44, 36, 6)], [(25, 24, 6)]), ((29, 0, 9), [(91, 36, 6)], [(51, 24, 6)]), ((30, 0, 0), [(44, 40, 6)], [(27, 26, 6)]), ((31, 0, 0), [(51, 35, 8), (46, 40, 3)], [(28, 27, 8)]), ((31, 0, 6), [(54, 40, 8)], [(29, 27, 8)]), ((31, 0, 7), [(54, 40, 8)], [(29, 27, 8)]), ((32, 0, 0), [(58, 47, 10)], [(31, 30, 10)]), ((32, 0, 5), [(59, 47, 10)], [(32, 30, 10)]), ((32, 0, 6), [(61, 47, 10)], [(32, 30, 10)]), ((32, 5, 0), [(58, 54, 10)], [(31, 30, 10)]), ((32, 6, 0), [(68, 64, 10)], [(31, 30, 10)]), ((33, 0, 0), [(63, 54, 10)], [(38, 37, 10)]), ((33, 0, 5), [(64, 54, 10)], [(39, 37, 10)]), ((33, 5, 0), [(63, 59, 10)], [(38, 37, 10)]), ((34, 0, 0), [(64, 59, 10)], [(43, 42, 10)]), ((35, 0, 0), [(70, 47, 12), (64, 59, 6)], [(43, 42, 12)])]
def t29 : List (Nat × Nat × Nat) := [(12, 0, 26), (15, 0, 22), (15, 0, 23), (16, 0, 22), (22, 0, 0), (23, 0, 0), (24, 0, 0), (26, 0, 0), (27, 0, 0), (27, 0, 5), (27, 0, 9), (27, 0, 10), (27, 0, 11), (27, 5, 0), (28, 0, 0), (28, 0, 9), (28, 0, 10), (28, 6, 0), (29, 0, 0), (29, 0, 9), (30, 0, 0), (31, 0, 0), (31, 0, 6), (31, 0, 7), (32, 0, 0), (32, 0, 5), (32, 0, 6), (32, 5, 0), (32, 6, 0), (33, 0, 0), (33, 0, 5), (33, 5, 0), (34, 0, 0), (35, 0, 0)]
theorem c29_t : t29.all (fun t => c29.any (fun c => Nat.beq c.1.1 t.1 && (Nat.beq c.1.2.1 t.2.1 && Nat.beq c.1.2.2 t.2.2))) = true := by decide +kernel
theorem t29_min : ∀ t ∈ t29, 12 ≤ t.1 ∧ t.1 ≤ 38 ∧ t.2.1 ≤ 7 ∧ t.2.2 ≤ 26 ∧ 31 ≤ 9 + t.1 + t.2.1 + t.2.2 := by decide
def d9 (F W : FrT) (X : List Nat) (hv s2 wB : Nat) (k q1 q2 : Nat) (L : List (Nat × Nat × Nat)) : Bool := (frg F k).all (fun v => (List.range (v.1 + 1)).all (fun p => (frg W q2).all (fun e => L.any (fun s => Nat.ble (e.2 + e.1 * max (max 1 (X.getD q1 0)) (hv + (s2 + (v.2 + (v.1 - p) * max 1 (X.getD q1 0) + p * wB)))) s.1 && (Nat.ble (v.2 + (v.1 - p) * max 1 (X.getD q1 0)) s.2.1 && (Nat.ble p s.2.2 && Nat.ble wB s.1))))))
theorem d9R_ok : c29.all (fun c => d9 yC1 fg1 fx1 1 3 2 c.1.1 c.1.2.1 c.1.2.2 c.2.1) = true := by decide +kernel
theorem d9G_ok : c29.all (fun c => d9 yCq fgq fxq 0 1 1 c.1.1 c.1.2.1 c.1.2.2 c.2.2) = true := by decide +kernel
def ck9 (F W : FrT) (hv fn s2 r0 r1 r2 r3 wB Bd k q1 q2 : Nat) (s : Nat × Nat × Nat) : Bool := (List.range 14).all (fun m => Nat.blt m 3 || ((Nat.blt 58 (9 + k + q1 + q2 + 5 + 2 * m) || Nat.ble (dp9 (u8 k q1 q2 m) F W 0 hv fn s2 r0 r1 r2 r3 s.2.1 s.2.2 wB (zow true k q1 q2) (k - 6) k s.1 (58 - 2 * m - (9 + k + q1 + q2)) m) Bd) && (Nat.blt 58 (9 + k + q1 + q2 + 2 * m) || Nat.ble (dp9 true F W 5 hv fn s2 r0 r1 r2 r3 s.2.1 s.2.2 wB (zow true k q1 q2) (k - 6) k s.1 0 m) Bd)))
theorem c9R_0 : ((c29.drop 0).take 6).all (fun c => c.2.1.all (fun s => ck9 fr1 fg1 1 2 3 2 2 2 2 2 887 c.1.1 c.1.2.1 c.1.2.2 s)) = true := by decide +kernel
theorem c9G_0 : ((c29.drop 0).take 6).all (fun c => c.2.2.all (fun s => ck9 frq fgq 0 1 1 1 3 2 1 1 597 c.1.1 c.1.2.1 c.1.2.2 s)) = true := by decide +kernel
theorem c9R_6 : ((c29.drop 6).take 6).all (fun c => c.2.1.all (fun s => ck9 fr1 fg1 1 2 3 2 2 2 2 2 887 c.1.1 c.1.2.1 c.1.2.2 s)) = true := by decide +kernel
theorem c9G_6 : ((c29.drop 6).take 6).all (fun c => c.2.2.all (fun s => ck9 frq fgq 0 1 1 1 3 2 1 1 597 c.1.1 c.1.2.1 c.1.2.2 s)) = true := by decide +kernel
theorem c9R_12 : ((c29.drop 12).take 6).all (fun c => c.2.1.all (fun s => ck9 fr1 fg1 1 2 3 2 2 2 2 2 887 c.1.1 c.1.2.1 c.1.2.2 s)) = true := by decide +kernel
theorem c9G_12 : ((c29.drop 12).take 6).all (fun c => c.2.2.all (fun s => ck9 frq fgq 0 1 1 1 3 2 1 1 597 c.1.1 c.1.2.1 c.1.2.2 s)) = true := by decide +kernel
theorem c9R_18 : ((c29.drop 18).take 6).all (fun c => c.2.1.all (fun s => ck9 fr1 fg1 1 2 3 2 2 2 2 2 887 c.1.1 c.1.2.1 c.1.2.2 s)) = true := by decide +kernel
theorem c9G_18 : ((c29.drop 18).take 6).all (fun c => c.2.2.all (fun s => ck9 frq fgq 0 1 1 1 3 2 1 1 597 c.1.1 c.1.2.1 c.1.2.2 s)) = true := by decide +kernel
theorem c9R_24 : ((c29.drop 24).take 6).all (fun c => c.2.1.all (fun s => ck9 fr1 fg1 1 2 3 2 2 2 2 2 887 c.1.1 c.1.2.1 c.1.2.2 s)) = true := by decide +kernel
theorem c9G_24 : ((c29.drop 24).take 6).all (fun c => c.2.2.all (fun s => ck9 frq fgq 0 1 1 1 3 2 1 1 597 c.1.1 c.1.2.1 c.1.2.2 s)) = true := by decide +kernel
theorem c9R_30 : ((c29.drop 30).take 6).all (fun c => c.2.1.all (fun s => ck9 fr1 fg1 1 2 3 2 2 2 2 2 887 c.1.1 c.1.2.1 c.1.2.2 s)) = true := by decide +kernel
theorem c9G_30 : ((c29.drop 30).take 6).all (fun c => c.2.2.all (fun s => ck9 frq fgq 0 1 1 1 3 2 1 1 597 c.1.1 c.1.2.1 c.1.2.2 s)) = true := by decide +kernel
theorem c9R_ok : ∀ c ∈ c29, ∀ s ∈ c.2.1, ck9 fr1 fg1 1 2 3 2 2 2 2 2 887 c.1.1 c.1.2.1 c.1.2.2 s = true := by
  intro c hc
  rw [show c29 = (c29.drop 0).take 6 ++ (c29.drop 6).take 6 ++ (c29.drop 12).take 6 ++ (c29.drop 18).take 6 ++ (c29.drop 24).take 6 ++ (c29.drop 30).take 6 from rfl] at hc
  simp only [List.mem_append] at hc
  rcases hc with (((((hc | hc) | hc) | hc) | hc) | hc)
  · exact List.all_eq_true.mp (List.all_eq_true.mp c9R_0 c hc)
  · exact List.all_eq_true.mp (List.all_eq_true.mp c9R_6 c hc)
  · exact List.all_eq_true.mp (List.all_eq_true.mp c9R_12 c hc)
  · exact List.all_eq_true.mp (List.all_eq_true.mp c9R_18 c hc)
  · exact List.all_eq_true.mp (List.all_eq_true.mp c9R_24 c hc)
  · exact List.all_eq_true.mp (List.all_eq_true.mp c9R_30 c hc)
theorem c9G_ok : ∀ c ∈ c29, ∀ s ∈ c.2.2, ck9 frq fgq 0 1 1 1 3 2 1 1 597 c.1.1 c.1.2.1 c.1.2.2 s = true := by
  intro c hc
  rw [show c29 = (c29.drop 0).take 6 ++ (c29.drop 6).take 6 ++ (c29.drop 12).take 6 ++ (c29.drop 18).take 6 ++ (c29.drop 24).take 6 ++ (c29.drop 30).take 6 from rfl] at hc
  simp only [List.mem_append] at hc
  rcases hc with (((((hc | hc) | hc) | hc) | hc) | hc)
  · exact List.all_eq_true.mp (List.all_eq_true.mp c9G_0 c hc)
  · exact List.all_eq_true.mp (List.all_eq_true.mp c9G_6 c hc)
  · exact List.all_eq_true.mp (List.all_eq_true.mp c9G_12 c hc)
  · exact List.all_eq_true.mp (List.all_eq_true.mp c9G_18 c hc)
  · exact List.all_eq_true.mp (List.all_eq_true.mp c9G_24 c hc)
  · exact List.all_eq_true.mp (List.all_eq_true.mp c9G_30 c hc)
theorem d9_get {F W : FrT} {X : List Nat} {hv s2 wB k q1 q2 p : Nat} {L : List (Nat × Nat × Nat)} (h : d9 F W X hv s2 wB k q1 q2 L = true) {v e : Nat × Nat} (hv' : v ∈ frg F k) (hp : p ≤ v.1) (he : e ∈ frg W q2) : ∃ s ∈ L, (e.2 + e.1 * max (max 1 (X.getD q1 0)) (hv + (s2 + (v.2 + (v.1 - p) * max 1 (X.getD q1 0) + p * wB))) ≤ s.1 ∧ v.2 + (v.1 - p) * max 1 (X.getD q1 0) ≤ s.2.1 ∧ p ≤ s.2.2) ∧ wB ≤ s.1 := by
  have q := List.all_eq_true.mp (rng_all (List.all_eq_true.mp h v hv') (i := p) (by omega)) e he
  obtain ⟨s, hs, q⟩ := List.any_eq_true.mp q
  rw [Bool.and_eq_true, Bool.and_eq_true, Bool.and_eq_true] at q
  exact ⟨s, hs, ⟨Nat.le_of_ble_eq_true q.1, Nat.le_of_ble_eq_true q.2.1, Nat.le_of_ble_eq_true q.2.2.1⟩, Nat.le_of_ble_eq_true q.2.2.2⟩
theorem c9_get {F W : FrT} {hv fn s2 r0 r1 r2 r3 wB Bd k q1 q2 m : Nat} {s : Nat × Nat × Nat} (h : ck9 F W hv fn s2 r0 r1 r2 r3 wB Bd k q1 q2 s = true) (m3 : 3 ≤ m) (m14 : m < 14) : (9 + k + q1 + q2 + 5 + 2 * m ≤ 58 → dp9 (u8 k q1 q2 m) F W 0 hv fn s2 r0 r1 r2 r3 s.2.1 s.2.2 wB (zow true k q1 q2) (k - 6) k s.1 (58 - 2 * m - (9 + k + q1 + q2)) m ≤ Bd) ∧ (9 + k + q1 + q2 + 2 * m ≤ 58 → dp9 true F W 5 hv fn s2 r0 r1 r2 r3 s.2.1 s.2.2 wB (zow true k q1 q2) (k - 6) k s.1 0 m ≤ Bd) := by
  have q := rng_all h (i := m) m14
  rw [Bool.or_eq_true, Bool.and_eq_true, Bool.or_eq_true, Bool.or_eq_true] at q
  rcases q with q | ⟨q1', q2'⟩
  · exact (blt_no m3 q).elim
  · refine ⟨fun hb => ?_, fun hb => ?_⟩
    · rcases q1' with q | q
      · exact (blt_no hb q).elim
      · exact Nat.le_of_ble_eq_true q
    · rcases q2' with q | q
      · exact (blt_no hb q).elim
      · exact Nat.le_of_ble_eq_true q
section PmNu
variable {f : Nat} {t b D : Ty} {Γ0 Δ1 : List Ty} {Δ : List (Nat × Ty × Nat)}
theorem nat_9 (w : TWf f (cxs Δ1 Γ0 (tAll tTop (tAll b D))).length (Δ.map (fun a => a.1)) t) (he : TE (cxs Δ1 Γ0 (tAll tTop (tAll b D))) Δ) (tn : TNo f t) (ch : CHo f t []) (hb9 : hd b ≠ 0 ∧ hd b < 16) (hp : bdC b D = true) (ho : (∀ b' ∈ Γ0, nsch b' = true ∨ (true = true ∧ tch b' ≤ tch (tAll b D) + 5)) ∧ ∀ b' ∈ Δ1, nsch b' = true ∨ (true = true ∧ tch b' ≤ tch (tAll b D) + 5)) (h29 : memt t29 (tch (tAll b D)) (cch Γ0) (cch Δ1) = true) (m3 : 3 ≤ mch t) (hb : cch (cxs Δ1 Γ0 (tAll tTop (tAll b D))) + dch Δ + 2 * mch t ≤ 58) (h49 : cch (cxs Δ1 Γ0 (tAll tTop (tAll b D))) ≤ 47) : NtV (cxs Δ1 Γ0 (tAll tTop (tAll b D))) Δ f t 887 597 := by
  have hm := memt_mem h29
  have ec := ec_top (tAll b D) Γ0 Δ1
  have kk : 12 ≤ tch (tAll b D) ∧ tch (tAll b D) ≤ 38 ∧ cch Γ0 ≤ 7 ∧ cch Δ1 ≤ 26 ∧ 31 ≤ 9 + tch (tAll b D) + cch Γ0 + cch Δ1 := t29_min _ hm
  obtain ⟨hb0, hb1⟩ := zow_ob he.1 ho h49
  obtain ⟨c, hc, e⟩ := List.any_eq_true.mp (List.all_eq_true.mp c29_t _ hm)
  rw [Bool.and_eq_true, Bool.and_eq_true] at e
  have e1 : c.1.1 = tch (tAll b D) := Nat.eq_of_beq_eq_true e.1
  have e2 : c.1.2.1 = cch Γ0 := Nat.eq_of_beq_eq_true e.2.1
  have e3 : c.1.2.2 = cch Δ1 := Nat.eq_of_beq_eq_true e.2.2
  have dR := List.all_eq_true.mp d9R_ok c hc
  have dG := List.all_eq_true.mp d9G_ok c hc
  have cR := c9R_ok c hc
  have cG := c9G_ok c hc
  rw [e1, e2, e3] at dR dG cR cG
  rw [ec] at hb h49
  obtain ⟨-, oA⟩ := okc_low Δ1 he.1
  have oC := (ok_all.mp oA).2
  have ob := (ok_all.mp oC).1
  have oD := (ok_all.mp oC).2
  have tb : 2 ≤ tch b := by
    rcases ok_cases ob with rfl | ⟨j, hj, rfl⟩ | ⟨x, y, rfl, hx, hy⟩ | ⟨x, y, rfl, hx, hy⟩ | ⟨m, x, y, z, hm', rfl, -, -, -⟩
    · exact absurd rfl hb9.1
    · have := hb9.2; rw [hd_var] at this; omega
    · rw [tch_fun]; omega
    · rw [tch_all]; omega
    · rw [tch_rec]; have := (rch_ng m hm').1; omega
  have et : tch (tAll b D) = 4 + (tch b + tch D) := tch_all b D
  have pD := tch_pos oD
  have fR : ∃ v ∈ frg yC1 (tch (tAll b D)), xt (Γ0.length + 1) (tAll b D) ≤ v.1 ∧ xa 0 (fun _ => 1 + 1) 3 1 (Γ0.length + 1) (tAll b D) ≤ v.2 := yC_f1 ob oD hb9 (by omega) hp
  have fG : ∃ v ∈ frg yCq (tch (tAll b D)), xt (Γ0.length + 1) (tAll b D) ≤ v.1 ∧ xa 1 ngc 1 0 (Γ0.length + 1) (tAll b D) ≤ v.2 := yC_fq ob oD hb9 (by omega) hp
  have fin : ∀ (un ee : Bool) (cd : Nat), ((ee = true ∧ Δ = []) ∨ (ee = false ∧ Δ ≠ [])) → (un = true ∨ COk f t 0) → dch Δ ≤ cd → cd ≤ 56 → (∀ s ∈ c.2.1, 2 ≤ s.1 → TpR9 un ee 2 cd (mch t) (s.1, tch (tAll b D) - 6, s.2.1, s.2.2, zow true (tch (tAll b D)) (cch Γ0) (cch Δ1), tch (tAll b D))) → (∀ s ∈ c.2.2, 1 ≤ s.1 → TpG9 un ee 1 cd (mch t) (s.1, tch (tAll b D) - 6, s.2.1, s.2.2, zow true (tch (tAll b D)) (cch Γ0) (cch Δ1), tch (tAll b D))) → NtV (cxs Δ1 Γ0 (tAll tTop (tAll b D))) Δ f t 887 597 := by
    intro un ee cd hΔ cu hcd1 hcd2 hR hG
    refine zone_g9 (un := un) (e := ee) (cd := cd) (ob := zow true (tch (tAll b D)) (cch Γ0) (cch Δ1)) (wR := 2) (wG := 1) (yR := max 1 (fx1.getD (cch Γ0) 0)) (yG := max 1 (fxq.getD (cch Γ0) 0)) (VR := frg yC1 (tch (tAll b D))) (VG := frg yCq (tch (tAll b D))) (WR := frg fg1 (cch Δ1)) (WG := frg fgq (cch Δ1)) w he hΔ cu ch (by omega) hcd1 hcd2 hb0 hb1 (fun b => by rw [nz_top]; exact vlr_one b 0) (by rw [nz_top]; exact Nat.le_refl _) fR fG (fun b' v x1 x2 => nat_ctxg (wB := 2) (v := v) (tbs1 b') (vlr_one b') (by decide) he.1 x1 x2 (by rw [nz_top]; exact vlr_one b' 0) (Nat.le_refl _) (by omega) (gr_R he.1 (by omega) b')) (fun v x1 x2 => nat_ctxg (wB := 1) (v := v) tbsq (fun y => by show y ≤ 0 + max 1 y; omega) (by decide) he.1 x1 x2 (by rw [nz_top]; exact Nat.le_refl _) (Nat.le_refl _) (by omega) (gr_G he.1 (by omega))) ?_ ?_
    · intro v hv p hp' e he'
      obtain ⟨s, hs, q, q2⟩ := d9_get dR hv hp' he'
      exact ⟨_, ⟨q.1, q.2.1, q.2.2, Nat.le_refl _, Nat.le_refl _⟩, by show tch D ≤ tch (tAll b D) - 6; omega, hR s hs q2⟩
    · intro v hv p hp' e he'
      obtain ⟨s, hs, q, q2⟩ := d9_get dG hv hp' he'
      exact ⟨_, ⟨q.1, q.2.1, q.2.2, Nat.le_refl _, Nat.le_refl _⟩, by show tch D ≤ tch (tAll b D) - 6; omega, hG s hs q2⟩
  have m14 : mch t < 14 := by omega
  by_cases nΔ : Δ = []
  · refine fin true true 56 (Or.inl ⟨rfl, nΔ⟩) (Or.inl rfl) (by rw [nΔ]; exact Nat.zero_le _) (Nat.le_refl _) (fun s hs w2 => ?_) (fun s hs w2 => ?_)
    · exact ⟨⟨⟨by show tch (tAll b D) ≤ 50; omega, by show tch (tAll b D) - 6 ≤ tch (tAll b D); omega⟩, w2⟩, (fun h => by cases h), fun _ => (c9_get (cR s hs) m3 m14).2 (by omega)⟩
    · exact ⟨⟨⟨by show tch (tAll b D) ≤ 50; omega, by show tch (tAll b D) - 6 ≤ tch (tAll b D); omega⟩, w2⟩, (fun h => by cases h), fun _ => (c9_get (cG s hs) m3 m14).2 (by omega)⟩
  · have d5 := dch_five he nΔ
    have cu : u8 (tch (tAll b D)) (cch Γ0) (cch Δ1) (mch t) = true ∨ COk f t 0 := by
      by_cases c : u8 (tch (tAll b D)) (cch Γ0) (cch Δ1) (mch t) = true
      · exact Or.inl c
      · right
        rcases co_six w with q | q
        · exact q
        · have c2 : tch (tAll b D) = 32 ∧ cch Γ0 = 0 ∧ cch Δ1 = 0 ∧ mch t = 6 := Classical.byContradiction (fun h => c (by
            unfold u8
            rw [Bool.and_eq_true, Bool.not_eq_true']
            refine ⟨Nat.ble_eq_true_of_le q, ?_⟩
            rw [Bool.eq_false_iff]
            intro e
            rw [Bool.and_eq_true, Bool.and_eq_true, Bool.and_eq_true] at e
            exact h ⟨Nat.eq_of_beq_eq_true e.1, Nat.eq_of_beq_eq_true e.2.1, Nat.eq_of_beq_eq_true e.2.2.1, Nat.eq_of_beq_eq_true e.2.2.2⟩))
          obtain ⟨a, ea⟩ := dch_one he nΔ (by omega)
          rw [ea] at w
          rcases (chr_one f _ _ t w tn).2 with h | h
          · exact h
          · omega
    refine fin _ false (58 - 2 * mch t - (9 + tch (tAll b D) + cch Γ0 + cch Δ1)) (Or.inr ⟨rfl, nΔ⟩) cu (by omega) (by omega) (fun s hs w2 => ?_) (fun s hs w2 => ?_)
    · exact ⟨⟨⟨by show tch (tAll b D) ≤ 50; omega, by show tch (tAll b D) - 6 ≤ tch (tAll b D); omega⟩, w2⟩, fun _ _ => (c9_get (cR s hs) m3 m14).1 (by omega), (fun h => by cases h)⟩
    · exact ⟨⟨⟨by show tch (tAll b D) ≤ 50; omega, by show tch (tAll b D) - 6 ≤ tch (tAll b D); omega⟩, w2⟩, fun _ _ => (c9_get (cG s hs) m3 m14).1 (by omega), (fun h => by cases h)⟩
end PmNu
