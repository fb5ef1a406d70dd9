/-! THE BODY A SCHEME WITH BOUND TOP, such a scheme inside it: by characters and nodes. -/
def n121 : List (Nat × Nat) := [(9, 29), (8, 31), (6, 47), (3, 50), (0, 59)]
def n12q : List (Nat × Nat) := [(9, 17), (6, 29), (4, 32), (3, 41), (0, 44)]
theorem n121_ok : (List.range 13).all (fun n => nsu (frg nB1 n) n121 0) = true := by decide +kernel
theorem n12q_ok : (List.range 13).all (fun n => nsu (frg nBq n) n12q 0) = true := by decide +kernel
/-- a header with bound Top before it -/
def hdl (s2 w : Nat) (L : List (Nat × Nat)) : List (Nat × Nat) := L.flatMap (fun q => (List.range (q.1 + 1)).map (fun u => (q.1 - u, s2 + q.2 + u * w)))
theorem hdl_ex {t0 s2 hv d w : Nat} {n1 : Nat → Nat} {D : Ty} {L : List (Nat × Nat)} (h : ∃ q ∈ L, xt (d + 1) D ≤ q.1 ∧ xa t0 n1 s2 hv (d + 1) D ≤ q.2) (hw : hv + max 1 t0 ≤ w) : ∃ v ∈ hdl s2 w L, xt d (tAll tTop D) ≤ v.1 ∧ xa t0 n1 s2 hv d (tAll tTop D) ≤ v.2 := by
  obtain ⟨q, hq, g1, g2⟩ := h
  obtain ⟨u, hu, g⟩ := XFm_all (XFm_top (t0 := t0) (n1 := n1) (s2 := s2) (hv := hv) (d := d)) (show XFm t0 n1 s2 hv (d + 1) D q.1 q.2 from ⟨g1, g2⟩)
  refine ⟨(q.1 - u, s2 + q.2 + u * w), List.mem_flatMap.mpr ⟨q, hq, List.mem_map.mpr ⟨u, List.mem_range.mpr (by omega), rfl⟩⟩, ?_, ?_⟩
  · have := g.1
    show xt d (tAll tTop D) ≤ q.1 - u
    omega
  · have a := g.2
    have b := Nat.mul_le_mul_left u hw
    show xa t0 n1 s2 hv d (tAll tTop D) ≤ s2 + q.2 + u * w
    omega
def c27 : List ((Nat × Nat × Nat) × (Nat × Nat × Nat) × (Nat × Nat × Nat)) := [((12, 0, 26), (131, 8, 1), (45, 3, 1)), ((15, 0, 22), (113, 12, 2), (48, 6, 2)), ((15, 0, 23), (113, 12, 2), (48, 6, 2)), ((16, 0, 22), (119, 13, 2), (48, 6, 2)), ((22, 0, 0), (24, 20, 3), (13, 12, 3)), ((23, 0, 0), (28, 24, 4), (16, 15, 4)), ((24, 0, 0), (32, 28, 4), (16, 15, 4)), ((26, 0, 0), (34, 30, 4), (20, 19, 4)), ((27, 0, 0), (38, 34, 5), (20, 19, 5)), ((27, 0, 5), (39, 34, 5), (21, 19, 5)), ((27, 0, 9), (79, 34, 5), (41, 19, 5)), ((27, 0, 10), (79, 34, 5), (41, 19, 5)), ((27, 0, 11), (79, 34, 5), (42, 19, 5)), ((27, 5, 0), (38, 34, 5), (20, 19, 5)), ((28, 0, 0), (44, 40, 6), (21, 20, 6)), ((28, 0, 9), (91, 40, 6), (43, 20, 6)), ((28, 0, 10), (91, 40, 6), (43, 20, 6)), ((28, 6, 0), (50, 46, 6), (21, 20, 6)), ((29, 0, 0), (48, 44, 6), (26, 25, 6)), ((29, 0, 9), (99, 44, 6), (53, 25, 6)), ((30, 0, 0), (48, 44, 6), (29, 28, 6)), ((31, 0, 0), (50, 46, 6), (29, 28, 6)), ((31, 0, 6), (53, 46, 6), (30, 28, 6)), ((31, 0, 7), (53, 46, 6), (30, 28, 6)), ((32, 0, 0), (56, 52, 9), (32, 31, 9)), ((32, 0, 5), (57, 52, 9), (33, 31, 9)), ((32, 0, 6), (59, 52, 9), (33, 31, 9)), ((32, 5, 0), (56, 52, 9), (32, 31, 9)), ((32, 6, 0), (63, 59, 9), (32, 31, 9)), ((33, 0, 0), (66, 62, 9), (38, 37, 9)), ((33, 0, 5), (67, 62, 9), (39, 37, 9)), ((33, 5, 0), (66, 62, 9), (38, 37, 9)), ((34, 0, 0), (66, 62, 9), (38, 37, 9)), ((35, 0, 0), (66, 62, 9), (40, 39, 9)), ((36, 0, 0), (66, 62, 9), (46, 45, 9)), ((37, 0, 0), (66, 62, 9), (46, 45, 9)), ((38, 0, 0), (66, 62, 9), (46, 45, 9))]
def t27 : List (Nat × Nat × Nat) := [(12, 0, 26), (15, 0, 22), (15, 0, 23), (16, 0, 22), (22, 0, 0), (23, 0, 0), (24, 0, 0), (26, 0, 0), (27, 0, 0), (27, 0, 5), (27, 0, 9), (27, 0, 10), (27, 0, 11), (27, 5, 0), (28, 0, 0), (28, 0, 9), (28, 0, 10), (28, 6, 0), (29, 0, 0), (29, 0, 9), (30, 0, 0), (31, 0, 0), (31, 0, 6), (31, 0, 7), (32, 0, 0), (32, 0, 5), (32, 0, 6), (32, 5, 0), (32, 6, 0), (33, 0, 0), (33, 0, 5), (33, 5, 0), (34, 0, 0), (35, 0, 0), (36, 0, 0), (37, 0, 0), (38, 0, 0)]
theorem c27_t : t27.all (fun t => c27.any (fun c => Nat.beq c.1.1 t.1 && (Nat.beq c.1.2.1 t.2.1 && Nat.beq c.1.2.2 t.2.2))) = true := by decide +kernel
def d8 (F : FrT) (N : List (Nat × Nat)) (W : FrT) (X : List Nat) (hv s2 wB : Nat) (k q1 q2 : Nat) (s : Nat × Nat × Nat) : Bool := (hdl s2 (hv + 1) (mnl (frg F (k - 5)) N)).all (fun v => (List.range (v.1 + 1)).all (fun p => (frg W q2).all (fun e => Nat.ble (e.2 + e.1 * max (max 1 (X.getD q1 0)) (hv + (s2 + (v.2 + (v.1 - p) * max 1 (X.getD q1 0) + p * wB)))) s.1 && (Nat.ble (v.2 + (v.1 - p) * max 1 (X.getD q1 0)) s.2.1 && (Nat.ble p s.2.2 && Nat.ble wB s.1)))))
theorem d8R_ok : c27.all (fun c => d8 xfa1 n121 fg1 fx1 1 3 2 c.1.1 c.1.2.1 c.1.2.2 c.2.1) = true := by decide +kernel
theorem d8G_ok : c27.all (fun c => d8 xfaq n12q fgq fxq 0 1 1 c.1.1 c.1.2.1 c.1.2.2 c.2.2) = true := by decide +kernel
def u8 (k q1 q2 m : Nat) : Bool := Nat.ble 6 m && !(Nat.beq k 32 && (Nat.beq q1 0 && (Nat.beq q2 0 && Nat.beq m 6)))
def ck8 (F W : FrT) (hv fn s2 r0 r1 r2 r3 wB Bd k q1 q2 : Nat) (s : Nat × Nat × Nat) : Bool := (List.range 14).all (fun m => Nat.blt m 3 || ((Nat.blt 58 (9 + k + q1 + q2 + 5 + 2 * m) || Nat.ble (dpD (u8 k q1 q2 m) F W 0 hv fn s2 r0 r1 r2 r3 s.2.1 s.2.2 wB (zow true k q1 q2) (k - 5) s.1 (58 - 2 * m - (9 + k + q1 + q2)) m) Bd) && (Nat.blt 58 (9 + k + q1 + q2 + 2 * m) || Nat.ble (dpD true F W 5 hv fn s2 r0 r1 r2 r3 s.2.1 s.2.2 wB (zow true k q1 q2) (k - 5) s.1 0 m) Bd)))
theorem c8R_0 : ((c27.drop 0).take 7).all (fun c => ck8 fr1 fg1 1 2 3 2 2 2 2 2 887 c.1.1 c.1.2.1 c.1.2.2 c.2.1) = true := by decide +kernel
theorem c8G_0 : ((c27.drop 0).take 7).all (fun c => ck8 frq fgq 0 1 1 1 3 2 1 1 597 c.1.1 c.1.2.1 c.1.2.2 c.2.2) = true := by decide +kernel
theorem c8R_7 : ((c27.drop 7).take 7).all (fun c => ck8 fr1 fg1 1 2 3 2 2 2 2 2 887 c.1.1 c.1.2.1 c.1.2.2 c.2.1) = true := by decide +kernel
theorem c8G_7 : ((c27.drop 7).take 7).all (fun c => ck8 frq fgq 0 1 1 1 3 2 1 1 597 c.1.1 c.1.2.1 c.1.2.2 c.2.2) = true := by decide +kernel
theorem c8R_14 : ((c27.drop 14).take 7).all (fun c => ck8 fr1 fg1 1 2 3 2 2 2 2 2 887 c.1.1 c.1.2.1 c.1.2.2 c.2.1) = true := by decide +kernel
theorem c8G_14 : ((c27.drop 14).take 7).all (fun c => ck8 frq fgq 0 1 1 1 3 2 1 1 597 c.1.1 c.1.2.1 c.1.2.2 c.2.2) = true := by decide +kernel
theorem c8R_21 : ((c27.drop 21).take 7).all (fun c => ck8 fr1 fg1 1 2 3 2 2 2 2 2 887 c.1.1 c.1.2.1 c.1.2.2 c.2.1) = true := by decide +kernel
theorem c8G_21 : ((c27.drop 21).take 7).all (fun c => ck8 frq fgq 0 1 1 1 3 2 1 1 597 c.1.1 c.1.2.1 c.1.2.2 c.2.2) = true := by decide +kernel
theorem c8R_28 : ((c27.drop 28).take 7).all (fun c => ck8 fr1 fg1 1 2 3 2 2 2 2 2 887 c.1.1 c.1.2.1 c.1.2.2 c.2.1) = true := by decide +kernel
theorem c8G_28 : ((c27.drop 28).take 7).all (fun c => ck8 frq fgq 0 1 1 1 3 2 1 1 597 c.1.1 c.1.2.1 c.1.2.2 c.2.2) = true := by decide +kernel
theorem c8R_35 : ((c27.drop 35).take 7).all (fun c => ck8 fr1 fg1 1 2 3 2 2 2 2 2 887 c.1.1 c.1.2.1 c.1.2.2 c.2.1) = true := by decide +kernel
theorem c8G_35 : ((c27.drop 35).take 7).all (fun c => ck8 frq fgq 0 1 1 1 3 2 1 1 597 c.1.1 c.1.2.1 c.1.2.2 c.2.2) = true := by decide +kernel
theorem c8R_ok : ∀ c ∈ c27, ck8 fr1 fg1 1 2 3 2 2 2 2 2 887 c.1.1 c.1.2.1 c.1.2.2 c.2.1 = true := by
  intro c hc
  rw [show c27 = (c27.drop 0).take 7 ++ (c27.drop 7).take 7 ++ (c27.drop 14).take 7 ++ (c27.drop 21).take 7 ++ (c27.drop 28).take 7 ++ (c27.drop 35).take 7 from rfl] at hc
  simp only [List.mem_append] at hc
  rcases hc with (((((hc | hc) | hc) | hc) | hc) | hc)
  · exact List.all_eq_true.mp c8R_0 c hc
  · exact List.all_eq_true.mp c8R_7 c hc
  · exact List.all_eq_true.mp c8R_14 c hc
  · exact List.all_eq_true.mp c8R_21 c hc
  · exact List.all_eq_true.mp c8R_28 c hc
  · exact List.all_eq_true.mp c8R_35 c hc
theorem c8G_ok : ∀ c ∈ c27, ck8 frq fgq 0 1 1 1 3 2 1 1 597 c.1.1 c.1.2.1 c.1.2.2 c.2.2 = true := by
  intro c hc
  rw [show c27 = (c27.drop 0).take 7 ++ (c27.drop 7).take 7 ++ (c27.drop 14).take 7 ++ (c27.drop 21).take 7 ++ (c27.drop 28).take 7 ++ (c27.drop 35).take 7 from rfl] at hc
  simp only [List.mem_append] at hc
  rcases hc with (((((hc | hc) | hc) | hc) | hc) | hc)
  · exact List.all_eq_true.mp c8G_0 c hc
  · exact List.all_eq_true.mp c8G_7 c hc
  · exact List.all_eq_true.mp c8G_14 c hc
  · exact List.all_eq_true.mp c8G_21 c hc
  · exact List.all_eq_true.mp c8G_28 c hc
  · exact List.all_eq_true.mp c8G_35 c hc
theorem d8_get {F : FrT} {N : List (Nat × Nat)} {W : FrT} {X : List Nat} {hv s2 wB k q1 q2 p : Nat} {s : Nat × Nat × Nat} (h : d8 F N W X hv s2 wB k q1 q2 s = true) {v e : Nat × Nat} (hv' : v ∈ hdl s2 (hv + 1) (mnl (frg F (k - 5)) N)) (hp : p ≤ v.1) (he : e ∈ frg W q2) : (e.2 + e.1 * max (max 1 (X.getD q1 0)) (hv + (s2 + (v.2 + (v.1 - p) * max 1 (X.getD q1 0) + p * wB))) ≤ s.1 ∧ v.2 + (v.1 - p) * max 1 (X.getD q1 0) ≤ s.2.1 ∧ p ≤ s.2.2) ∧ wB ≤ s.1 := by
  have q := List.all_eq_true.mp (rng_all (List.all_eq_true.mp h v hv') (i := p) (by omega)) e he
  rw [Bool.and_eq_true, Bool.and_eq_true, Bool.and_eq_true] at q
  exact ⟨⟨Nat.le_of_ble_eq_true q.1, Nat.le_of_ble_eq_true q.2.1, Nat.le_of_ble_eq_true q.2.2.1⟩, Nat.le_of_ble_eq_true q.2.2.2⟩
theorem c8_get {F W : FrT} {hv fn s2 r0 r1 r2 r3 wB Bd k q1 q2 m : Nat} {s : Nat × Nat × Nat} (h : ck8 F W hv fn s2 r0 r1 r2 r3 wB Bd k q1 q2 s = true) (m3 : 3 ≤ m) (m14 : m < 14) : (9 + k + q1 + q2 + 5 + 2 * m ≤ 58 → dpD (u8 k q1 q2 m) F W 0 hv fn s2 r0 r1 r2 r3 s.2.1 s.2.2 wB (zow true k q1 q2) (k - 5) s.1 (58 - 2 * m - (9 + k + q1 + q2)) m ≤ Bd) ∧ (9 + k + q1 + q2 + 2 * m ≤ 58 → dpD true F W 5 hv fn s2 r0 r1 r2 r3 s.2.1 s.2.2 wB (zow true k q1 q2) (k - 5) s.1 0 m ≤ Bd) := by
  have q := rng_all h (i := m) m14
  rw [Bool.or_eq_true, Bool.and_eq_true, Bool.or_eq_true, Bool.or_eq_true] at q
  rcases q with q | ⟨q1', q2'⟩
  · exact (blt_no m3 q).elim
  · refine ⟨fun hb => ?_, fun hb => ?_⟩
    · rcases q1' with q | q
      · exact (blt_no hb q).elim
      · exact Nat.le_of_ble_eq_true q
    · rcases q2' with q | q
      · exact (blt_no hb q).elim
      · exact Nat.le_of_ble_eq_true q
theorem t27_min : ∀ t ∈ t27, 12 ≤ t.1 ∧ t.1 ≤ 38 ∧ t.2.1 ≤ 7 ∧ t.2.2 ≤ 26 ∧ 31 ≤ 9 + t.1 + t.2.1 + t.2.2 := by decide
section PmZr
variable {f : Nat} {t D : Ty} {Γ0 Δ1 : List Ty} {Δ : List (Nat × Ty × Nat)}
theorem nat_8 (w : TWf f (cxs Δ1 Γ0 (tAll tTop (tAll tTop D))).length (Δ.map (fun a => a.1)) t) (he : TE (cxs Δ1 Γ0 (tAll tTop (tAll tTop D))) Δ) (tn : TNo f t) (ch : CHo f t []) (hp : phf (fun _ => true) D = true) (ho : (∀ b ∈ Γ0, nsch b = true ∨ (true = true ∧ tch b ≤ tch (tAll tTop D) + 5)) ∧ ∀ b ∈ Δ1, nsch b = true ∨ (true = true ∧ tch b ≤ tch (tAll tTop D) + 5)) (h27 : memt t27 (tch (tAll tTop D)) (cch Γ0) (cch Δ1) = true) (m3 : 3 ≤ mch t) (hb : cch (cxs Δ1 Γ0 (tAll tTop (tAll tTop D))) + dch Δ + 2 * mch t ≤ 58) (h49 : cch (cxs Δ1 Γ0 (tAll tTop (tAll tTop D))) ≤ 47) : NtV (cxs Δ1 Γ0 (tAll tTop (tAll tTop D))) Δ f t 887 597 := by
  have hm := memt_mem h27
  have ec := ec_top (tAll tTop D) Γ0 Δ1
  have kk : 12 ≤ tch (tAll tTop D) ∧ tch (tAll tTop D) ≤ 38 ∧ cch Γ0 ≤ 7 ∧ cch Δ1 ≤ 26 ∧ 31 ≤ 9 + tch (tAll tTop D) + cch Γ0 + cch Δ1 := t27_min _ hm
  obtain ⟨hb0, hb1⟩ := zow_ob he.1 ho h49
  obtain ⟨c, hc, e⟩ := List.any_eq_true.mp (List.all_eq_true.mp c27_t _ hm)
  rw [Bool.and_eq_true, Bool.and_eq_true] at e
  have e1 : c.1.1 = tch (tAll tTop D) := Nat.eq_of_beq_eq_true e.1
  have e2 : c.1.2.1 = cch Γ0 := Nat.eq_of_beq_eq_true e.2.1
  have e3 : c.1.2.2 = cch Δ1 := Nat.eq_of_beq_eq_true e.2.2
  have dR := List.all_eq_true.mp d8R_ok c hc
  have dG := List.all_eq_true.mp d8G_ok c hc
  have cR := c8R_ok c hc
  have cG := c8G_ok c hc
  rw [e1, e2, e3] at dR dG cR cG
  have et : tch (tAll tTop D) = tch D + 5 := by rw [tch_all, tch_top]; omega
  have eD : tch (tAll tTop D) - 5 = tch D := by omega
  rw [ec] at hb h49
  obtain ⟨-, oA⟩ := okc_low Δ1 he.1
  have oC := (ok_all.mp oA).2
  have oD := (ok_all.mp oC).2
  have l12 : (flat D).length ≤ 12 := by
    have q := he.2.1 Γ0.length (by rw [cxs_len]; omega)
    rw [cxs_bnd, flat_all, List.length_cons, List.length_append, flat_all, List.length_cons, List.length_append] at q
    have : (flat tTop).length = 1 := rfl
    omega
  have lift : ∀ {t0 s2 hv : Nat} {n1 : Nat → Nat} {B : FrT} {L : List (Nat × Nat)}, (List.range 13).all (fun n => nsu (frg B n) L 0) = true → (∃ p ∈ frg B (flat D).length, XFm t0 n1 s2 hv (Γ0.length + 1 + 1) D p.1 p.2) → ∃ v ∈ L, xt (Γ0.length + 1 + 1) D ≤ v.1 ∧ xa t0 n1 s2 hv (Γ0.length + 1 + 1) D ≤ v.2 := by
    intro t0 s2 hv n1 B L h g
    obtain ⟨p, hp', g⟩ := g
    obtain ⟨v, hv', h1, h2⟩ := dom_ex (nsu_get (rng_all h (i := (flat D).length) (by omega)) hp')
    exact ⟨v, hv', Nat.le_trans g.1 h1, by have := g.2; omega⟩
  have fR := hdl_ex (w := 1 + 1) (mnl_ex (yv_R oD (by omega) hp) (lift n121_ok ((nf_form (t0 := 0) (n1 := fun _ => 1 + 1) (s2 := 3) (hv := 1) nf1_ok (by decide) (tbs1 true).2.2.2.1 (tbs1 true).2.2.2.2.1 _ D _ (Nat.le_refl _) oD (by omega)).2 hp))) (by decide)
  have fG := hdl_ex (w := 0 + 1) (mnl_ex (yv_G oD (by omega) hp) (lift n12q_ok ((nf_form (t0 := 1) (n1 := ngc) (s2 := 1) (hv := 0) nfq_ok (by decide) tbsq.2.2.2.1 tbsq.2.2.2.2.1 _ D _ (Nat.le_refl _) oD (by omega)).2 hp))) (by decide)
  rw [← eD] at fR fG
  have fin : ∀ (un ee : Bool) (cd : Nat), ((ee = true ∧ Δ = []) ∨ (ee = false ∧ Δ ≠ [])) → (un = true ∨ COk f t 0) → dch Δ ≤ cd → cd ≤ 56 → (∀ s : T6, s = (c.2.1.1, 0, c.2.1.2.1, c.2.1.2.2, zow true (tch (tAll tTop D)) (cch Γ0) (cch Δ1), tch D) → TpR un ee 2 cd (mch t) s) → (∀ s : T6, s = (c.2.2.1, 0, c.2.2.2.1, c.2.2.2.2, zow true (tch (tAll tTop D)) (cch Γ0) (cch Δ1), tch D) → TpG un ee 1 cd (mch t) s) → NtV (cxs Δ1 Γ0 (tAll tTop (tAll tTop D))) Δ f t 887 597 := by
    intro un ee cd hΔ cu hcd1 hcd2 hR hG
    refine zone_g8 (un := un) (e := ee) (cd := cd) (ob := zow true (tch (tAll tTop D)) (cch Γ0) (cch Δ1)) (wR := 2) (wG := 1) (yR := max 1 (fx1.getD (cch Γ0) 0)) (yG := max 1 (fxq.getD (cch Γ0) 0)) (VR := hdl 3 (1 + 1) (mnl (frg xfa1 (tch (tAll tTop D) - 5)) n121)) (VG := hdl 1 (0 + 1) (mnl (frg xfaq (tch (tAll tTop D) - 5)) n12q)) (WR := frg fg1 (cch Δ1)) (WG := frg fgq (cch Δ1)) w he hΔ cu ch (by omega) hcd1 hcd2 hb0 hb1 (fun b => by rw [nz_top]; exact vlr_one b 0) (by rw [nz_top]; exact Nat.le_refl _) fR fG (fun b v x1 x2 => nat_ctxg (wB := 2) (v := v) (tbs1 b) (vlr_one b) (by decide) he.1 x1 x2 (by rw [nz_top]; exact vlr_one b 0) (Nat.le_refl _) (by omega) (gr_R he.1 (by omega) b)) (fun v x1 x2 => nat_ctxg (wB := 1) (v := v) tbsq (fun y => by show y ≤ 0 + max 1 y; omega) (by decide) he.1 x1 x2 (by rw [nz_top]; exact Nat.le_refl _) (Nat.le_refl _) (by omega) (gr_G he.1 (by omega))) (Nat.le_refl _) (Nat.le_refl _) ?_ ?_
    · intro v hv p hp' e he'
      have q := d8_get dR hv hp' he'
      exact ⟨_, ⟨q.1.1, q.1.2.1, q.1.2.2, Nat.le_refl _, Nat.le_refl _⟩, hR _ rfl⟩
    · intro v hv p hp' e he'
      have q := d8_get dG hv hp' he'
      exact ⟨_, ⟨q.1.1, q.1.2.1, q.1.2.2, Nat.le_refl _, Nat.le_refl _⟩, hG _ rfl⟩
  have w2 : 2 ≤ c.2.1.1 := by
    obtain ⟨v, hv, -, -⟩ := fR
    have q0 : (frg fg1 (cch Δ1)).length ≠ 0 := by
      have := kk.2.2.2.1
      have hq : ∀ i, i < 27 → (frg fg1 i).length ≠ 0 := by decide
      exact hq _ (show cch Δ1 < 27 by omega)
    match h : frg fg1 (cch Δ1), q0 with
    | [], q0 => exact absurd rfl q0
    | a :: l, _ => exact (d8_get dR (p := 0) hv (Nat.zero_le _) (by rw [h]; exact List.mem_cons_self ..)).2
  have w1 : 1 ≤ c.2.2.1 := by
    obtain ⟨v, hv, -, -⟩ := fG
    have q0 : (frg fgq (cch Δ1)).length ≠ 0 := by
      have := kk.2.2.2.1
      have hq : ∀ i, i < 27 → (frg fgq i).length ≠ 0 := by decide
      exact hq _ (show cch Δ1 < 27 by omega)
    match h : frg fgq (cch Δ1), q0 with
    | [], q0 => exact absurd rfl q0
    | a :: l, _ => exact (d8_get dG (p := 0) hv (Nat.zero_le _) (by rw [h]; exact List.mem_cons_self ..)).2
  have m14 : mch t < 14 := by omega
  by_cases nΔ : Δ = []
  · refine fin true true 56 (Or.inl ⟨rfl, nΔ⟩) (Or.inl rfl) (by rw [nΔ]; exact Nat.zero_le _) (Nat.le_refl _) (fun s es => ?_) (fun s es => ?_)
    · subst es
      refine ⟨⟨by show tch D ≤ 50; omega, w2⟩, (fun h => by cases h), fun _ => ?_⟩
      have q := (c8_get cR m3 m14).2 (by omega)
      rw [eD] at q
      exact q
    · subst es
      refine ⟨⟨by show tch D ≤ 50; omega, w1⟩, (fun h => by cases h), fun _ => ?_⟩
      have q := (c8_get cG m3 m14).2 (by omega)
      rw [eD] at q
      exact q
  · have d5 := dch_five he nΔ
    have cu : u8 (tch (tAll tTop D)) (cch Γ0) (cch Δ1) (mch t) = true ∨ COk f t 0 := by
      by_cases c : u8 (tch (tAll tTop D)) (cch Γ0) (cch Δ1) (mch t) = true
      · exact Or.inl c
      · right
        rcases co_six w with q | q
        · exact q
        · have c2 : tch (tAll tTop D) = 32 ∧ cch Γ0 = 0 ∧ cch Δ1 = 0 ∧ mch t = 6 := Classical.byContradiction (fun h => c (by
            unfold u8
            rw [Bool.and_eq_true, Bool.not_eq_true']
            refine ⟨Nat.ble_eq_true_of_le q, ?_⟩
            rw [Bool.eq_false_iff]
            intro e
            rw [Bool.and_eq_true, Bool.and_eq_true, Bool.and_eq_true] at e
            exact h ⟨Nat.eq_of_beq_eq_true e.1, Nat.eq_of_beq_eq_true e.2.1, Nat.eq_of_beq_eq_true e.2.2.1, Nat.eq_of_beq_eq_true e.2.2.2⟩))
          obtain ⟨a, ea⟩ := dch_one he nΔ (by omega)
          rw [ea] at w
          rcases (chr_one f _ _ t w tn).2 with h | h
          · exact h
          · omega
    refine fin _ false (58 - 2 * mch t - (9 + tch (tAll tTop D) + cch Γ0 + cch Δ1)) (Or.inr ⟨rfl, nΔ⟩) cu (by omega) (by omega) (fun s es => ?_) (fun s es => ?_)
    · subst es
      refine ⟨⟨by show tch D ≤ 50; omega, w2⟩, fun _ _ => ?_, (fun h => by cases h)⟩
      have q := (c8_get cR m3 m14).1 (by omega)
      rw [eD] at q
      exact q
    · subst es
      refine ⟨⟨by show tch D ≤ 50; omega, w1⟩, fun _ _ => ?_, (fun h => by cases h)⟩
      have q := (c8_get cG m3 m14).1 (by omega)
      rw [eD] at q
      exact q
end PmZr
