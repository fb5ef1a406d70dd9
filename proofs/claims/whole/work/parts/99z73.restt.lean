/-! PAIRS WITH A SMALL BODY, any bound of two characters and more; choices where no other scheme has a bound with that head. -/
def SMg (B C : Ty) (Γ0 Δ1 : List Ty) (Δ : List (Nat × Ty × Nat)) (f : Nat) (t : Ty) : Prop := CFt f t ∨ (COk f t 0 ∧ noh (hd B) C = true ∧ NHt (hd B) f t ∧ SGc (hd B) B C tTop Γ0 Δ1 ∧ ∀ a ∈ Δ, noh (hd B) a.2.1 = true)
theorem SMg.co {B C : Ty} {Γ0 Δ1 : List Ty} {Δ : List (Nat × Ty × Nat)} {f : Nat} {t : Ty} (z : SMg B C Γ0 Δ1 Δ f t) : COk f t 0 := by
  rcases z with cf | ⟨co, -⟩
  · exact CF_CO f t 0 cf
  · exact co
section PmHj9
variable {f : Nat} {t x y B C : Ty} {Γ0 Δ1 : List Ty} {Δ : List (Nat × Ty × Nat)}
theorem smg_v (w : TWf f (cxs Δ1 Γ0 (tAll B C)).length (Δ.map (fun a => a.1)) t) (he : TE (cxs Δ1 Γ0 (tAll B C)) Δ) (z : SMg B C Γ0 Δ1 Δ f t) (na : NAt f t) (hc : noac (cxs Δ1 Γ0 (tAll B C))) (hd' : ∀ a ∈ Δ, noal a.2.1 = true) (oD : ok (Γ0.length + 1) Dsm = true) (b2 : 2 ≤ tch B) (k40 : tch C ≤ 40) (q38 : cch Δ1 ≤ 38) (hz : B7z (tch B) (tch C) (cch Γ0) (cch Δ1) = true) (m3 : 3 ≤ mch t) (m16 : mch t < 16) (hb : cch (cxs Δ1 Γ0 (tAll B C)) + dch Δ + mch t ≤ 55) (h47 : cch (cxs Δ1 Γ0 (tAll B C)) ≤ 47) (hΔ : Δ = [] → 41 ≤ cch (cxs Δ1 Γ0 (tAll B C)) ∧ cch (cxs Δ1 Γ0 (tAll B C)) < 43) : SmV Dsm B C Γ0 Δ1 Δ f t (bhg (bxe Δ vt5R vt0R) (cch (cxs Δ1 Γ0 (tAll B C))) (mch t)) (bhg (bxe Δ vt5G vt0G) (cch (cxs Δ1 Γ0 (tAll B C))) (mch t)) := by
  obtain ⟨oc0, oA⟩ := okc_low Δ1 he.1
  have oBB := (ok_all.mp oA).1
  have oC := (ok_all.mp oA).2
  have ec : 8 + tch B + tch C + cch Γ0 + cch Δ1 = cch (cxs Δ1 Γ0 (tAll B C)) := by
    rw [cch_cx, tch_all]
    omega
  unfold B7z at hz
  rw [ec, Bool.and_eq_true, Bool.and_eq_true] at hz
  obtain ⟨h37, zR, zG⟩ := hz
  have h37 := Nat.le_of_ble_eq_true h37
  have b0 : ∀ a ∈ Γ0, nsch a = true ∨ flv a ≤ max (obz (cch Γ0)) (obz (cch Δ1)) := fun a ha => by
    obtain ⟨d, o1, o2⟩ := okc_mch oc0 ha
    exact Or.inr (Nat.le_trans (flv_lmx o1 (show tch a ≤ cch Γ0 - 4 by omega) (by omega)) (Nat.le_max_left _ _))
  have b1 : ∀ a ∈ Δ1, nsch a = true ∨ flv a ≤ max (obz (cch Γ0)) (obz (cch Δ1)) := fun a ha => by
    obtain ⟨d, o1, o2⟩ := okc_top Δ1 he.1 a ha
    exact Or.inr (Nat.le_trans (flv_lmx o1 (show tch a ≤ cch Δ1 - 4 by omega) (by omega)) (Nat.le_max_right _ _))
  have wbR : ∀ d, vlr d 1 (nz 0 (fun _ => 1 + 1) (2 + 1) (vlr d 1) (onz 0 (fun _ => 1 + 1) (2 + 1) (vlr d 1) Γ0) B) ≤ wbz fr1 1 (max 1 (fx1.getD (cch Γ0) 0)) (tch B) := by
    intro d
    have T := tbs1 d
    have l0 := onz_len 0 (fun _ => 1 + 1) (2 + 1) (vlr d 1) Γ0
    have hω : ∀ j, j < (onz 0 (fun _ => 1 + 1) (2 + 1) (vlr d 1) Γ0).length → vw (onz 0 (fun _ => 1 + 1) (2 + 1) (vlr d 1) Γ0) j ≤ max 1 (fx1.getD (cch Γ0) 0) := fun j hj => Nat.le_trans (onz_chars (n1 := fun _ => 1 + 1) T.1 T.2.1 T.2.2.1 T.2.2.2.1 T.2.2.2.2.1 Γ0 oc0 (by omega) j (by rw [l0] at hj; exact hj)) (Nat.le_max_right _ _)
    have q2 := vlr_one d (nz 0 (fun _ => 1 + 1) (2 + 1) (vlr d 1) (onz 0 (fun _ => 1 + 1) (2 + 1) (vlr d 1) Γ0) B)
    unfold wbz
    rw [if_neg (by intro q'; have := Nat.eq_of_beq_eq_true q'; omega)]
    have q3 : nz 0 (fun _ => 1 + 1) (2 + 1) (vlr d 1) (onz 0 (fun _ => 1 + 1) (2 + 1) (vlr d 1) Γ0) B ≤ Zx fr1 (max 1 (fx1.getD (cch Γ0) 0)) (tch B + 2) := Zx_le T (by rw [l0]; exact oBB) (by omega) (Nat.le_max_left _ _) hω
    generalize nz 0 (fun _ => 1 + 1) (2 + 1) (vlr d 1) (onz 0 (fun _ => 1 + 1) (2 + 1) (vlr d 1) Γ0) B = n9 at *
    generalize Zx fr1 (max 1 (fx1.getD (cch Γ0) 0)) (tch B + 2) = z9 at *
    omega
  have wbG : nz 1 ngc 1 (fun x => x) (onz 1 ngc 1 (fun x => x) Γ0) B ≤ wbz frq 0 (max 1 (fxq.getD (cch Γ0) 0)) (tch B) := by
    have T := tbsq
    have l0 := onz_len 1 ngc 1 (fun x => x) Γ0
    have hω : ∀ j, j < (onz 1 ngc 1 (fun x => x) Γ0).length → vw (onz 1 ngc 1 (fun x => x) Γ0) j ≤ max 1 (fxq.getD (cch Γ0) 0) := fun j hj => Nat.le_trans (onz_chars (n1 := ngc) T.1 T.2.1 T.2.2.1 T.2.2.2.1 T.2.2.2.2.1 Γ0 oc0 (by omega) j (by rw [l0] at hj; exact hj)) (Nat.le_max_right _ _)
    unfold wbz
    rw [if_neg (by intro q'; have := Nat.eq_of_beq_eq_true q'; omega)]
    have q3 : nz 1 ngc 1 (fun x => x) (onz 1 ngc 1 (fun x => x) Γ0) B ≤ Zx frq (max 1 (fxq.getD (cch Γ0) 0)) (tch B + 2) := Zx_le T (by rw [l0]; exact oBB) (by omega) (Nat.le_max_left _ _) hω
    generalize nz 1 ngc 1 (fun x => x) (onz 1 ngc 1 (fun x => x) Γ0) B = n9 at *
    generalize Zx frq (max 1 (fxq.getD (cch Γ0) 0)) (tch B + 2) = z9 at *
    omega
  have gR : ∀ (b : Bool) (E : Stk → Nat) (Z : Nat → Nat), AQh 0 (fun _ => 1 + 1) (2 + 1) (vlr b 1) E Z f t [] (onz 0 (fun _ => 1 + 1) (2 + 1) (vlr b 1) (cxs Δ1 Γ0 (tAll B Dsm))) → GOk 0 (fun _ => 1 + 1) (2 + 1) (vlr b 1) E f t [] (onz 0 (fun _ => 1 + 1) (2 + 1) (vlr b 1) (cxs Δ1 Γ0 (tAll B Dsm))) (cxs Δ1 Γ0 (tAll B C)) Δ := by
    intro b E Z aq
    rcases z with cf | ⟨co, nC, nh, sg, nd⟩
    · exact GH_free (t0 := 0) (n1 := fun _ => 1 + 1) (s2 := 2 + 1) (h := vlr b 1) (E := E) (Z := Z) f t [] _ _ Δ w he cf aq (by rw [onz_len, cxs_ll (tAll B Dsm) (tAll B C)])
    · have s' : SGc (hd B) B C Dsm Γ0 Δ1 := ⟨sg.1, sg.2.1, sg.o1, cxd_okc oD Δ1 he.1, sg.nc⟩
      exact GH_gone2 (E := E) (Z := Z) (NC_rows b 1) nC f t [] _ Δ1 Δ w he co aq (onz_cv (NC_rows b 1) s'.o2) nh na hc sg s' (fun a ha => ⟨nd a ha, hd' a ha⟩)
  have gG : ∀ (E : Stk → Nat) (Z : Nat → Nat), AQh 1 ngc 1 (fun x => x) E Z f t [] (onz 1 ngc 1 (fun x => x) (cxs Δ1 Γ0 (tAll B Dsm))) → GOk 1 ngc 1 (fun x => x) E f t [] (onz 1 ngc 1 (fun x => x) (cxs Δ1 Γ0 (tAll B Dsm))) (cxs Δ1 Γ0 (tAll B C)) Δ := by
    intro E Z aq
    rcases z with cf | ⟨co, nC, nh, sg, nd⟩
    · exact GH_free (t0 := 1) (n1 := ngc) (s2 := 1) (h := fun x => x) (E := E) (Z := Z) f t [] _ _ Δ w he cf aq (by rw [onz_len, cxs_ll (tAll B Dsm) (tAll B C)])
    · have s' : SGc (hd B) B C Dsm Γ0 Δ1 := ⟨sg.1, sg.2.1, sg.o1, cxd_okc oD Δ1 he.1, sg.nc⟩
      exact GH_gone2 (E := E) (Z := Z) NC_goals nC f t [] _ Δ1 Δ w he co aq (onz_cv NC_goals s'.o2) nh na hc sg s' (fun a ha => ⟨nd a ha, hd' a ha⟩)
  by_cases cΔ : Δ = []
  · obtain ⟨h41, h43⟩ := hΔ cΔ
    have e1 : bxe Δ vt5R vt0R = vt5R := by rw [cΔ]; rfl
    have e2 : bxe Δ vt5G vt0G = vt5G := by rw [cΔ]; rfl
    rw [e1, e2]
    refine zone_sw (un := false) (e := true) (cd := 0) (va := 7) (vg := 3) w he (Or.inl ⟨rfl, cΔ⟩) (Or.inr z.co) (by omega) (by rw [cΔ]; exact Nat.le_refl _) (Nat.zero_le _) b0 b1 (by omega) q38 wbR wbG (form_R oC k40) (form_G oC k40) oD (fun b => Dsm_va b) Dsm_vg gR gG (fun v hv p hp u hu => ?_) (fun v hv p hp u hu => ?_)
    · obtain ⟨s, hs, q1, q2, q3⟩ := lyz_get zR v hv p hp u hu
      exact ⟨s, q1, ⟨q2, q3⟩, (fun e => by cases e), fun _ => jyb_get vbR_5 h41 h43 m3 m16 (by omega) hs⟩
    · obtain ⟨s, hs, q1, q2, q3⟩ := lyz_get zG v hv p hp u hu
      exact ⟨s, q1, ⟨q2, q3⟩, (fun e => by cases e), fun _ => jyb_get vbG_5 h41 h43 m3 m16 (by omega) hs⟩
  · have d5 := dch_five he cΔ
    have e1 : bxe Δ vt5R vt0R = vt0R := by
      unfold bxe
      rw [if_neg (by intro c; exact cΔ (List.isEmpty_iff.mp c))]
    have e2 : bxe Δ vt5G vt0G = vt0G := by
      unfold bxe
      rw [if_neg (by intro c; exact cΔ (List.isEmpty_iff.mp c))]
    rw [e1, e2]
    refine zone_sw (un := false) (e := false) (cd := 55 - cch (cxs Δ1 Γ0 (tAll B C)) - mch t) (va := 7) (vg := 3) w he (Or.inr ⟨rfl, cΔ⟩) (Or.inr z.co) (by omega) (by omega) (by omega) b0 b1 (by omega) q38 wbR wbG (form_R oC k40) (form_G oC k40) oD (fun b => Dsm_va b) Dsm_vg gR gG (fun v hv p hp u hu => ?_) (fun v hv p hp u hu => ?_)
    · obtain ⟨s, hs, q1, q2, q3⟩ := lyz_get zR v hv p hp u hu
      exact ⟨s, q1, ⟨q2, q3⟩, fun _ _ => jya_get vbR_0 h37 (by omega) m3 m16 (by omega) hs, (fun e => by cases e)⟩
    · obtain ⟨s, hs, q1, q2, q3⟩ := lyz_get zG v hv p hp u hu
      exact ⟨s, q1, ⟨q2, q3⟩, fun _ _ => jya_get vbG_0 h37 (by omega) m3 m16 (by omega) hs, (fun e => by cases e)⟩
theorem pair_smg (ov : OVq 1 B C Dsm Γ0) (x1 : TWf f (cxs Δ1 Γ0 (tAll B C)).length (Δ.map (fun a => a.1)) x) (x2 : TWf f (cxs Δ1 Γ0 (tAll B C)).length (Δ.map (fun a => a.1)) y) (he : TE (cxs Δ1 Γ0 (tAll B C)) Δ) (y1 : NAt f x) (y2 : NAt f y) (hv : noac (cxs Δ1 Γ0 (tAll B C))) (hd' : ∀ a ∈ Δ, noal a.2.1 = true) (c1 : SMg B C Γ0 Δ1 Δ f x) (c2 : SMg B C Γ0 Δ1 Δ f y) (b2 : 2 ≤ tch B) (k40 : tch C ≤ 40) (q38 : cch Δ1 ≤ 38) (hz : B7z (tch B) (tch C) (cch Γ0) (cch Δ1) = true) (m1 : 3 ≤ mch x) (m2 : 3 ≤ mch y) (n1 : mch x < 16) (n2 : mch y < 16) (hb : cch (cxs Δ1 Γ0 (tAll B C)) + dch Δ + (2 + (mch x + mch y)) ≤ 60) (h47 : cch (cxs Δ1 Γ0 (tAll B C)) ≤ 47) (hΔ : Δ = [] → 41 ≤ cch (cxs Δ1 Γ0 (tAll B C)) ∧ cch (cxs Δ1 Γ0 (tAll B C)) < 43) : PRn f x y (cxs Δ1 Γ0 (tAll B C)) Δ := by
  have z1 := smg_v x1 he c1 y1 hv hd' ov.1.1 b2 k40 q38 hz m1 n1 (by omega) h47 hΔ
  have z2 := smg_v x2 he c2 y2 hv hd' ov.1.1 b2 k40 q38 hz m2 n2 (by omega) h47 hΔ
  have a1 := jxs_get vtR_s (c := cch (cxs Δ1 Γ0 (tAll B C))) (m := mch x) (n := mch y) (by omega) n1 n2
  have a2 := jxs_get vtG_s (c := cch (cxs Δ1 Γ0 (tAll B C))) (m := mch x) (n := mch y) (by omega) n1 n2
  by_cases cΔ : Δ = []
  · have e1 : bxe Δ vt5R vt0R = vt5R := by rw [cΔ]; rfl
    have e2 : bxe Δ vt5G vt0G = vt5G := by rw [cΔ]; rfl
    rw [e1, e2] at z1 z2
    exact pair_sumv ov x1 x2 he y1 y2 hv hd' (by omega) z1 z2 (a1.2 (by omega)) (a2.2 (by omega))
  · have d5 := dch_five he cΔ
    have e1 : bxe Δ vt5R vt0R = vt0R := by
      unfold bxe
      rw [if_neg (by intro c; exact cΔ (List.isEmpty_iff.mp c))]
    have e2 : bxe Δ vt5G vt0G = vt0G := by
      unfold bxe
      rw [if_neg (by intro c; exact cΔ (List.isEmpty_iff.mp c))]
    rw [e1, e2] at z1 z2
    exact pair_sumv ov x1 x2 he y1 y2 hv hd' (by omega) z1 z2 (a1.1 (by omega)) (a2.1 (by omega))
end PmHj9
def PrG (f : Nat) (x y : Ty) (Γ : List Ty) (Δ : List (Nat × Ty × Nat)) : Prop := ∃ (Δ1 Γ0 : List Ty) (B C : Ty), Γ = cxs Δ1 Γ0 (tAll B C) ∧ OVq 1 B C Dsm Γ0 ∧ SMg B C Γ0 Δ1 Δ f x ∧ SMg B C Γ0 Δ1 Δ f y ∧ 2 ≤ tch B ∧ tch C ≤ 40 ∧ cch Δ1 ≤ 38 ∧ B7z (tch B) (tch C) (cch Γ0) (cch Δ1) = true ∧ mch x < 16 ∧ mch y < 16 ∧ (Δ = [] → 41 ≤ cch Γ ∧ cch Γ < 43)
def RESTt9 : Prop := ∀ (f : Nat) (x y : Ty) (Γ : List Ty) (Δ : List (Nat × Ty × Nat)), TWf f Γ.length (Δ.map (fun a => a.1)) x → TWf f Γ.length (Δ.map (fun a => a.1)) y → TE Γ Δ → NAt f x → NAt f y → noac Γ → (∀ a ∈ Δ, noal a.2.1 = true) → TNo f x → TNo f y → 3 ≤ mch x → 3 ≤ mch y → (mch x ≤ mch y → ¬ NOp f x) → (¬ mch x ≤ mch y → ¬ NOp f y) → 20 ≤ cch Γ → cch Γ ≤ 47 → cch Γ + dch Δ + (2 + (mch x + mch y)) ≤ 60 → NoO f x y Γ Δ → ¬ AzT f x Γ Δ → ¬ AzT f y Γ Δ → ¬ AzB f x Γ Δ → ¬ AzB f y Γ Δ → ¬ AzC f x Γ Δ → ¬ AzC f y Γ Δ → ¬ AzI f x Γ Δ → ¬ AzI f y Γ Δ → ¬ AzF f x Γ Δ → ¬ AzF f y Γ Δ → ¬ AzG f x Γ Δ → ¬ AzG f y Γ Δ → ¬ AzH f x Γ Δ → ¬ AzH f y Γ Δ → ¬ PrS f x y Γ Δ → ¬ AzK f x Γ Δ → ¬ AzK f y Γ Δ → ¬ AzL f x Γ Δ → ¬ AzL f y Γ Δ → ¬ AzM f x Γ Δ → ¬ AzM f y Γ Δ → ¬ PrG f x y Γ Δ → (¬ ((mch x ≤ mch y → CHo f x []) ∧ (¬ mch x ≤ mch y → CHo f y [])) ∨ LeftJ f x y Γ Δ) → PRn f x y Γ Δ
theorem rests9_of (R : RESTt9) : RESTs9 := by
  intro f x y Γ Δ x1 x2 he y1 y2 hv hd' tx ty m3 n3 no1 no2 h20 h47 hb ng ax ay bx bz cx cy dx dy ex ey gx gy ix iy jx kx ky lx ly mx my hL
  by_cases a : PrG f x y Γ Δ
  · obtain ⟨Δ1, Γ0, B, C, e, ov, c1, c2, b2, k40, q38, hz, n1, n2, hΔ⟩ := a
    subst e
    exact pair_smg ov x1 x2 he y1 y2 hv hd' c1 c2 b2 k40 q38 hz m3 n3 n1 n2 hb h47 hΔ
  exact R f x y Γ Δ x1 x2 he y1 y2 hv hd' tx ty m3 n3 no1 no2 h20 h47 hb ng ax ay bx bz cx cy dx dy ex ey gx gy ix iy jx kx ky lx ly mx my a hL
theorem pairn_ot (R : RESTt9) : PAIRn := pairn_os (rests9_of R)
