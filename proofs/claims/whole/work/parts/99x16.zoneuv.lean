/-! THE ZONE, by nature: any term whose choices stand under nothing, or under one instance at most, contexts of 30 characters and more. -/
theorem lnu_get {L : LnT} {XR W : FrT} {X : List Nat} {hv s2 wB k q1 q2 a b : Nat} {o : Bool} (h : lnu L XR W X hv s2 wB o a b = true) (ka : a ≤ k) (kb : k < b) (hz : znu o k q1 q2 = true) (k1 : 1 ≤ k) (z1 : q5 q1 = true) (z2 : q5 q2 = true) (hc : 9 + k + q1 + q2 ≤ 47) (h20 : 20 ≤ 9 + k + q1 + q2) : lnz L XR W X hv s2 wB k q1 q2 (zow o k q1 q2) = true := by
  have hz' := hz
  unfold znu at hz'
  rw [Bool.and_eq_true] at hz'
  unfold lnu at h
  have qk := rng_all h (i := k) kb
  rw [Bool.or_eq_true] at qk
  rcases qk with qk | qk
  · exact (blt_no ka qk).elim
  have q0 := rng_all qk (i := q1) (by omega)
  rw [z1, Bool.not_true, Bool.false_or] at q0
  have q := rng_all q0 (i := q2) (by omega)
  rw [z2, Bool.not_true, Bool.false_or, Bool.or_eq_true, Bool.or_eq_true, Bool.or_eq_true, Bool.or_eq_true] at q
  rcases q with q | q | q | q | q
  · exact (blt_no hc q).elim
  · exact (blt_no h20 q).elim
  · rw [hz] at q; cases q
  · have := Nat.eq_of_beq_eq_true q
    omega
  · exact q
theorem lu1_all {c m : Nat} (h30 : 30 ≤ c) (h47 : c ≤ 47) (h6 : 6 ≤ m) (hc : c + 2 * m ≤ 58) {s : Nat × Nat × Nat × Nat × Nat × Nat} (hs : s ∈ lng lu1 c) : (5 ≤ 58 - 2 * m - c → dpD true fr1 fg1 0 1 2 3 2 2 2 2 s.2.2.1 s.2.2.2.1 2 s.2.2.2.2.1 s.2.2.2.2.2 s.1 (58 - 2 * m - c) m ≤ 830) ∧ dpD true fr1 fg1 5 1 2 3 2 2 2 2 s.2.2.1 s.2.2.2.1 2 s.2.2.2.2.1 s.2.2.2.2.2 s.1 0 m ≤ 830 := by
  by_cases c36 : c < 36
  · exact lnd_get lu1_d30 h30 c36 h6 (by omega) hc hs
  · exact lnd_get lu1_d36 (by omega) (by omega) h6 (by omega) hc hs
theorem luq_all {c m : Nat} (h30 : 30 ≤ c) (h47 : c ≤ 47) (h6 : 6 ≤ m) (hc : c + 2 * m ≤ 58) {s : Nat × Nat × Nat × Nat × Nat × Nat} (hs : s ∈ lng luq c) : (5 ≤ 58 - 2 * m - c → dpD true frq fgq 0 0 1 1 1 3 2 1 s.2.2.1 s.2.2.2.1 1 s.2.2.2.2.1 s.2.2.2.2.2 s.1 (58 - 2 * m - c) m ≤ 597) ∧ dpD true frq fgq 5 0 1 1 1 3 2 1 s.2.2.1 s.2.2.2.1 1 s.2.2.2.2.1 s.2.2.2.2.2 s.1 0 m ≤ 597 := by
  by_cases c36 : c < 36
  · exact lnd_get luq_d30 h30 c36 h6 (by omega) hc hs
  · exact lnd_get luq_d36 (by omega) (by omega) h6 (by omega) hc hs
theorem lu1_k : lnkb lu1 = true := by decide +kernel
theorem luq_k : lnkb luq = true := by decide +kernel
section PmX8
variable {f : Nat} {t C : Ty} {Γ0 Δ1 : List Ty} {Δ : List (Nat × Ty × Nat)} {o : Bool}
theorem zone_u (w : TWf f (cxs Δ1 Γ0 (tAll tTop C)).length (Δ.map (fun a => a.1)) t) (he : TE (cxs Δ1 Γ0 (tAll tTop C)) Δ) (ch : CHo f t []) (h6 : 6 ≤ mch t) (hz : znu o (tch C) (cch Γ0) (cch Δ1) = true) (ho : (∀ b ∈ Γ0, nsch b = true ∨ (o = true ∧ tch b ≤ tch C + 5)) ∧ ∀ b ∈ Δ1, nsch b = true ∨ (o = true ∧ tch b ≤ tch C + 5)) (hb : cch (cxs Δ1 Γ0 (tAll tTop C)) + dch Δ + 2 * mch t ≤ 58) (h20 : 30 ≤ cch (cxs Δ1 Γ0 (tAll tTop C))) (h49 : cch (cxs Δ1 Γ0 (tAll tTop C)) ≤ 47) : NtV (cxs Δ1 Γ0 (tAll tTop C)) Δ f t 830 597 := by
  obtain ⟨oc0, oA⟩ := okc_low Δ1 he.1
  have oC := (ok_all.mp oA).2
  have kp := tch_pos oC
  have z5 := cch_q5 oc0
  have z6 := cxs_q5 he.1
  have ec : cch (cxs Δ1 Γ0 (tAll tTop C)) = 9 + tch C + cch Γ0 + cch Δ1 := by
    rw [cch_cx, tch_all, tch_top]
    omega
  rw [ec] at hb h49 h20
  have hz' := hz
  unfold znu at hz'
  rw [Bool.and_eq_true] at hz'
  have k21 := Nat.le_of_ble_eq_true hz'.1
  have hob : ∀ s : Nat, zow o (tch C) (cch Γ0) (cch Δ1) ≤ s → (∀ b ∈ Γ0, nsch b = true ∨ flv b ≤ s) ∧ ∀ b ∈ Δ1, nsch b = true ∨ flv b ≤ s := by
    intro s hs
    cases o with
    | false =>
      refine ⟨fun b hb => Or.inl ?_, fun b hb => Or.inl ?_⟩
      · rcases ho.1 b hb with e | ⟨e, -⟩
        · exact e
        · cases e
      · rcases ho.2 b hb with e | ⟨e, -⟩
        · exact e
        · cases e
    | true =>
      have hs : max (lmx fr1 (min (cch Γ0 - 4) (tch C + 5))) (lmx fr1 (min (cch Δ1 - 4) (tch C + 5))) ≤ s := hs
      refine ⟨fun b hb => ?_, fun b hb => ?_⟩
      · rcases ho.1 b hb with e | ⟨-, e⟩
        · exact Or.inl e
        · obtain ⟨d, h1, h2⟩ := okc_mch oc0 hb
          have := flv_lmx (k := min (cch Γ0 - 4) (tch C + 5)) h1 (by omega) (by omega)
          exact Or.inr (by omega)
      · rcases ho.2 b hb with e | ⟨-, e⟩
        · exact Or.inl e
        · obtain ⟨d, h1, h2⟩ := okc_cxs he.1 hb
          have := flv_lmx (k := min (cch Δ1 - 4) (tch C + 5)) h1 (by omega) (by omega)
          exact Or.inr (by omega)
  have m30 : mch t ≤ 30 := by omega
  have q38 : cch Δ1 ≤ 38 := by omega
  have c2m : 9 + tch C + cch Γ0 + cch Δ1 + 2 * mch t ≤ 58 := by omega
  have hcd : 58 - 2 * mch t - (9 + tch C + cch Γ0 + cch Δ1) ≤ 56 := by omega
  have hdd : dch Δ ≤ 58 - 2 * mch t - (9 + tch C + cch Γ0 + cch Δ1) := by omega
  have d5' : Δ ≠ [] → 5 ≤ 58 - 2 * mch t - (9 + tch C + cch Γ0 + cch Δ1) := fun e => by have := dch_five he e; omega
  refine fun S hS => ⟨fun b => ?_, ?_⟩
  · have wb : vlr b 1 (nz 0 (fun _ => 1 + 1) (2 + 1) (vlr b 1) (onz 0 (fun _ => 1 + 1) (2 + 1) (vlr b 1) Γ0) tTop) ≤ 2 := by rw [nz_top]; exact vlr_one b 0
    have kb : ∀ s ∈ lng lu1 (9 + tch C + cch Γ0 + cch Δ1), s.2.2.2.2.2 ≤ 50 := fun s hs => lnk lu1_k hs
    obtain ⟨v, hv, x1, x2⟩ := xr_form (t0 := 0) (n1 := fun _ => 1 + 1) (s2 := 3) (hv := 1) xr1_ok (tbs1 b).2.2.2.1 (tbs1 b).2.2.2.2.1 _ C (Γ0.length + 1) (Nat.le_refl _) oC (by omega)
    obtain ⟨p, hp, e, he', g1, g2, g3⟩ := nat_ctx (wB := 2) (v := v) (tbs1 b) fg1_ok (by decide) fg1_m (vlr_one b) (by decide) he.1 x1 x2 (by rw [nz_top]; exact vlr_one b 0) (Nat.le_refl _) (by omega) (Nat.le_refl _) (by omega)
    have z1 : lnz lu1 xr1 fg1 fx1 1 3 2 (tch C) (cch Γ0) (cch Δ1) (zow o (tch C) (cch Γ0) (cch Δ1)) = true := by
      cases o with
      | false => 
        by_cases c1 : tch C < 10
        · exact lnu_get lu1_a0 (Nat.zero_le _) c1 hz kp z5 z6 (by omega) (by omega)
        · by_cases c2 : tch C < 16
          · exact lnu_get lu1_a10 (by omega) c2 hz kp z5 z6 (by omega) (by omega)
          · exact lnu_get lu1_a16 (by omega) (by omega) hz kp z5 z6 (by omega) (by omega)
      | true => 
        by_cases c1 : tch C < 10
        · exact lnu_get lu1_b0 (Nat.zero_le _) c1 hz kp z5 z6 (by omega) (by omega)
        · by_cases c2 : tch C < 16
          · exact lnu_get lu1_b10 (by omega) c2 hz kp z5 z6 (by omega) (by omega)
          · exact lnu_get lu1_b16 (by omega) (by omega) hz kp z5 z6 (by omega) (by omega)
    obtain ⟨s, hs, k1, k2, k3, k4, k5⟩ := lnz_get z1 hv hp he'
    have wy : 2 ≤ s.1 := by
      refine Nat.le_trans ?_ k1
      have e1 : 1 ≤ e.1 := lnz_e1 fg1s_1 q38 he'
      have := Nat.mul_le_mul_right (max (max 1 (fx1.getD (cch Γ0) 0)) (1 + (3 + (v.2 + (v.1 - p) * max 1 (fx1.getD (cch Γ0) 0) + p * 2)))) e1
      omega
    obtain ⟨R0, R5⟩ := lu1_all (m := mch t) h20 h49 h6 c2m hs
    by_cases cΔ : Δ = []
    · exact gen_fin5 (β' := tAll tTop C) (un := true) (a5 := 5) (cd := 0) (wB := 2) (E0 := s.2.2.1) (p := s.2.2.2.1) (ob := s.2.2.2.2.1) (k := s.2.2.2.2.2) (y := s.1) (NC_rows b 1) (vlr_mono b 1) (vlr_lip b 1) (tbs1 b) fr1_m fg1_ok fg1_m fg1s_1 (by decide) (vlr_one b) w he (Or.inl rfl) m30 (hob _ k4).1 (hob _ k4).2 (by rw [cΔ]; exact Nat.le_refl _) (Nat.zero_le _) (Nat.le_refl _) (fun e => absurd cΔ e) (Nat.le_trans g1 k1) (fun j hj => Nat.le_trans (g2 j hj) k1) (fun E Z aq hE => GH_natc (E := E) (Z := Z) (NC_rows b 1) (vlr_mono b 1) f t [] _ _ Δ w he ch aq (onz_cv (NC_rows b 1) he.1) hE) (fun z => Nat.le_trans (g3 z) (Nat.add_le_add k2 (Nat.mul_le_mul_right _ k3))) wb wy k5 (kb _ hs) R5 hS
    · exact gen_fin5 (β' := tAll tTop C) (un := true) (a5 := 0) (cd := 58 - 2 * mch t - (9 + tch C + cch Γ0 + cch Δ1)) (wB := 2) (E0 := s.2.2.1) (p := s.2.2.2.1) (ob := s.2.2.2.2.1) (k := s.2.2.2.2.2) (y := s.1) (NC_rows b 1) (vlr_mono b 1) (vlr_lip b 1) (tbs1 b) fr1_m fg1_ok fg1_m fg1s_1 (by decide) (vlr_one b) w he (Or.inl rfl) m30 (hob _ k4).1 (hob _ k4).2 hdd hcd (Nat.zero_le _) (fun _ => rfl) (Nat.le_trans g1 k1) (fun j hj => Nat.le_trans (g2 j hj) k1) (fun E Z aq hE => GH_natc (E := E) (Z := Z) (NC_rows b 1) (vlr_mono b 1) f t [] _ _ Δ w he ch aq (onz_cv (NC_rows b 1) he.1) hE) (fun z => Nat.le_trans (g3 z) (Nat.add_le_add k2 (Nat.mul_le_mul_right _ k3))) wb wy k5 (kb _ hs) (R0 (d5' cΔ)) hS
  · have wb : (fun x => x) (nz 1 ngc 1 (fun x => x) (onz 1 ngc 1 (fun x => x) Γ0) tTop) ≤ 1 := by rw [nz_top]; exact Nat.le_refl _
    have kb : ∀ s ∈ lng luq (9 + tch C + cch Γ0 + cch Δ1), s.2.2.2.2.2 ≤ 50 := fun s hs => lnk luq_k hs
    obtain ⟨v, hv, x1, x2⟩ := xr_form (t0 := 1) (n1 := ngc) (s2 := 1) (hv := 0) xrq_ok tbsq.2.2.2.1 tbsq.2.2.2.2.1 _ C (Γ0.length + 1) (Nat.le_refl _) oC (by omega)
    obtain ⟨p, hp, e, he', g1, g2, g3⟩ := nat_ctx (wB := 1) (v := v) tbsq fgq_ok (by decide) fgq_m (fun y => by show y ≤ 0 + max 1 y; omega) (by decide) he.1 x1 x2 (by rw [nz_top]; exact Nat.le_refl _) (Nat.le_refl _) (by omega) (Nat.le_refl _) (by omega)
    have z1 : lnz luq xrq fgq fxq 0 1 1 (tch C) (cch Γ0) (cch Δ1) (zow o (tch C) (cch Γ0) (cch Δ1)) = true := by
      cases o with
      | false => 
        by_cases c1 : tch C < 10
        · exact lnu_get luq_a0 (Nat.zero_le _) c1 hz kp z5 z6 (by omega) (by omega)
        · by_cases c2 : tch C < 16
          · exact lnu_get luq_a10 (by omega) c2 hz kp z5 z6 (by omega) (by omega)
          · exact lnu_get luq_a16 (by omega) (by omega) hz kp z5 z6 (by omega) (by omega)
      | true => 
        by_cases c1 : tch C < 10
        · exact lnu_get luq_b0 (Nat.zero_le _) c1 hz kp z5 z6 (by omega) (by omega)
        · by_cases c2 : tch C < 16
          · exact lnu_get luq_b10 (by omega) c2 hz kp z5 z6 (by omega) (by omega)
          · exact lnu_get luq_b16 (by omega) (by omega) hz kp z5 z6 (by omega) (by omega)
    obtain ⟨s, hs, k1, k2, k3, k4, k5⟩ := lnz_get z1 hv hp he'
    have wy : 1 ≤ s.1 := by
      refine Nat.le_trans ?_ k1
      have e1 : 1 ≤ e.1 := lnz_e1 fg1s_q q38 he'
      have := Nat.mul_le_mul_right (max (max 1 (fxq.getD (cch Γ0) 0)) (0 + (1 + (v.2 + (v.1 - p) * max 1 (fxq.getD (cch Γ0) 0) + p * 1)))) e1
      omega
    obtain ⟨R0, R5⟩ := luq_all (m := mch t) h20 h49 h6 c2m hs
    by_cases cΔ : Δ = []
    · exact gen_fin5 (β' := tAll tTop C) (un := true) (a5 := 5) (cd := 0) (wB := 1) (E0 := s.2.2.1) (p := s.2.2.2.1) (ob := s.2.2.2.2.1) (k := s.2.2.2.2.2) (y := s.1) NC_goals (fun y y' hy => hy) (fun y δ => Nat.le_refl _) tbsq frq_m fgq_ok fgq_m fg1s_q (by decide) (fun y => by show y ≤ 0 + max 1 y; omega) w he (Or.inl rfl) m30 (hob _ k4).1 (hob _ k4).2 (by rw [cΔ]; exact Nat.le_refl _) (Nat.zero_le _) (Nat.le_refl _) (fun e => absurd cΔ e) (Nat.le_trans g1 k1) (fun j hj => Nat.le_trans (g2 j hj) k1) (fun E Z aq hE => GH_natc (E := E) (Z := Z) NC_goals (fun y y' hy => hy) f t [] _ _ Δ w he ch aq (onz_cv NC_goals he.1) hE) (fun z => Nat.le_trans (g3 z) (Nat.add_le_add k2 (Nat.mul_le_mul_right _ k3))) wb wy k5 (kb _ hs) R5 hS
    · exact gen_fin5 (β' := tAll tTop C) (un := true) (a5 := 0) (cd := 58 - 2 * mch t - (9 + tch C + cch Γ0 + cch Δ1)) (wB := 1) (E0 := s.2.2.1) (p := s.2.2.2.1) (ob := s.2.2.2.2.1) (k := s.2.2.2.2.2) (y := s.1) NC_goals (fun y y' hy => hy) (fun y δ => Nat.le_refl _) tbsq frq_m fgq_ok fgq_m fg1s_q (by decide) (fun y => by show y ≤ 0 + max 1 y; omega) w he (Or.inl rfl) m30 (hob _ k4).1 (hob _ k4).2 hdd hcd (Nat.zero_le _) (fun _ => rfl) (Nat.le_trans g1 k1) (fun j hj => Nat.le_trans (g2 j hj) k1) (fun E Z aq hE => GH_natc (E := E) (Z := Z) NC_goals (fun y y' hy => hy) f t [] _ _ Δ w he ch aq (onz_cv NC_goals he.1) hE) (fun z => Nat.le_trans (g3 z) (Nat.add_le_add k2 (Nat.mul_le_mul_right _ k3))) wb wy k5 (kb _ hs) (R0 (d5' cΔ)) hS
/-- pairs in the zone -/
theorem pair_zoneu {x y : Ty} (x1 : TWf f (cxs Δ1 Γ0 (tAll tTop C)).length (Δ.map (fun a => a.1)) x) (x2 : TWf f (cxs Δ1 Γ0 (tAll tTop C)).length (Δ.map (fun a => a.1)) y) (he : TE (cxs Δ1 Γ0 (tAll tTop C)) Δ) (y1 : NAt f x) (y2 : NAt f y) (hv : noac (cxs Δ1 Γ0 (tAll tTop C))) (hd' : ∀ a ∈ Δ, noal a.2.1 = true) (hs : (mch x ≤ mch y ∧ CHo f x [] ∧ 6 ≤ mch x) ∨ (mch y ≤ mch x ∧ CHo f y [] ∧ 6 ≤ mch y)) (hz : znu o (tch C) (cch Γ0) (cch Δ1) = true) (ho : (∀ b ∈ Γ0, nsch b = true ∨ (o = true ∧ tch b ≤ tch C + 5)) ∧ ∀ b ∈ Δ1, nsch b = true ∨ (o = true ∧ tch b ≤ tch C + 5)) (hb : cch (cxs Δ1 Γ0 (tAll tTop C)) + dch Δ + (2 + (mch x + mch y)) ≤ 60) (h20 : 30 ≤ cch (cxs Δ1 Γ0 (tAll tTop C))) (h48 : cch (cxs Δ1 Γ0 (tAll tTop C)) ≤ 47) : PRn f x y (cxs Δ1 Γ0 (tAll tTop C)) Δ := by
  refine pair_ntv x1 x2 he y1 y2 hv hd' (by omega) ?_
  rcases hs with ⟨m, hs, h6⟩ | ⟨m, hs, h6⟩
  · exact Or.inl (zone_u x1 he hs h6 hz ho (by omega) h20 h48)
  · exact Or.inr (zone_u x2 he hs h6 hz ho (by omega) h20 h48)
end PmX8
