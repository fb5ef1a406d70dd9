/-! LONG SCHEMES BY NATURE, where Delta holds ten characters. -/
theorem znd_k {k q1 q2 : Nat} (h : znd k q1 q2 = true) : k ≤ 38 := by
  by_cases c : k ≤ 38
  · exact c
  · exfalso
    unfold znd at h
    have e : gxd.getD k [] = [] := by
      rw [List.getD_eq_getElem?_getD, List.getElem?_eq_none (by show gxd.length ≤ k; have : gxd.length = 39 := by decide +kernel
                                                                omega)]
      rfl
    rw [e] at h
    cases h
theorem lda_get {L : LnT} {XR W : FrT} {X : List Nat} {hv s2 wB k q1 q2 : Nat} (h : lda L XR W X hv s2 wB = true) (hz : znd k q1 q2 = true) (hc : 9 + k + q1 + q2 ≤ 47) : lnz L XR W X hv s2 wB k q1 q2 (zow true k q1 q2) = true := by
  have k38 := znd_k hz
  unfold lda at h
  unfold znd at hz
  rw [List.any_eq_true] at hz
  obtain ⟨s, hs, e⟩ := hz
  rw [Bool.and_eq_true] at e
  have e1 := Nat.eq_of_beq_eq_true e.1
  have e2 := Nat.eq_of_beq_eq_true e.2
  have q := List.all_eq_true.mp (rng_all h (i := k) (by omega)) s hs
  rw [e1, e2, Bool.or_eq_true] at q
  rcases q with q | q
  · exact (blt_no hc q).elim
  · exact q
theorem ldc_get {L : LnT} {P : List (List Nat)} {F W : FrT} {X : List Nat} {hv wB Bd c m : Nat} {s : Nat × Nat × Nat × Nat × Nat × Nat} (h : ldc L P F W X hv wB Bd = true) (hc : c < 48) (hs : s ∈ lng L c) (hm3 : 3 ≤ m) (hm : m ≤ 15) (hr : c + 10 + 2 * m ≤ 58) : smZ1 P F W X hv s.2.2.1 s.2.2.2.1 wB s.2.2.2.2.1 s.2.2.2.2.2 s.1 s.2.1 (58 - 2 * m - c) m Bd = true := by
  unfold ldc at h
  have q := rng_all (List.all_eq_true.mp (rng_all h (i := c) hc) s hs) (i := m) (by omega)
  rw [Bool.or_eq_true, Bool.or_eq_true] at q
  rcases q with q | q | q
  · exact (blt_no hm3 q).elim
  · exact (blt_no hr q).elim
  · exact q
section PmWy
variable {f : Nat} {t C : Ty} {Γ0 Δ1 : List Ty} {Δ : List (Nat × Ty × Nat)}
theorem zone_d (w : TWf f (cxs Δ1 Γ0 (tAll tTop C)).length (Δ.map (fun a => a.1)) t) (he : TE (cxs Δ1 Γ0 (tAll tTop C)) Δ) (hs : smq f t) (hz : znd (tch C) (cch Γ0) (cch Δ1) = true) (ho : (∀ b ∈ Γ0, nsch b = true ∨ tch b ≤ tch C + 5) ∧ ∀ b ∈ Δ1, nsch b = true ∨ tch b ≤ tch C + 5) (hb : cch (cxs Δ1 Γ0 (tAll tTop C)) + dch Δ + 2 * mch t ≤ 58) (h5 : cch (cxs Δ1 Γ0 (tAll tTop C)) + 5 + 2 * mch t ≤ 58) (h49 : cch (cxs Δ1 Γ0 (tAll tTop C)) ≤ 47) (hr : cch (cxs Δ1 Γ0 (tAll tTop C)) + 10 + 2 * mch t ≤ 58) : NtV (cxs Δ1 Γ0 (tAll tTop C)) Δ f t 830 597 := by
  obtain ⟨co, hm3, h15, hg⟩ := hs
  obtain ⟨oc0, oA⟩ := okc_low Δ1 he.1
  have oC := (ok_all.mp oA).2
  have kp := tch_pos oC
  have z5 := cch_q5 oc0
  have z6 := cxs_q5 he.1
  have ec : cch (cxs Δ1 Γ0 (tAll tTop C)) = 9 + tch C + cch Γ0 + cch Δ1 := by
    rw [cch_cx, tch_all, tch_top]
    omega
  rw [ec] at hb h5 h49 hr
  have k21 := znd_k hz
  have hob : ∀ s : Nat, zow true (tch C) (cch Γ0) (cch Δ1) ≤ s → (∀ b ∈ Γ0, nsch b = true ∨ flv b ≤ s) ∧ ∀ b ∈ Δ1, nsch b = true ∨ flv b ≤ s := by
    intro s hs
    have hs : max (lmx fr1 (min (cch Γ0 - 4) (tch C + 5))) (lmx fr1 (min (cch Δ1 - 4) (tch C + 5))) ≤ s := hs
    refine ⟨fun b hb => ?_, fun b hb => ?_⟩
    · rcases ho.1 b hb with e | e
      · exact Or.inl e
      · obtain ⟨d, h1, h2⟩ := okc_mch oc0 hb
        have := flv_lmx (k := min (cch Γ0 - 4) (tch C + 5)) h1 (by omega) (by omega)
        exact Or.inr (by omega)
    · rcases ho.2 b hb with e | e
      · exact Or.inl e
      · obtain ⟨d, h1, h2⟩ := okc_cxs he.1 hb
        have := flv_lmx (k := min (cch Δ1 - 4) (tch C + 5)) h1 (by omega) (by omega)
        exact Or.inr (by omega)
  refine fun S hS => ⟨fun b => ?_, ?_⟩
  · have wb : vlr b 1 (nz 0 (fun _ => 1 + 1) (2 + 1) (vlr b 1) (onz 0 (fun _ => 1 + 1) (2 + 1) (vlr b 1) Γ0) tTop) ≤ 2 := by rw [nz_top]; exact vlr_one b 0
    have kb : ∀ s ∈ lng ld1 (9 + tch C + cch Γ0 + cch Δ1), s.2.2.2.2.2 ≤ 50 := fun s hs => lnk ld1_k hs
    obtain ⟨v, hv, x1, x2⟩ := xr_form (t0 := 0) (n1 := fun _ => 1 + 1) (s2 := 3) (hv := 1) xr1_ok (tbs1 b).2.2.2.1 (tbs1 b).2.2.2.2.1 _ C (Γ0.length + 1) (Nat.le_refl _) oC (by omega)
    obtain ⟨p, hp, e, he', g1, g2, g3⟩ := nat_ctx (wB := 2) (v := v) (tbs1 b) fg1_ok (by decide) fg1_m (vlr_one b) (by decide) he.1 x1 x2 (by rw [nz_top]; exact vlr_one b 0) (Nat.le_refl _) (by omega) (Nat.le_refl _) (by omega)
    have z1 : lnz ld1 xr1 fg1 fx1 1 3 2 (tch C) (cch Γ0) (cch Δ1) (zow true (tch C) (cch Γ0) (cch Δ1)) = true := by
      exact lda_get ld1_a hz (by omega)
    obtain ⟨s, hs, k1, k2, k3, k4, k5⟩ := lnz_get z1 hv hp he'
    have R := ldc_get ld1_ok (by omega) hs hm3 h15 hr
    exact nat_fin4 (NC_rows b 1) (vlr_mono b 1) (vlr_lip b 1) (tbs1 b) px1_ok fr1_m fg1_ok (by decide) fg1_m (Nat.le_refl _) (Nat.le_refl _) (vlr_one b) w he co hg hm3 (by omega) (hob _ k4).1 (hob _ k4).2 (by omega) (by omega) (Nat.le_trans g1 k1) (fun j hj => Nat.le_trans (g2 j hj) k1) (fun z => Nat.le_trans (g3 z) (Nat.add_le_add k2 (Nat.mul_le_mul_right _ k3))) wb k5 (kb _ hs) R hS
  · have wb : (fun x => x) (nz 1 ngc 1 (fun x => x) (onz 1 ngc 1 (fun x => x) Γ0) tTop) ≤ 1 := by rw [nz_top]; exact Nat.le_refl _
    have kb : ∀ s ∈ lng ldq (9 + tch C + cch Γ0 + cch Δ1), s.2.2.2.2.2 ≤ 50 := fun s hs => lnk ldq_k hs
    obtain ⟨v, hv, x1, x2⟩ := xr_form (t0 := 1) (n1 := ngc) (s2 := 1) (hv := 0) xrq_ok tbsq.2.2.2.1 tbsq.2.2.2.2.1 _ C (Γ0.length + 1) (Nat.le_refl _) oC (by omega)
    obtain ⟨p, hp, e, he', g1, g2, g3⟩ := nat_ctx (wB := 1) (v := v) tbsq fgq_ok (by decide) fgq_m (fun y => by show y ≤ 0 + max 1 y; omega) (by decide) he.1 x1 x2 (by rw [nz_top]; exact Nat.le_refl _) (Nat.le_refl _) (by omega) (Nat.le_refl _) (by omega)
    have z1 : lnz ldq xrq fgq fxq 0 1 1 (tch C) (cch Γ0) (cch Δ1) (zow true (tch C) (cch Γ0) (cch Δ1)) = true := by
      exact lda_get ldq_a hz (by omega)
    obtain ⟨s, hs, k1, k2, k3, k4, k5⟩ := lnz_get z1 hv hp he'
    have R := ldc_get ldq_ok (by omega) hs hm3 h15 hr
    exact nat_fin4 NC_goals (fun y y' hy => hy) (fun y δ => Nat.le_refl _) tbsq pxq_ok frq_m fgq_ok (by decide) fgq_m (by decide) (by decide) (fun y => by show y ≤ 0 + max 1 y; omega) w he co hg hm3 (by omega) (hob _ k4).1 (hob _ k4).2 (by omega) (by omega) (Nat.le_trans g1 k1) (fun j hj => Nat.le_trans (g2 j hj) k1) (fun z => Nat.le_trans (g3 z) (Nat.add_le_add k2 (Nat.mul_le_mul_right _ k3))) wb k5 (kb _ hs) R hS
/-- pairs in the zone -/
theorem pair_zoned {x y : Ty} (x1 : TWf f (cxs Δ1 Γ0 (tAll tTop C)).length (Δ.map (fun a => a.1)) x) (x2 : TWf f (cxs Δ1 Γ0 (tAll tTop C)).length (Δ.map (fun a => a.1)) y) (he : TE (cxs Δ1 Γ0 (tAll tTop C)) Δ) (y1 : NAt f x) (y2 : NAt f y) (hv : noac (cxs Δ1 Γ0 (tAll tTop C))) (hd' : ∀ a ∈ Δ, noal a.2.1 = true) (hs : (mch x ≤ mch y ∧ smq f x) ∨ (mch y ≤ mch x ∧ smq f y)) (hz : znd (tch C) (cch Γ0) (cch Δ1) = true) (ho : (∀ b ∈ Γ0, nsch b = true ∨ tch b ≤ tch C + 5) ∧ ∀ b ∈ Δ1, nsch b = true ∨ tch b ≤ tch C + 5) (h5 : 10 ≤ dch Δ) (hb : cch (cxs Δ1 Γ0 (tAll tTop C)) + dch Δ + (2 + (mch x + mch y)) ≤ 60) (h48 : cch (cxs Δ1 Γ0 (tAll tTop C)) ≤ 47) : PRn f x y (cxs Δ1 Γ0 (tAll tTop C)) Δ := by
  refine pair_ntv x1 x2 he y1 y2 hv hd' (by omega) ?_
  rcases hs with ⟨m, hs⟩ | ⟨m, hs⟩
  · exact Or.inl (zone_d x1 he hs hz ho (by omega) (by omega) h48 (by omega))
  · exact Or.inr (zone_d x2 he hs hz ho (by omega) (by omega) h48 (by omega))
end PmWy
