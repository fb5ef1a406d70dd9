/-! A LONG SCHEME THAT IS NEVER ENTERED: one term by exact numbers. -/
section PmVy
variable {f : Nat} {t x y C : Ty} {Γ0 Δ1 : List Ty} {Δ : List (Nat × Ty × Nat)}
theorem bh_le {T : List (List Nat)} {R c m : Nat} (h : lhs T R = true) (hc : c < 49) (hm : m ≤ 17) (m1 : 1 ≤ m) (h5 : c + m + 5 ≤ 57) : bhg T c m ≤ R := by
  have := lhs_get (n := 1) h hc hm (by decide) m1 (Nat.le_refl _) (by omega)
  omega
theorem gone_lv (w : TWf f (cxs Δ1 Γ0 (tAll tTop C)).length (Δ.map (fun a => a.1)) t) (he : TE (cxs Δ1 Γ0 (tAll tTop C)) Δ) (hs : smp f t) (nC : noh 0 C = true) (nh : NHt 0 f t) (na : NAt f t) (hc : noac (cxs Δ1 Γ0 (tAll tTop C))) (sg : SGc 0 tTop C tTop Γ0 Δ1) (hd' : ∀ a ∈ Δ, noh 0 a.2.1 = true ∧ noal a.2.1 = true) (k18 : 18 ≤ tch C) (hb : cch (cxs Δ1 Γ0 (tAll tTop C)) + dch Δ + mch t ≤ 57) (h5 : cch (cxs Δ1 Γ0 (tAll tTop C)) + mch t + 5 ≤ 57) (h47 : cch (cxs Δ1 Γ0 (tAll tTop C)) ≤ 47) : SmV tTop tTop C Γ0 Δ1 Δ f t 830 597 := by
  obtain ⟨co, nq, hg, h17⟩ := hs
  have mp := short_c w
  obtain ⟨oc0, oA⟩ := okc_low Δ1 he.1
  have oC := (ok_all.mp oA).2
  have ec : cch (cxs Δ1 Γ0 (tAll tTop C)) = 9 + tch C + cch Γ0 + cch Δ1 := by
    rw [cch_cx, tch_all, tch_top]
    omega
  rw [ec] at hb h5 h47
  refine fun S hS => ⟨fun b => ?_, ?_⟩
  · refine Nat.le_trans ?_ (bh_le lh1_s (c := 9 + tch C + cch Γ0 + cch Δ1) (by omega) h17 mp (by omega))
    obtain ⟨v, hv, x1, x2⟩ := xr_form (t0 := 0) (n1 := fun _ => 1 + 1) (s2 := 3) (hv := 1) xr1_ok (tbs1 b).2.2.2.1 (tbs1 b).2.2.2.2.1 _ C (Γ0.length + 1) (Nat.le_refl _) oC (by omega)
    obtain ⟨p, hp, e, he', g1, g2, g3⟩ := sm_ctx (wB := 2) (v := v) (va := 7) (Dm := tTop) (tbs1 b) fg1_ok (by decide) fg1_m (vlr_one b) he.1 rfl (Nat.le_trans (gone_va (B := tTop) (Γ0 := Γ0) b) (by decide)) x1 x2 (by rw [nz_top]; exact vlr_one b 0) (Nat.le_refl _) (by omega) (Nat.le_refl _) (by omega)
    obtain ⟨s, hs, k1, k2, k3, k4⟩ := lhz_get (lha_get lh1_a k18 h47) hv hp he'
    have R := lhc_get lh1_ok (by omega) hs h17 (by omega)
    have o := ob_long he.1 (by omega) (by omega) k4
    exact gone_fin2 (NC_rows b 1) (vlr_mono b 1) (vlr_lip b 1) (tbs1 b) px1_ok fr1_m (Nat.le_refl _) (Nat.le_refl _) (vlr_one b) w he co nC nh na hc sg hd' nq hg h17 o.1 o.2 (by omega) (by omega) (Nat.le_trans g1 k1) (fun j hj => Nat.le_trans (g2 j hj) k1) (fun z => Nat.le_trans (g3 z) (Nat.add_le_add k2 (Nat.mul_le_mul_right _ k3))) R hS
  · refine Nat.le_trans ?_ (bh_le lhq_s (c := 9 + tch C + cch Γ0 + cch Δ1) (by omega) h17 mp (by omega))
    obtain ⟨v, hv, x1, x2⟩ := xr_form (t0 := 1) (n1 := ngc) (s2 := 1) (hv := 0) xrq_ok tbsq.2.2.2.1 tbsq.2.2.2.2.1 _ C (Γ0.length + 1) (Nat.le_refl _) oC (by omega)
    obtain ⟨p, hp, e, he', g1, g2, g3⟩ := sm_ctx (wB := 1) (v := v) (va := 3) (Dm := tTop) tbsq fgq_ok (by decide) fgq_m (fun y => by show y ≤ 0 + max 1 y; omega) he.1 rfl (Nat.le_trans (gone_vg (B := tTop) (Γ0 := Γ0)) (by decide)) x1 x2 (by rw [nz_top]; exact Nat.le_refl _) (Nat.le_refl _) (by omega) (Nat.le_refl _) (by omega)
    obtain ⟨s, hs, k1, k2, k3, k4⟩ := lhz_get (lha_get lhq_a k18 h47) hv hp he'
    have R := lhc_get lhq_ok (by omega) hs h17 (by omega)
    have o := ob_long he.1 (by omega) (by omega) k4
    exact gone_fin2 NC_goals (fun y y' hy => hy) (fun y δ => Nat.le_refl _) tbsq pxq_ok frq_m (by decide) (by decide) (fun y => by show y ≤ 0 + max 1 y; omega) w he co nC nh na hc sg hd' nq hg h17 o.1 o.2 (by omega) (by omega) (Nat.le_trans g1 k1) (fun j hj => Nat.le_trans (g2 j hj) k1) (fun z => Nat.le_trans (g3 z) (Nat.add_le_add k2 (Nat.mul_le_mul_right _ k3))) R hS
/-- pairs where no other scheme has a bound Top -/
theorem pair_lgone (x1 : TWf f (cxs Δ1 Γ0 (tAll tTop C)).length (Δ.map (fun a => a.1)) x) (x2 : TWf f (cxs Δ1 Γ0 (tAll tTop C)).length (Δ.map (fun a => a.1)) y) (he : TE (cxs Δ1 Γ0 (tAll tTop C)) Δ) (y1 : NAt f x) (y2 : NAt f y) (hv : noac (cxs Δ1 Γ0 (tAll tTop C))) (nC : noh 0 C = true) (sg : SGc 0 tTop C tTop Γ0 Δ1) (hd' : ∀ a ∈ Δ, noh 0 a.2.1 = true ∧ noal a.2.1 = true) (p1 : NHt 0 f x) (p2 : NHt 0 f y) (hs : smp f x ∨ smp f y) (k18 : 18 ≤ tch C) (h5 : 5 ≤ dch Δ) (hb : cch (cxs Δ1 Γ0 (tAll tTop C)) + dch Δ + (2 + (mch x + mch y)) ≤ 60) (h47 : cch (cxs Δ1 Γ0 (tAll tTop C)) ≤ 47) : PRn f x y (cxs Δ1 Γ0 (tAll tTop C)) Δ := by
  have m1 := short_c x1
  have m2 := short_c x2
  refine pair_gonev nC sg x1 x2 he y1 y2 hv hd' (by omega) p1 p2 ?_
  rcases hs with hs | hs
  · exact Or.inl (gone_lv x1 he hs nC p1 y1 hv sg hd' k18 (by omega) (by omega) h47)
  · exact Or.inr (gone_lv x2 he hs nC p2 y2 hv sg hd' k18 (by omega) (by omega) h47)
/-- pairs in the zone -/
theorem pair_zone {o : Bool} (x1 : TWf f (cxs Δ1 Γ0 (tAll tTop C)).length (Δ.map (fun a => a.1)) x) (x2 : TWf f (cxs Δ1 Γ0 (tAll tTop C)).length (Δ.map (fun a => a.1)) y) (he : TE (cxs Δ1 Γ0 (tAll tTop C)) Δ) (y1 : NAt f x) (y2 : NAt f y) (hv : noac (cxs Δ1 Γ0 (tAll tTop C))) (hd' : ∀ a ∈ Δ, noal a.2.1 = true) (hs : (mch x ≤ mch y ∧ smp f x) ∨ (mch y ≤ mch x ∧ smp f y)) (hz : zn o (tch C) (cch Γ0) (cch Δ1) = true) (ho : o = false → (∀ b ∈ Γ0, nsch b = true) ∧ ∀ b ∈ Δ1, nsch b = true) (h5 : 5 ≤ dch Δ) (hb : cch (cxs Δ1 Γ0 (tAll tTop C)) + dch Δ + (2 + (mch x + mch y)) ≤ 60) (h48 : cch (cxs Δ1 Γ0 (tAll tTop C)) ≤ 48) : PRn f x y (cxs Δ1 Γ0 (tAll tTop C)) Δ := by
  refine pair_ntv x1 x2 he y1 y2 hv hd' (by omega) ?_
  rcases hs with ⟨m, hs⟩ | ⟨m, hs⟩
  · exact Or.inl (zone_v x1 he hs hz ho (by omega) (by omega) h48)
  · exact Or.inr (zone_v x2 he hs hz ho (by omega) (by omega) h48)
end PmVy
