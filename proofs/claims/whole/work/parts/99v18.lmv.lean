/-! TERMS BY NATURE, the long scheme's forms by any table. -/
section PmVz
variable {f : Nat} {t C : Ty} {Γ0 Δ1 : List Ty} {Δ : List (Nat × Ty × Nat)} {L Lq : LmT} {XR XQ : FrT}
theorem lm_v (hL : lmc L pp1 fr1 fx1 1 2 830 = true) (hLq : lmc Lq ppq frq fxq 0 1 597 = true) (w : TWf f (cxs Δ1 Γ0 (tAll tTop C)).length (Δ.map (fun a => a.1)) t) (he : TE (cxs Δ1 Γ0 (tAll tTop C)) Δ) (hs : smp f t) (z1 : lmz L XR fg1 fx1 1 3 2 (tch C) (cch Γ0) (cch Δ1) (zob true (cch Γ0) (cch Δ1)) = true) (z2 : lmz Lq XQ fgq fxq 0 1 1 (tch C) (cch Γ0) (cch Δ1) (zob true (cch Γ0) (cch Δ1)) = true) (f1 : ∃ v ∈ frg XR (tch C), XFm 0 (fun _ => 1 + 1) 3 1 (Γ0.length + 1) C v.1 v.2) (f2 : ∃ v ∈ frg XQ (tch C), XFm 1 ngc 1 0 (Γ0.length + 1) C v.1 v.2) (hb : cch (cxs Δ1 Γ0 (tAll tTop C)) + dch Δ + 2 * mch t ≤ 58) (h5 : cch (cxs Δ1 Γ0 (tAll tTop C)) + 5 + 2 * mch t ≤ 58) (h48 : cch (cxs Δ1 Γ0 (tAll tTop C)) ≤ 48) : NtV (cxs Δ1 Γ0 (tAll tTop C)) Δ f t 830 597 := by
  obtain ⟨co, nq, hg, h17⟩ := hs
  obtain ⟨oc0, oA⟩ := okc_low Δ1 he.1
  have oC := (ok_all.mp oA).2
  have kp := tch_pos oC
  have ec : cch (cxs Δ1 Γ0 (tAll tTop C)) = 9 + tch C + cch Γ0 + cch Δ1 := by
    rw [cch_cx, tch_all, tch_top]
    omega
  rw [ec] at hb h5 h48
  refine fun S hS => ⟨fun b => ?_, ?_⟩
  · obtain ⟨v, hv, x1, x2⟩ := f1
    obtain ⟨p, hp, e, he', g1, g2, g3⟩ := nat_ctx (wB := 2) (v := v) (tbs1 b) fg1_ok (by decide) fg1_m (vlr_one b) (by decide) he.1 x1 x2 (by rw [nz_top]; exact vlr_one b 0) (Nat.le_refl _) (by omega) (Nat.le_refl _) (by omega)
    obtain ⟨s, hs, k1, k2, k3, k4⟩ := lmz_get z1 hv hp he'
    have R := lmc_get hL (by omega) hs h17 (by omega)
    have o := ob_long he.1 (by omega) (by omega) k4
    exact nat_fin2 (NC_rows b 1) (vlr_mono b 1) (vlr_lip b 1) (tbs1 b) px1_ok fr1_m (Nat.le_refl _) (Nat.le_refl _) (vlr_one b) w he co nq hg h17 o.1 o.2 (by omega) (by omega) (Nat.le_trans g1 k1) (fun j hj => Nat.le_trans (g2 j hj) k1) (fun z => Nat.le_trans (g3 z) (Nat.add_le_add k2 (Nat.mul_le_mul_right _ k3))) R hS
  · obtain ⟨v, hv, x1, x2⟩ := f2
    obtain ⟨p, hp, e, he', g1, g2, g3⟩ := nat_ctx (wB := 1) (v := v) tbsq fgq_ok (by decide) fgq_m (fun y => by show y ≤ 0 + max 1 y; omega) (by decide) he.1 x1 x2 (by rw [nz_top]; exact Nat.le_refl _) (Nat.le_refl _) (by omega) (Nat.le_refl _) (by omega)
    obtain ⟨s, hs, k1, k2, k3, k4⟩ := lmz_get z2 hv hp he'
    have R := lmc_get hLq (by omega) hs h17 (by omega)
    have o := ob_long he.1 (by omega) (by omega) k4
    exact nat_fin2 NC_goals (fun y y' hy => hy) (fun y δ => Nat.le_refl _) tbsq pxq_ok frq_m (by decide) (by decide) (fun y => by show y ≤ 0 + max 1 y; omega) w he co nq hg h17 o.1 o.2 (by omega) (by omega) (Nat.le_trans g1 k1) (fun j hj => Nat.le_trans (g2 j hj) k1) (fun z => Nat.le_trans (g3 z) (Nat.add_le_add k2 (Nat.mul_le_mul_right _ k3))) R hS
end PmVz
