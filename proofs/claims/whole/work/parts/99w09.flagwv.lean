/-! A LONG SCHEME WITH A CERTAIN SCHEME INSIDE: all terms without a choice under an operation. -/
section PmWj
variable {f : Nat} {t C : Ty} {Γ0 Δ1 : List Ty} {Δ : List (Nat × Ty × Nat)} {L Lq : LnT} {XR XQ : FrT}
theorem ln_v (hL : lnc L pp1 fr1 fg1 fx1 1 2 830 0 50 = true) (hLq : lnc Lq ppq frq fgq fxq 0 1 597 0 50 = true) (hK : lnkb L = true) (hKq : lnkb Lq = true) (w : TWf f (cxs Δ1 Γ0 (tAll tTop C)).length (Δ.map (fun a => a.1)) t) (he : TE (cxs Δ1 Γ0 (tAll tTop C)) Δ) (hs : smq f t) (z1 : lnz L XR fg1 fx1 1 3 2 (tch C) (cch Γ0) (cch Δ1) (zob true (cch Γ0) (cch Δ1)) = true) (z2 : lnz Lq XQ fgq fxq 0 1 1 (tch C) (cch Γ0) (cch Δ1) (zob true (cch Γ0) (cch Δ1)) = true) (f1 : ∃ v ∈ frg XR (tch C), XFm 0 (fun _ => 1 + 1) 3 1 (Γ0.length + 1) C v.1 v.2) (f2 : ∃ v ∈ frg XQ (tch C), XFm 1 ngc 1 0 (Γ0.length + 1) C v.1 v.2) (hb : cch (cxs Δ1 Γ0 (tAll tTop C)) + dch Δ + 2 * mch t ≤ 58) (h5 : cch (cxs Δ1 Γ0 (tAll tTop C)) + 5 + 2 * mch t ≤ 58) (h48 : cch (cxs Δ1 Γ0 (tAll tTop C)) ≤ 48) : NtV (cxs Δ1 Γ0 (tAll tTop C)) Δ f t 830 597 := by
  obtain ⟨co, hm3, h15, hg⟩ := hs
  obtain ⟨oc0, oA⟩ := okc_low Δ1 he.1
  have oC := (ok_all.mp oA).2
  have kp := tch_pos oC
  have ec : cch (cxs Δ1 Γ0 (tAll tTop C)) = 9 + tch C + cch Γ0 + cch Δ1 := by
    rw [cch_cx, tch_all, tch_top]
    omega
  rw [ec] at hb h5 h48
  refine fun S hS => ⟨fun b => ?_, ?_⟩
  · have wb : vlr b 1 (nz 0 (fun _ => 1 + 1) (2 + 1) (vlr b 1) (onz 0 (fun _ => 1 + 1) (2 + 1) (vlr b 1) Γ0) tTop) ≤ 2 := by rw [nz_top]; exact vlr_one b 0
    obtain ⟨v, hv, x1, x2⟩ := f1
    obtain ⟨p, hp, e, he', g1, g2, g3⟩ := nat_ctx (wB := 2) (v := v) (tbs1 b) fg1_ok (by decide) fg1_m (vlr_one b) (by decide) he.1 x1 x2 (by rw [nz_top]; exact vlr_one b 0) (Nat.le_refl _) (by omega) (Nat.le_refl _) (by omega)
    obtain ⟨s, hs, k1, k2, k3, k4, k5⟩ := lnz_get z1 hv hp he'
    have R := lnc_get hL (by omega) (Nat.zero_le _) hs hm3 h15 (by omega)
    have o := ob_long he.1 (by omega) (by omega) k4
    exact nat_fin4 (NC_rows b 1) (vlr_mono b 1) (vlr_lip b 1) (tbs1 b) px1_ok fr1_m fg1_ok (by decide) fg1_m (Nat.le_refl _) (Nat.le_refl _) (vlr_one b) w he co hg hm3 (by omega) o.1 o.2 (by omega) (by omega) (Nat.le_trans g1 k1) (fun j hj => Nat.le_trans (g2 j hj) k1) (fun z => Nat.le_trans (g3 z) (Nat.add_le_add k2 (Nat.mul_le_mul_right _ k3))) wb k5 (lnk hK hs) R hS
  · have wb : (fun x => x) (nz 1 ngc 1 (fun x => x) (onz 1 ngc 1 (fun x => x) Γ0) tTop) ≤ 1 := by rw [nz_top]; exact Nat.le_refl _
    obtain ⟨v, hv, x1, x2⟩ := f2
    obtain ⟨p, hp, e, he', g1, g2, g3⟩ := nat_ctx (wB := 1) (v := v) tbsq fgq_ok (by decide) fgq_m (fun y => by show y ≤ 0 + max 1 y; omega) (by decide) he.1 x1 x2 (by rw [nz_top]; exact Nat.le_refl _) (Nat.le_refl _) (by omega) (Nat.le_refl _) (by omega)
    obtain ⟨s, hs, k1, k2, k3, k4, k5⟩ := lnz_get z2 hv hp he'
    have R := lnc_get hLq (by omega) (Nat.zero_le _) hs hm3 h15 (by omega)
    have o := ob_long he.1 (by omega) (by omega) k4
    exact nat_fin4 NC_goals (fun y y' hy => hy) (fun y δ => Nat.le_refl _) tbsq pxq_ok frq_m fgq_ok (by decide) fgq_m (by decide) (by decide) (fun y => by show y ≤ 0 + max 1 y; omega) w he co hg hm3 (by omega) o.1 o.2 (by omega) (by omega) (Nat.le_trans g1 k1) (fun j hj => Nat.le_trans (g2 j hj) k1) (fun z => Nat.le_trans (g3 z) (Nat.add_le_add k2 (Nat.mul_le_mul_right _ k3))) wb k5 (lnk hKq hs) R hS
end PmWj
section PmWk
variable {L : LnT} {XR W : FrT} {X : List Nat} {hv s2 wB x kmax k q1 q2 : Nat} {l : List (Nat × Nat × Nat)}
theorem lga_get (h : lga L XR W X hv s2 wB x kmax l = true) (k1 : 18 ≤ k) (k2 : k ≤ kmax) (hz : zfk x k q1 q2 = true) (hn : nxe l k q1 q2 = true) (h1 : q1 = 0 ∨ 5 ≤ q1) (h2 : q2 = 0 ∨ 5 ≤ q2) (hc : 9 + k + q1 + q2 ≤ 47) : lnz L XR W X hv s2 wB k q1 q2 (zob true q1 q2) = true := by
  have no : ∀ {q : Nat}, (q = 0 ∨ 5 ≤ q) → (Nat.blt 0 q && Nat.blt q 5) = true → False := by
    intro q h hb
    rw [Bool.and_eq_true] at hb
    rcases h with h | h
    · exact blt_no (by omega) hb.1
    · exact blt_no h hb.2
  unfold lga at h
  have q := rng_all h (i := k - 18) (by omega)
  rw [show 18 + (k - 18) = k by omega, Bool.or_eq_true] at q
  rcases q with q | q
  · exact (blt_no k2 q).elim
  have q := rng_all q (i := q1) (by omega)
  rw [Bool.or_eq_true] at q
  rcases q with q | q
  · exact (no h1 q).elim
  have q := rng_all q (i := q2) (by omega)
  rw [Bool.or_eq_true, Bool.or_eq_true, Bool.or_eq_true] at q
  rcases q with q | q | q | q
  · exact (no h2 q).elim
  · exact (blt_no (by omega) q).elim
  · rw [hz, hn] at q; cases q
  · exact q
end PmWk
section PmWl
variable {f : Nat} {t x y C : Ty} {Γ0 Δ1 : List Ty} {Δ : List (Nat × Ty × Nat)} {d : Nat}
/-- the body has an inner scheme of its own kind, or any inner scheme where other binders are about -/
def FlW (C : Ty) (q1 q2 : Nat) : Prop := (kdt C = 4 ∧ phf (Kis 4) C = true ∧ tch C ≤ 35 ∧ nxe nxr (tch C) q1 q2 = true) ∨ (kdt C = 1 ∧ phf (Kis 1) C = true ∧ tch C ≤ 34 ∧ nxe nxf (tch C) q1 q2 = true) ∨ (kdt C = 3 ∧ phf (Kis 3) C = true ∧ tch C ≤ 36 ∧ nxe nxt (tch C) q1 q2 = true) ∨ (phf (fun _ => true) C = true ∧ zfk 0 (tch C) q1 q2 = true ∧ nxe nxa (tch C) q1 q2 = true)
theorem flag_w (w : TWf f (cxs Δ1 Γ0 (tAll tTop C)).length (Δ.map (fun a => a.1)) t) (he : TE (cxs Δ1 Γ0 (tAll tTop C)) Δ) (hs : smq f t) (hC : FlW C (cch Γ0) (cch Δ1)) (k18 : 18 ≤ tch C) (hb : cch (cxs Δ1 Γ0 (tAll tTop C)) + dch Δ + 2 * mch t ≤ 58) (h5 : cch (cxs Δ1 Γ0 (tAll tTop C)) + 5 + 2 * mch t ≤ 58) (h47 : cch (cxs Δ1 Γ0 (tAll tTop C)) ≤ 47) : NtV (cxs Δ1 Γ0 (tAll tTop C)) Δ f t 830 597 := by
  obtain ⟨oc0, oA⟩ := okc_low Δ1 he.1
  have oC := (ok_all.mp oA).2
  have ec : cch (cxs Δ1 Γ0 (tAll tTop C)) = 9 + tch C + cch Γ0 + cch Δ1 := by
    rw [cch_cx, tch_all, tch_top]
    omega
  have c47 : 9 + tch C + cch Γ0 + cch Δ1 ≤ 47 := by omega
  have a1 := cch_five oc0
  have a2 := cch_fiv he.1
  rcases hC with ⟨k, hp, hk, hn⟩ | ⟨k, hp, hk, hn⟩ | ⟨k, hp, hk, hn⟩ | ⟨hp, hz, hn⟩
  · exact ln_v lgr1_ok lgrq_ok lgr1_k lgrq_k w he hs (lga_get lgr1_a k18 hk rfl hn a1 a2 c47) (lga_get lgrq_a k18 hk rfl hn a1 a2 c47) (fk_rec1 oC (by omega) k hp) (fk_recq oC (by omega) k hp) hb h5 (by omega)
  · exact ln_v lgf1_ok lgfq_ok lgf1_k lgfq_k w he hs (lga_get lgf1_a k18 hk rfl hn a1 a2 c47) (lga_get lgfq_a k18 hk rfl hn a1 a2 c47) (fk_fun1 oC (by omega) k hp) (fk_funq oC (by omega) k hp) hb h5 (by omega)
  · exact ln_v lgt1_ok lgtq_ok lgt1_k lgtq_k w he hs (lga_get lgt1_a k18 hk rfl hn a1 a2 c47) (lga_get lgtq_a k18 hk rfl hn a1 a2 c47) (fk_top1 oC (by omega) k hp) (fk_topq oC (by omega) k hp) hb h5 (by omega)
  · exact ln_v lga1_ok lgaq_ok lga1_k lgaq_k w he hs (lga_get lga1_a k18 (by omega) hz hn a1 a2 c47) (lga_get lgaq_a k18 (by omega) hz hn a1 a2 c47) (fk_any1 oC (by omega) hp) (fk_anyq oC (by omega) hp) hb h5 (by omega)
/-- pairs -/
theorem pair_flagw (x1 : TWf f (cxs Δ1 Γ0 (tAll tTop C)).length (Δ.map (fun a => a.1)) x) (x2 : TWf f (cxs Δ1 Γ0 (tAll tTop C)).length (Δ.map (fun a => a.1)) y) (he : TE (cxs Δ1 Γ0 (tAll tTop C)) Δ) (y1 : NAt f x) (y2 : NAt f y) (hv : noac (cxs Δ1 Γ0 (tAll tTop C))) (hd' : ∀ a ∈ Δ, noal a.2.1 = true) (hs : (mch x ≤ mch y ∧ smq f x) ∨ (mch y ≤ mch x ∧ smq f y)) (hC : FlW C (cch Γ0) (cch Δ1)) (k18 : 18 ≤ tch C) (h5 : 5 ≤ dch Δ) (hb : cch (cxs Δ1 Γ0 (tAll tTop C)) + dch Δ + (2 + (mch x + mch y)) ≤ 60) (h47 : cch (cxs Δ1 Γ0 (tAll tTop C)) ≤ 47) : PRn f x y (cxs Δ1 Γ0 (tAll tTop C)) Δ := by
  refine pair_ntv x1 x2 he y1 y2 hv hd' (by omega) ?_
  rcases hs with ⟨m, hs⟩ | ⟨m, hs⟩
  · exact Or.inl (flag_w x1 he hs hC k18 (by omega) (by omega) h47)
  · exact Or.inr (flag_w x2 he hs hC k18 (by omega) (by omega) h47)
end PmWl
