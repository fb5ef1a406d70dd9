/-! BY NATURE: terms. -/
section PmY9
variable {f : Nat} {t C : Ty} {Γ0 Δ1 : List Ty} {Δ : List (Nat × Ty × Nat)} {o : Bool}
theorem nat_a (w : TWf f (cxs Δ1 Γ0 (tAll tTop C)).length (Δ.map (fun a => a.1)) t) (he : TE (cxs Δ1 Γ0 (tAll tTop C)) Δ) (hΔ : Δ ≠ []) (m3 : 3 ≤ mch t) (m5 : mch t < 6) (co : COk f t 0) (hz : znv xa0 xa1 o (tch C) (cch Γ0) (cch Δ1) = true) (ho : (∀ b ∈ Γ0, nsch b = true ∨ (o = true ∧ tch b ≤ tch C + 5)) ∧ ∀ b ∈ Δ1, nsch b = true ∨ (o = true ∧ tch b ≤ tch C + 5)) (hb : cch (cxs Δ1 Γ0 (tAll tTop C)) + dch Δ + 2 * mch t ≤ 58) (h20 : 20 ≤ cch (cxs Δ1 Γ0 (tAll tTop C))) (h49 : cch (cxs Δ1 Γ0 (tAll tTop C)) ≤ 47) : NtV (cxs Δ1 Γ0 (tAll tTop C)) Δ f t 887 597 := by
  obtain ⟨oc0, oA⟩ := okc_low Δ1 he.1
  have oC := (ok_all.mp oA).2
  have kp := tch_pos oC
  have z5 := cch_q5 oc0
  have z6 := cxs_q5 he.1
  have ec : cch (cxs Δ1 Γ0 (tAll tTop C)) = 9 + tch C + cch Γ0 + cch Δ1 := by
    rw [cch_cx, tch_all, tch_top]
    omega
  have e1 : 9 + tch C + cch Γ0 + cch Δ1 ≤ 47 := by omega
  have e2 : 20 ≤ 9 + tch C + cch Γ0 + cch Δ1 := by omega
  exact zone_l (un := false) (ee := false) (L1 := na1) (Lq := naq) w he (Or.inr ⟨rfl, hΔ⟩) (Or.inr co) (CHo_of_COk f t [] co) ho hb h20 h49 (form_R oC (by omega)) (form_G oC (by omega)) na1_k naq_k na1_w naq_w (gr_R he.1 (by omega)) (gr_G he.1 (by omega)) (na1_z _ _ _ hz kp (by omega) z5 z6 e1 e2) (naq_z _ _ _ hz kp (by omega) z5 z6 e1 e2) (fun c h1 h2 h3 s hs => na1_all m3 m5 h1 h2 h3 hs) (fun c h1 h2 h3 s hs => naq_all m3 m5 h1 h2 h3 hs)
theorem nat_c (w : TWf f (cxs Δ1 Γ0 (tAll tTop C)).length (Δ.map (fun a => a.1)) t) (he : TE (cxs Δ1 Γ0 (tAll tTop C)) Δ) (hΔ : Δ ≠ []) (m6 : 6 ≤ mch t) (ch : CHo f t []) (hz : znv xc0 xc1 o (tch C) (cch Γ0) (cch Δ1) = true) (ho : (∀ b ∈ Γ0, nsch b = true ∨ (o = true ∧ tch b ≤ tch C + 5)) ∧ ∀ b ∈ Δ1, nsch b = true ∨ (o = true ∧ tch b ≤ tch C + 5)) (hb : cch (cxs Δ1 Γ0 (tAll tTop C)) + dch Δ + 2 * mch t ≤ 58) (h20 : 20 ≤ cch (cxs Δ1 Γ0 (tAll tTop C))) (h49 : cch (cxs Δ1 Γ0 (tAll tTop C)) ≤ 47) : NtV (cxs Δ1 Γ0 (tAll tTop C)) Δ f t 887 597 := by
  obtain ⟨oc0, oA⟩ := okc_low Δ1 he.1
  have oC := (ok_all.mp oA).2
  have kp := tch_pos oC
  have z5 := cch_q5 oc0
  have z6 := cxs_q5 he.1
  have ec : cch (cxs Δ1 Γ0 (tAll tTop C)) = 9 + tch C + cch Γ0 + cch Δ1 := by
    rw [cch_cx, tch_all, tch_top]
    omega
  have e1 : 9 + tch C + cch Γ0 + cch Δ1 ≤ 47 := by omega
  have e2 : 20 ≤ 9 + tch C + cch Γ0 + cch Δ1 := by omega
  exact zone_l (un := true) (ee := false) (L1 := nc1) (Lq := ncq) w he (Or.inr ⟨rfl, hΔ⟩) (Or.inl rfl) ch ho hb h20 h49 (form_R oC (by omega)) (form_G oC (by omega)) nc1_k ncq_k nc1_w ncq_w (gr_R he.1 (by omega)) (gr_G he.1 (by omega)) (nc1_z _ _ _ hz kp (by omega) z5 z6 e1 e2) (ncq_z _ _ _ hz kp (by omega) z5 z6 e1 e2) (fun c h1 h2 h3 s hs => nc1_all m6 h1 h2 h3 hs) (fun c h1 h2 h3 s hs => ncq_all m6 h1 h2 h3 hs)
theorem nat_e (w : TWf f (cxs Δ1 Γ0 (tAll tTop C)).length (Δ.map (fun a => a.1)) t) (he : TE (cxs Δ1 Γ0 (tAll tTop C)) Δ) (hΔ : Δ = []) (m3 : 3 ≤ mch t) (ch : CHo f t []) (hz : znv xe0 xe1 o (tch C) (cch Γ0) (cch Δ1) = true) (ho : (∀ b ∈ Γ0, nsch b = true ∨ (o = true ∧ tch b ≤ tch C + 5)) ∧ ∀ b ∈ Δ1, nsch b = true ∨ (o = true ∧ tch b ≤ tch C + 5)) (hb : cch (cxs Δ1 Γ0 (tAll tTop C)) + dch Δ + 2 * mch t ≤ 58) (h20 : 20 ≤ cch (cxs Δ1 Γ0 (tAll tTop C))) (h49 : cch (cxs Δ1 Γ0 (tAll tTop C)) ≤ 47) : NtV (cxs Δ1 Γ0 (tAll tTop C)) Δ f t 887 597 := by
  obtain ⟨oc0, oA⟩ := okc_low Δ1 he.1
  have oC := (ok_all.mp oA).2
  have kp := tch_pos oC
  have z5 := cch_q5 oc0
  have z6 := cxs_q5 he.1
  have ec : cch (cxs Δ1 Γ0 (tAll tTop C)) = 9 + tch C + cch Γ0 + cch Δ1 := by
    rw [cch_cx, tch_all, tch_top]
    omega
  have e1 : 9 + tch C + cch Γ0 + cch Δ1 ≤ 47 := by omega
  have e2 : 20 ≤ 9 + tch C + cch Γ0 + cch Δ1 := by omega
  exact zone_l (un := true) (ee := true) (L1 := ne1) (Lq := neq) w he (Or.inl ⟨rfl, hΔ⟩) (Or.inl rfl) ch ho hb h20 h49 (form_R oC (by omega)) (form_G oC (by omega)) ne1_k neq_k ne1_w neq_w (gr_R he.1 (by omega)) (gr_G he.1 (by omega)) (ne1_z _ _ _ hz kp (by omega) z5 z6 e1 e2) (neq_z _ _ _ hz kp (by omega) z5 z6 e1 e2) (fun c h1 h2 h3 s hs => ne1_all m3 h1 h2 h3 hs) (fun c h1 h2 h3 s hs => neq_all m3 h1 h2 h3 hs)
theorem nat_b (w : TWf f (cxs Δ1 Γ0 (tAll tTop C)).length (Δ.map (fun a => a.1)) t) (he : TE (cxs Δ1 Γ0 (tAll tTop C)) Δ) (hΔ : Δ ≠ []) (m6 : 6 ≤ mch t) (co : COk f t 0) (hz : (tch C, cch Γ0, cch Δ1) ∈ (if o then tb1 else tb0)) (ho : (∀ b ∈ Γ0, nsch b = true ∨ (o = true ∧ tch b ≤ tch C + 5)) ∧ ∀ b ∈ Δ1, nsch b = true ∨ (o = true ∧ tch b ≤ tch C + 5)) (hb : cch (cxs Δ1 Γ0 (tAll tTop C)) + dch Δ + 2 * mch t ≤ 58) (h20 : 20 ≤ cch (cxs Δ1 Γ0 (tAll tTop C))) (h49 : cch (cxs Δ1 Γ0 (tAll tTop C)) ≤ 47) : NtV (cxs Δ1 Γ0 (tAll tTop C)) Δ f t 887 597 := by
  obtain ⟨oc0, oA⟩ := okc_low Δ1 he.1
  have oC := (ok_all.mp oA).2
  have ec : cch (cxs Δ1 Γ0 (tAll tTop C)) = 9 + tch C + cch Γ0 + cch Δ1 := by
    rw [cch_cx, tch_all, tch_top]
    omega
  exact zone_l (un := false) (ee := false) (L1 := yb1) (Lq := ybq) w he (Or.inr ⟨rfl, hΔ⟩) (Or.inr co) (CHo_of_COk f t [] co) ho hb h20 h49 (form_R oC (by omega)) (form_G oC (by omega)) yb1_k ybq_k yb1_w ybq_w (gr_R he.1 (by omega)) (gr_G he.1 (by omega)) (yb1_z hz) (ybq_z hz) (fun c h1 h2 h3 s hs => yb1_all m6 h1 h2 h3 hs) (fun c h1 h2 h3 s hs => ybq_all m6 h1 h2 h3 hs)
theorem nat_wa (w : TWf f (cxs Δ1 Γ0 (tAll tTop C)).length (Δ.map (fun a => a.1)) t) (he : TE (cxs Δ1 Γ0 (tAll tTop C)) Δ) (hΔ : Δ ≠ []) (m3 : 3 ≤ mch t) (m5 : mch t < 6) (co : COk f t 0) (hp : phf (fun _ => true) C = true) (kd : kdt C = 1 ∨ kdt C = 4) (hz : (tch C, cch Γ0, cch Δ1) ∈ (if o then twa1 else twa0)) (ho : (∀ b ∈ Γ0, nsch b = true ∨ (o = true ∧ tch b ≤ tch C + 5)) ∧ ∀ b ∈ Δ1, nsch b = true ∨ (o = true ∧ tch b ≤ tch C + 5)) (hb : cch (cxs Δ1 Γ0 (tAll tTop C)) + dch Δ + 2 * mch t ≤ 58) (h20 : 20 ≤ cch (cxs Δ1 Γ0 (tAll tTop C))) (h49 : cch (cxs Δ1 Γ0 (tAll tTop C)) ≤ 47) : NtV (cxs Δ1 Γ0 (tAll tTop C)) Δ f t 887 597 := by
  obtain ⟨oc0, oA⟩ := okc_low Δ1 he.1
  have oC := (ok_all.mp oA).2
  have ec : cch (cxs Δ1 Γ0 (tAll tTop C)) = 9 + tch C + cch Γ0 + cch Δ1 := by
    rw [cch_cx, tch_all, tch_top]
    omega
  exact zone_l (un := false) (ee := false) (L1 := ywa1) (Lq := ywaq) w he (Or.inr ⟨rfl, hΔ⟩) (Or.inr co) (CHo_of_COk f t [] co) ho hb h20 h49 (yw_R oC (by omega) hp kd) (yw_G oC (by omega) hp kd) ywa1_k ywaq_k ywa1_w ywaq_w (gr_R he.1 (by omega)) (gr_G he.1 (by omega)) (ywa1_z hz) (ywaq_z hz) (fun c h1 h2 h3 s hs => ywa1_all m3 m5 h1 h2 h3 hs) (fun c h1 h2 h3 s hs => ywaq_all m3 m5 h1 h2 h3 hs)
theorem nat_wc (w : TWf f (cxs Δ1 Γ0 (tAll tTop C)).length (Δ.map (fun a => a.1)) t) (he : TE (cxs Δ1 Γ0 (tAll tTop C)) Δ) (hΔ : Δ ≠ []) (m6 : 6 ≤ mch t) (ch : CHo f t []) (hp : phf (fun _ => true) C = true) (kd : kdt C = 1 ∨ kdt C = 4) (hz : (tch C, cch Γ0, cch Δ1) ∈ (if o then twc1 else twc0)) (ho : (∀ b ∈ Γ0, nsch b = true ∨ (o = true ∧ tch b ≤ tch C + 5)) ∧ ∀ b ∈ Δ1, nsch b = true ∨ (o = true ∧ tch b ≤ tch C + 5)) (hb : cch (cxs Δ1 Γ0 (tAll tTop C)) + dch Δ + 2 * mch t ≤ 58) (h20 : 20 ≤ cch (cxs Δ1 Γ0 (tAll tTop C))) (h49 : cch (cxs Δ1 Γ0 (tAll tTop C)) ≤ 47) : NtV (cxs Δ1 Γ0 (tAll tTop C)) Δ f t 887 597 := by
  obtain ⟨oc0, oA⟩ := okc_low Δ1 he.1
  have oC := (ok_all.mp oA).2
  have ec : cch (cxs Δ1 Γ0 (tAll tTop C)) = 9 + tch C + cch Γ0 + cch Δ1 := by
    rw [cch_cx, tch_all, tch_top]
    omega
  exact zone_l (un := true) (ee := false) (L1 := ywc1) (Lq := ywcq) w he (Or.inr ⟨rfl, hΔ⟩) (Or.inl rfl) ch ho hb h20 h49 (yw_R oC (by omega) hp kd) (yw_G oC (by omega) hp kd) ywc1_k ywcq_k ywc1_w ywcq_w (gr_R he.1 (by omega)) (gr_G he.1 (by omega)) (ywc1_z hz) (ywcq_z hz) (fun c h1 h2 h3 s hs => ywc1_all m6 h1 h2 h3 hs) (fun c h1 h2 h3 s hs => ywcq_all m6 h1 h2 h3 hs)
theorem nat_we (w : TWf f (cxs Δ1 Γ0 (tAll tTop C)).length (Δ.map (fun a => a.1)) t) (he : TE (cxs Δ1 Γ0 (tAll tTop C)) Δ) (hΔ : Δ = []) (m3 : 3 ≤ mch t) (ch : CHo f t []) (hp : phf (fun _ => true) C = true) (kd : kdt C = 1 ∨ kdt C = 4) (hz : (tch C, cch Γ0, cch Δ1) ∈ (if o then twe1 else twe0)) (ho : (∀ b ∈ Γ0, nsch b = true ∨ (o = true ∧ tch b ≤ tch C + 5)) ∧ ∀ b ∈ Δ1, nsch b = true ∨ (o = true ∧ tch b ≤ tch C + 5)) (hb : cch (cxs Δ1 Γ0 (tAll tTop C)) + dch Δ + 2 * mch t ≤ 58) (h20 : 20 ≤ cch (cxs Δ1 Γ0 (tAll tTop C))) (h49 : cch (cxs Δ1 Γ0 (tAll tTop C)) ≤ 47) : NtV (cxs Δ1 Γ0 (tAll tTop C)) Δ f t 887 597 := by
  obtain ⟨oc0, oA⟩ := okc_low Δ1 he.1
  have oC := (ok_all.mp oA).2
  have ec : cch (cxs Δ1 Γ0 (tAll tTop C)) = 9 + tch C + cch Γ0 + cch Δ1 := by
    rw [cch_cx, tch_all, tch_top]
    omega
  exact zone_l (un := true) (ee := true) (L1 := ywe1) (Lq := yweq) w he (Or.inl ⟨rfl, hΔ⟩) (Or.inl rfl) ch ho hb h20 h49 (yw_R oC (by omega) hp kd) (yw_G oC (by omega) hp kd) ywe1_k yweq_k ywe1_w yweq_w (gr_R he.1 (by omega)) (gr_G he.1 (by omega)) (ywe1_z hz) (yweq_z hz) (fun c h1 h2 h3 s hs => ywe1_all m3 h1 h2 h3 hs) (fun c h1 h2 h3 s hs => yweq_all m3 h1 h2 h3 hs)
theorem nat_va (w : TWf f (cxs Δ1 Γ0 (tAll tTop C)).length (Δ.map (fun a => a.1)) t) (he : TE (cxs Δ1 Γ0 (tAll tTop C)) Δ) (hΔ : Δ ≠ []) (m3 : 3 ≤ mch t) (m5 : mch t < 6) (co : COk f t 0) (hp : phf (fun _ => true) C = true) (hz : (tch C, cch Γ0, cch Δ1) ∈ (if o then tva1 else tva0)) (ho : (∀ b ∈ Γ0, nsch b = true ∨ (o = true ∧ tch b ≤ tch C + 5)) ∧ ∀ b ∈ Δ1, nsch b = true ∨ (o = true ∧ tch b ≤ tch C + 5)) (hb : cch (cxs Δ1 Γ0 (tAll tTop C)) + dch Δ + 2 * mch t ≤ 58) (h20 : 20 ≤ cch (cxs Δ1 Γ0 (tAll tTop C))) (h49 : cch (cxs Δ1 Γ0 (tAll tTop C)) ≤ 47) : NtV (cxs Δ1 Γ0 (tAll tTop C)) Δ f t 887 597 := by
  obtain ⟨oc0, oA⟩ := okc_low Δ1 he.1
  have oC := (ok_all.mp oA).2
  have ec : cch (cxs Δ1 Γ0 (tAll tTop C)) = 9 + tch C + cch Γ0 + cch Δ1 := by
    rw [cch_cx, tch_all, tch_top]
    omega
  exact zone_l (un := false) (ee := false) (L1 := yva1) (Lq := yvaq) w he (Or.inr ⟨rfl, hΔ⟩) (Or.inr co) (CHo_of_COk f t [] co) ho hb h20 h49 (yv_R oC (by omega) hp) (yv_G oC (by omega) hp) yva1_k yvaq_k yva1_w yvaq_w (gr_R he.1 (by omega)) (gr_G he.1 (by omega)) (yva1_z hz) (yvaq_z hz) (fun c h1 h2 h3 s hs => yva1_all m3 m5 h1 h2 h3 hs) (fun c h1 h2 h3 s hs => yvaq_all m3 m5 h1 h2 h3 hs)
theorem nat_vc (w : TWf f (cxs Δ1 Γ0 (tAll tTop C)).length (Δ.map (fun a => a.1)) t) (he : TE (cxs Δ1 Γ0 (tAll tTop C)) Δ) (hΔ : Δ ≠ []) (m6 : 6 ≤ mch t) (ch : CHo f t []) (hp : phf (fun _ => true) C = true) (hz : (tch C, cch Γ0, cch Δ1) ∈ (if o then tvc1 else tvc0)) (ho : (∀ b ∈ Γ0, nsch b = true ∨ (o = true ∧ tch b ≤ tch C + 5)) ∧ ∀ b ∈ Δ1, nsch b = true ∨ (o = true ∧ tch b ≤ tch C + 5)) (hb : cch (cxs Δ1 Γ0 (tAll tTop C)) + dch Δ + 2 * mch t ≤ 58) (h20 : 20 ≤ cch (cxs Δ1 Γ0 (tAll tTop C))) (h49 : cch (cxs Δ1 Γ0 (tAll tTop C)) ≤ 47) : NtV (cxs Δ1 Γ0 (tAll tTop C)) Δ f t 887 597 := by
  obtain ⟨oc0, oA⟩ := okc_low Δ1 he.1
  have oC := (ok_all.mp oA).2
  have ec : cch (cxs Δ1 Γ0 (tAll tTop C)) = 9 + tch C + cch Γ0 + cch Δ1 := by
    rw [cch_cx, tch_all, tch_top]
    omega
  exact zone_l (un := true) (ee := false) (L1 := yvc1) (Lq := yvcq) w he (Or.inr ⟨rfl, hΔ⟩) (Or.inl rfl) ch ho hb h20 h49 (yv_R oC (by omega) hp) (yv_G oC (by omega) hp) yvc1_k yvcq_k yvc1_w yvcq_w (gr_R he.1 (by omega)) (gr_G he.1 (by omega)) (yvc1_z hz) (yvcq_z hz) (fun c h1 h2 h3 s hs => yvc1_all m6 h1 h2 h3 hs) (fun c h1 h2 h3 s hs => yvcq_all m6 h1 h2 h3 hs)
theorem nat_ve (w : TWf f (cxs Δ1 Γ0 (tAll tTop C)).length (Δ.map (fun a => a.1)) t) (he : TE (cxs Δ1 Γ0 (tAll tTop C)) Δ) (hΔ : Δ = []) (m3 : 3 ≤ mch t) (ch : CHo f t []) (hp : phf (fun _ => true) C = true) (hz : (tch C, cch Γ0, cch Δ1) ∈ (if o then tve1 else tve0)) (ho : (∀ b ∈ Γ0, nsch b = true ∨ (o = true ∧ tch b ≤ tch C + 5)) ∧ ∀ b ∈ Δ1, nsch b = true ∨ (o = true ∧ tch b ≤ tch C + 5)) (hb : cch (cxs Δ1 Γ0 (tAll tTop C)) + dch Δ + 2 * mch t ≤ 58) (h20 : 20 ≤ cch (cxs Δ1 Γ0 (tAll tTop C))) (h49 : cch (cxs Δ1 Γ0 (tAll tTop C)) ≤ 47) : NtV (cxs Δ1 Γ0 (tAll tTop C)) Δ f t 887 597 := by
  obtain ⟨oc0, oA⟩ := okc_low Δ1 he.1
  have oC := (ok_all.mp oA).2
  have ec : cch (cxs Δ1 Γ0 (tAll tTop C)) = 9 + tch C + cch Γ0 + cch Δ1 := by
    rw [cch_cx, tch_all, tch_top]
    omega
  exact zone_l (un := true) (ee := true) (L1 := yve1) (Lq := yveq) w he (Or.inl ⟨rfl, hΔ⟩) (Or.inl rfl) ch ho hb h20 h49 (yv_R oC (by omega) hp) (yv_G oC (by omega) hp) yve1_k yveq_k yve1_w yveq_w (gr_R he.1 (by omega)) (gr_G he.1 (by omega)) (yve1_z hz) (yveq_z hz) (fun c h1 h2 h3 s hs => yve1_all m3 h1 h2 h3 hs) (fun c h1 h2 h3 s hs => yveq_all m3 h1 h2 h3 hs)
theorem nat_za (w : TWf f (cxs Δ1 Γ0 (tAll tTop C)).length (Δ.map (fun a => a.1)) t) (he : TE (cxs Δ1 Γ0 (tAll tTop C)) Δ) (hΔ : Δ ≠ []) (m3 : 3 ≤ mch t) (m5 : mch t < 6) (co : COk f t 0) (hfl : ∃ b ∈ Δ1, noh 0 b = false) (hz : (tch C, cch Γ0, cch Δ1) ∈ (if o then tza1 else tza0)) (ho : (∀ b ∈ Γ0, nsch b = true ∨ (o = true ∧ tch b ≤ tch C + 5)) ∧ ∀ b ∈ Δ1, nsch b = true ∨ (o = true ∧ tch b ≤ tch C + 5)) (hb : cch (cxs Δ1 Γ0 (tAll tTop C)) + dch Δ + 2 * mch t ≤ 58) (h20 : 20 ≤ cch (cxs Δ1 Γ0 (tAll tTop C))) (h49 : cch (cxs Δ1 Γ0 (tAll tTop C)) ≤ 47) : NtV (cxs Δ1 Γ0 (tAll tTop C)) Δ f t 887 597 := by
  obtain ⟨oc0, oA⟩ := okc_low Δ1 he.1
  have oC := (ok_all.mp oA).2
  have ec : cch (cxs Δ1 Γ0 (tAll tTop C)) = 9 + tch C + cch Γ0 + cch Δ1 := by
    rw [cch_cx, tch_all, tch_top]
    omega
  exact zone_l (un := false) (ee := false) (L1 := yza1) (Lq := yzaq) w he (Or.inr ⟨rfl, hΔ⟩) (Or.inr co) (CHo_of_COk f t [] co) ho hb h20 h49 (form_R oC (by omega)) (form_G oC (by omega)) yza1_k yzaq_k yza1_w yzaq_w (grf_R he.1 (by omega) hfl) (grf_G he.1 (by omega) hfl) (yza1_z hz) (yzaq_z hz) (fun c h1 h2 h3 s hs => yza1_all m3 m5 h1 h2 h3 hs) (fun c h1 h2 h3 s hs => yzaq_all m3 m5 h1 h2 h3 hs)
theorem nat_zb (w : TWf f (cxs Δ1 Γ0 (tAll tTop C)).length (Δ.map (fun a => a.1)) t) (he : TE (cxs Δ1 Γ0 (tAll tTop C)) Δ) (hΔ : Δ ≠ []) (m6 : 6 ≤ mch t) (co : COk f t 0) (hfl : ∃ b ∈ Δ1, noh 0 b = false) (hz : (tch C, cch Γ0, cch Δ1) ∈ (if o then tzb1 else tzb0)) (ho : (∀ b ∈ Γ0, nsch b = true ∨ (o = true ∧ tch b ≤ tch C + 5)) ∧ ∀ b ∈ Δ1, nsch b = true ∨ (o = true ∧ tch b ≤ tch C + 5)) (hb : cch (cxs Δ1 Γ0 (tAll tTop C)) + dch Δ + 2 * mch t ≤ 58) (h20 : 20 ≤ cch (cxs Δ1 Γ0 (tAll tTop C))) (h49 : cch (cxs Δ1 Γ0 (tAll tTop C)) ≤ 47) : NtV (cxs Δ1 Γ0 (tAll tTop C)) Δ f t 887 597 := by
  obtain ⟨oc0, oA⟩ := okc_low Δ1 he.1
  have oC := (ok_all.mp oA).2
  have ec : cch (cxs Δ1 Γ0 (tAll tTop C)) = 9 + tch C + cch Γ0 + cch Δ1 := by
    rw [cch_cx, tch_all, tch_top]
    omega
  exact zone_l (un := false) (ee := false) (L1 := yzb1) (Lq := yzbq) w he (Or.inr ⟨rfl, hΔ⟩) (Or.inr co) (CHo_of_COk f t [] co) ho hb h20 h49 (form_R oC (by omega)) (form_G oC (by omega)) yzb1_k yzbq_k yzb1_w yzbq_w (grf_R he.1 (by omega) hfl) (grf_G he.1 (by omega) hfl) (yzb1_z hz) (yzbq_z hz) (fun c h1 h2 h3 s hs => yzb1_all m6 h1 h2 h3 hs) (fun c h1 h2 h3 s hs => yzbq_all m6 h1 h2 h3 hs)
theorem nat_zc (w : TWf f (cxs Δ1 Γ0 (tAll tTop C)).length (Δ.map (fun a => a.1)) t) (he : TE (cxs Δ1 Γ0 (tAll tTop C)) Δ) (hΔ : Δ ≠ []) (m6 : 6 ≤ mch t) (ch : CHo f t []) (hfl : ∃ b ∈ Δ1, noh 0 b = false) (hz : (tch C, cch Γ0, cch Δ1) ∈ (if o then tzc1 else tzc0)) (ho : (∀ b ∈ Γ0, nsch b = true ∨ (o = true ∧ tch b ≤ tch C + 5)) ∧ ∀ b ∈ Δ1, nsch b = true ∨ (o = true ∧ tch b ≤ tch C + 5)) (hb : cch (cxs Δ1 Γ0 (tAll tTop C)) + dch Δ + 2 * mch t ≤ 58) (h20 : 20 ≤ cch (cxs Δ1 Γ0 (tAll tTop C))) (h49 : cch (cxs Δ1 Γ0 (tAll tTop C)) ≤ 47) : NtV (cxs Δ1 Γ0 (tAll tTop C)) Δ f t 887 597 := by
  obtain ⟨oc0, oA⟩ := okc_low Δ1 he.1
  have oC := (ok_all.mp oA).2
  have ec : cch (cxs Δ1 Γ0 (tAll tTop C)) = 9 + tch C + cch Γ0 + cch Δ1 := by
    rw [cch_cx, tch_all, tch_top]
    omega
  exact zone_l (un := true) (ee := false) (L1 := yzc1) (Lq := yzcq) w he (Or.inr ⟨rfl, hΔ⟩) (Or.inl rfl) ch ho hb h20 h49 (form_R oC (by omega)) (form_G oC (by omega)) yzc1_k yzcq_k yzc1_w yzcq_w (grf_R he.1 (by omega) hfl) (grf_G he.1 (by omega) hfl) (yzc1_z hz) (yzcq_z hz) (fun c h1 h2 h3 s hs => yzc1_all m6 h1 h2 h3 hs) (fun c h1 h2 h3 s hs => yzcq_all m6 h1 h2 h3 hs)
theorem nat_ze (w : TWf f (cxs Δ1 Γ0 (tAll tTop C)).length (Δ.map (fun a => a.1)) t) (he : TE (cxs Δ1 Γ0 (tAll tTop C)) Δ) (hΔ : Δ = []) (m3 : 3 ≤ mch t) (ch : CHo f t []) (hfl : ∃ b ∈ Δ1, noh 0 b = false) (hz : (tch C, cch Γ0, cch Δ1) ∈ (if o then tze1 else tze0)) (ho : (∀ b ∈ Γ0, nsch b = true ∨ (o = true ∧ tch b ≤ tch C + 5)) ∧ ∀ b ∈ Δ1, nsch b = true ∨ (o = true ∧ tch b ≤ tch C + 5)) (hb : cch (cxs Δ1 Γ0 (tAll tTop C)) + dch Δ + 2 * mch t ≤ 58) (h20 : 20 ≤ cch (cxs Δ1 Γ0 (tAll tTop C))) (h49 : cch (cxs Δ1 Γ0 (tAll tTop C)) ≤ 47) : NtV (cxs Δ1 Γ0 (tAll tTop C)) Δ f t 887 597 := by
  obtain ⟨oc0, oA⟩ := okc_low Δ1 he.1
  have oC := (ok_all.mp oA).2
  have ec : cch (cxs Δ1 Γ0 (tAll tTop C)) = 9 + tch C + cch Γ0 + cch Δ1 := by
    rw [cch_cx, tch_all, tch_top]
    omega
  exact zone_l (un := true) (ee := true) (L1 := yze1) (Lq := yzeq) w he (Or.inl ⟨rfl, hΔ⟩) (Or.inl rfl) ch ho hb h20 h49 (form_R oC (by omega)) (form_G oC (by omega)) yze1_k yzeq_k yze1_w yzeq_w (grf_R he.1 (by omega) hfl) (grf_G he.1 (by omega) hfl) (yze1_z hz) (yzeq_z hz) (fun c h1 h2 h3 s hs => yze1_all m3 h1 h2 h3 hs) (fun c h1 h2 h3 s hs => yzeq_all m3 h1 h2 h3 hs)
end PmY9
