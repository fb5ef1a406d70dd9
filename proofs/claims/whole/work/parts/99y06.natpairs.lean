/-! BY NATURE, pairs: the shorter term has 3 to 5 characters, or more and no choice under an operation, or choices that stand under one instance at most. -/
section PmY6
variable {f : Nat} {t C : Ty} {Γ0 Δ1 : List Ty} {Δ : List (Nat × Ty × Nat)} {o : Bool}
theorem nat_a (w : TWf f (cxs Δ1 Γ0 (tAll tTop C)).length (Δ.map (fun a => a.1)) t) (he : TE (cxs Δ1 Γ0 (tAll tTop C)) Δ) (m3 : 3 ≤ mch t) (m5 : mch t < 6) (co : COk f t 0) (hz : znv xa0 xa1 o (tch C) (cch Γ0) (cch Δ1) = true) (ho : (∀ b ∈ Γ0, nsch b = true ∨ (o = true ∧ tch b ≤ tch C + 5)) ∧ ∀ b ∈ Δ1, nsch b = true ∨ (o = true ∧ tch b ≤ tch C + 5)) (hb : cch (cxs Δ1 Γ0 (tAll tTop C)) + dch Δ + 2 * mch t ≤ 58) (h20 : 20 ≤ cch (cxs Δ1 Γ0 (tAll tTop C))) (h49 : cch (cxs Δ1 Γ0 (tAll tTop C)) ≤ 47) : NtV (cxs Δ1 Γ0 (tAll tTop C)) Δ f t 887 597 := by
  obtain ⟨oc0, oA⟩ := okc_low Δ1 he.1
  have oC := (ok_all.mp oA).2
  have kp := tch_pos oC
  have z5 := cch_q5 oc0
  have z6 := cxs_q5 he.1
  have ec : cch (cxs Δ1 Γ0 (tAll tTop C)) = 9 + tch C + cch Γ0 + cch Δ1 := by
    rw [cch_cx, tch_all, tch_top]
    omega
  have e1 : 9 + tch C + cch Γ0 + cch Δ1 ≤ 47 := by omega
  have e2 : 20 ≤ 9 + tch C + cch Γ0 + cch Δ1 := by omega
  exact zone_l (un := false) (L1 := na1) (Lq := naq) w he (Or.inr co) (CHo_of_COk f t [] co) ho hb h20 h49 (form_R oC (by omega)) (form_G oC (by omega)) na1_k naq_k na1_w naq_w (na1_z _ _ _ hz kp (by omega) z5 z6 e1 e2) (naq_z _ _ _ hz kp (by omega) z5 z6 e1 e2) (fun c h1 h2 h3 s hs => na1_all m3 m5 h1 h2 h3 hs) (fun c h1 h2 h3 s hs => naq_all m3 m5 h1 h2 h3 hs)
theorem nat_b (w : TWf f (cxs Δ1 Γ0 (tAll tTop C)).length (Δ.map (fun a => a.1)) t) (he : TE (cxs Δ1 Γ0 (tAll tTop C)) Δ) (m6 : 6 ≤ mch t) (co : COk f t 0) (hz : znv xb0 xb1 o (tch C) (cch Γ0) (cch Δ1) = true) (ho : (∀ b ∈ Γ0, nsch b = true ∨ (o = true ∧ tch b ≤ tch C + 5)) ∧ ∀ b ∈ Δ1, nsch b = true ∨ (o = true ∧ tch b ≤ tch C + 5)) (hb : cch (cxs Δ1 Γ0 (tAll tTop C)) + dch Δ + 2 * mch t ≤ 58) (h20 : 20 ≤ cch (cxs Δ1 Γ0 (tAll tTop C))) (h49 : cch (cxs Δ1 Γ0 (tAll tTop C)) ≤ 47) : NtV (cxs Δ1 Γ0 (tAll tTop C)) Δ f t 887 597 := by
  obtain ⟨oc0, oA⟩ := okc_low Δ1 he.1
  have oC := (ok_all.mp oA).2
  have kp := tch_pos oC
  have z5 := cch_q5 oc0
  have z6 := cxs_q5 he.1
  have ec : cch (cxs Δ1 Γ0 (tAll tTop C)) = 9 + tch C + cch Γ0 + cch Δ1 := by
    rw [cch_cx, tch_all, tch_top]
    omega
  have e1 : 9 + tch C + cch Γ0 + cch Δ1 ≤ 47 := by omega
  have e2 : 20 ≤ 9 + tch C + cch Γ0 + cch Δ1 := by omega
  exact zone_l (un := false) (L1 := nb1) (Lq := nbq) w he (Or.inr co) (CHo_of_COk f t [] co) ho hb h20 h49 (form_R oC (by omega)) (form_G oC (by omega)) nb1_k nbq_k nb1_w nbq_w (nb1_z _ _ _ hz kp (by omega) z5 z6 e1 e2) (nbq_z _ _ _ hz kp (by omega) z5 z6 e1 e2) (fun c h1 h2 h3 s hs => nb1_all m6 h1 h2 h3 hs) (fun c h1 h2 h3 s hs => nbq_all m6 h1 h2 h3 hs)
theorem nat_c (w : TWf f (cxs Δ1 Γ0 (tAll tTop C)).length (Δ.map (fun a => a.1)) t) (he : TE (cxs Δ1 Γ0 (tAll tTop C)) Δ) (m6 : 6 ≤ mch t) (ch : CHo f t []) (hz : znv xc0 xc1 o (tch C) (cch Γ0) (cch Δ1) = true) (ho : (∀ b ∈ Γ0, nsch b = true ∨ (o = true ∧ tch b ≤ tch C + 5)) ∧ ∀ b ∈ Δ1, nsch b = true ∨ (o = true ∧ tch b ≤ tch C + 5)) (hb : cch (cxs Δ1 Γ0 (tAll tTop C)) + dch Δ + 2 * mch t ≤ 58) (h20 : 20 ≤ cch (cxs Δ1 Γ0 (tAll tTop C))) (h49 : cch (cxs Δ1 Γ0 (tAll tTop C)) ≤ 47) : NtV (cxs Δ1 Γ0 (tAll tTop C)) Δ f t 887 597 := by
  obtain ⟨oc0, oA⟩ := okc_low Δ1 he.1
  have oC := (ok_all.mp oA).2
  have kp := tch_pos oC
  have z5 := cch_q5 oc0
  have z6 := cxs_q5 he.1
  have ec : cch (cxs Δ1 Γ0 (tAll tTop C)) = 9 + tch C + cch Γ0 + cch Δ1 := by
    rw [cch_cx, tch_all, tch_top]
    omega
  have e1 : 9 + tch C + cch Γ0 + cch Δ1 ≤ 47 := by omega
  have e2 : 20 ≤ 9 + tch C + cch Γ0 + cch Δ1 := by omega
  exact zone_l (un := true) (L1 := nc1) (Lq := ncq) w he (Or.inl rfl) ch ho hb h20 h49 (form_R oC (by omega)) (form_G oC (by omega)) nc1_k ncq_k nc1_w ncq_w (nc1_z _ _ _ hz kp (by omega) z5 z6 e1 e2) (ncq_z _ _ _ hz kp (by omega) z5 z6 e1 e2) (fun c h1 h2 h3 s hs => nc1_all m6 h1 h2 h3 hs) (fun c h1 h2 h3 s hs => ncq_all m6 h1 h2 h3 hs)
end PmY6
