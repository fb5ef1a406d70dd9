/-! NO NAMES AROUND. -/
section PmJb
variable {f : Nat} {t b b' B C : Ty} {Γ0 Δ1 : List Ty} {Δ : List (Nat × Ty × Nat)} {un e : Bool} {LR LG : LnT} {c0 c1 m0 m1 : Nat}
theorem zone_jd (lb : LBd Γ0 Δ1 b b' B C) (w : TWf f (cxs Δ1 Γ0 b).length (Δ.map (fun a => a.1)) t) (he : TE (cxs Δ1 Γ0 b) Δ) (hΔ : (e = true ∧ Δ = []) ∨ (e = false ∧ 5 ≤ 58 - 2 * mch t - cch (cxs Δ1 Γ0 b))) (cu : un = true ∨ COk f t 0) (ch : CHo f t []) (zR : liz LR xr1 fr1 fg1 1 3 (kpz fr1 0 (max 1 (fx1.getD (cch Γ0) 0)) (tch b - tch (tAll B C))) (wbz fr1 1 (max 1 (fx1.getD (cch Γ0) 0)) (tch B)) (max 1 (fx1.getD (cch Γ0) 0)) (ojy (tch C) (tch b - tch (tAll B C)) (cch Γ0) (cch Δ1)) (tch C) (cch Δ1) (cch (cxs Δ1 Γ0 b)) = true) (zG : liz LG xrq frq fgq 0 1 (kpz frq 1 (max 1 (fxq.getD (cch Γ0) 0)) (tch b - tch (tAll B C))) (wbz frq 0 (max 1 (fxq.getD (cch Γ0) 0)) (tch B)) (max 1 (fxq.getD (cch Γ0) 0)) (ojy (tch C) (tch b - tch (tAll B C)) (cch Γ0) (cch Δ1)) (tch C) (cch Δ1) (cch (cxs Δ1 Γ0 b)) = true) (tR : lnf un e LR fr1 fg1 1 2 3 2 2 2 2 887 c0 c1 m0 m1 = true) (tG : lnf un e LG frq fgq 0 1 1 1 3 2 1 597 c0 c1 m0 m1 = true) (h0 : c0 ≤ cch (cxs Δ1 Γ0 b)) (h1 : cch (cxs Δ1 Γ0 b) < c1) (g0 : m0 ≤ mch t) (g1 : mch t < m1) (h47 : cch (cxs Δ1 Γ0 b) ≤ 47) (q38 : cch Δ1 ≤ 38) (hb : cch (cxs Δ1 Γ0 b) + dch Δ + 2 * mch t ≤ 58) : NtV (cxs Δ1 Γ0 b) Δ f t 887 597 := by
  obtain ⟨ds, eT, eB, k40, i0, i1⟩ := lb
  obtain ⟨oc0, oB⟩ := okc_low Δ1 he.1
  have ec := cch_cx (Γ0 := Γ0) (β := b) Δ1
  have oσ := ds.2.1
  have oBB := (ok_all.mp oσ).1
  have oC := (ok_all.mp oσ).2
  have pB := tch_pos oBB
  have pC := tch_pos oC
  have cσ := ds.ch
  have pb' := ds.2.2.1
  have eσ := tch_all B C
  have b0 : ∀ a ∈ Γ0, OBs (ojy (tch C) (tch b - tch (tAll B C)) (cch Γ0) (cch Δ1)) a := fun a ha => by
    obtain ⟨d, o1, o2⟩ := okc_mch oc0 ha
    exact OBs_of o1 o2 k40 (i0 a ha) (Nat.le_max_left _ _)
  have b1 : ∀ a ∈ Δ1, OBs (ojy (tch C) (tch b - tch (tAll B C)) (cch Γ0) (cch Δ1)) a := fun a ha => by
    obtain ⟨d, o1, o2⟩ := okc_top Δ1 he.1 a ha
    exact OBs_of o1 o2 k40 (i1 a ha) (Nat.le_trans (Nat.le_max_left _ _) (Nat.le_max_right _ _))
  have bs : ∀ B' C', ok Γ0.length (tAll B' C') = true → tch C' ≤ tch C → tch (tAll B' C') + tch (tAll B C) + 5 ≤ tch b → tch C' ≤ 40 ∧ lmx xr1 (tch C') ≤ ojy (tch C) (tch b - tch (tAll B C)) (cch Γ0) (cch Δ1) ∧ lmx fr1 (tch C') ≤ ojy (tch C) (tch b - tch (tAll B C)) (cch Γ0) (cch Δ1) := by
    intro B' C' o' l1 l2
    have p1 := tch_pos (ok_all.mp o').1
    have e1 := tch_all B' C'
    have m1 := lmx_mono fr1 (show tch C' ≤ min (tch C) (tch b - tch (tAll B C) - 10) by omega)
    have m2 := lmx_xf (tch C') (by omega)
    have m3 : lmx fr1 (min (tch C) (tch b - tch (tAll B C) - 10)) ≤ ojy (tch C) (tch b - tch (tAll B C)) (cch Γ0) (cch Δ1) := Nat.le_trans (Nat.le_max_right _ _) (Nat.le_max_right _ _)
    exact ⟨by omega, by omega, by omega⟩
  have hch : CHo f t (([] : Stk).map Option.isSome) := ch
  refine fun S hS => ⟨fun d => ?_, ?_⟩
  · have T := tbs1 d
    have l0 := onz_len 0 (fun _ => 1 + 1) (2 + 1) (vlr d 1) Γ0
    have hω : ∀ j, j < (onz 0 (fun _ => 1 + 1) (2 + 1) (vlr d 1) Γ0).length → vw (onz 0 (fun _ => 1 + 1) (2 + 1) (vlr d 1) Γ0) j ≤ max 1 (fx1.getD (cch Γ0) 0) := fun j hj => Nat.le_trans (onz_chars (n1 := fun _ => 1 + 1) T.1 T.2.1 T.2.2.1 T.2.2.2.1 T.2.2.2.2.1 Γ0 oc0 (by omega) j (by rw [l0] at hj; exact hj)) (Nat.le_max_right _ _)
    obtain ⟨v, hv, f1, f2⟩ := xr_form (n1 := fun _ => 1 + 1) (hv := 1) xr1_ok T.2.2.2.1 T.2.2.2.2.1 _ C (Γ0.length + 1) (Nat.le_refl _) oC k40
    have hκ : nz 0 (fun _ => 1 + 1) (2 + 1) (vlr d 1) (onz 0 (fun _ => 1 + 1) (2 + 1) (vlr d 1) Γ0) b' ≤ kpz fr1 0 (max 1 (fx1.getD (cch Γ0) 0)) (tch b - tch (tAll B C)) := by
      unfold kpz
      by_cases q : tch b - tch (tAll B C) = 0
      · rw [if_pos (show Nat.beq (tch b - tch (tAll B C)) 0 = true by rw [q]; rfl)]
        rw [eT (by omega), nz_top]
        exact Nat.le_refl _
      · rw [if_neg (by intro q'; exact q (Nat.eq_of_beq_eq_true q'))]
        exact Nat.le_trans (Zx_le T (x := max 1 (fx1.getD (cch Γ0) 0)) (A := b') (by rw [l0]; exact ds.1) (by omega) (Nat.le_max_left _ _) hω) (Zx_ms fr1_m (by omega) (by omega))
    have hwB : vlr d 1 (nz 0 (fun _ => 1 + 1) (2 + 1) (vlr d 1) (onz 0 (fun _ => 1 + 1) (2 + 1) (vlr d 1) Γ0) B) ≤ wbz fr1 1 (max 1 (fx1.getD (cch Γ0) 0)) (tch B) := by
      have q2 := vlr_one d (nz 0 (fun _ => 1 + 1) (2 + 1) (vlr d 1) (onz 0 (fun _ => 1 + 1) (2 + 1) (vlr d 1) Γ0) B)
      unfold wbz
      by_cases q : tch B = 1
      · rw [if_pos (show Nat.beq (tch B) 1 = true by rw [q]; rfl)]
        rw [eB q, nz_top] at q2 ⊢
        omega
      · rw [if_neg (by intro q'; exact q (Nat.eq_of_beq_eq_true q'))]
        have q3 : nz 0 (fun _ => 1 + 1) (2 + 1) (vlr d 1) (onz 0 (fun _ => 1 + 1) (2 + 1) (vlr d 1) Γ0) B ≤ Zx fr1 (max 1 (fx1.getD (cch Γ0) 0)) (tch B + 2) := Zx_le T (by rw [l0]; exact oBB) (by omega) (Nat.le_max_left _ _) hω
        generalize nz 0 (fun _ => 1 + 1) (2 + 1) (vlr d 1) (onz 0 (fun _ => 1 + 1) (2 + 1) (vlr d 1) Γ0) B = n9 at *
        generalize Zx fr1 (max 1 (fx1.getD (cch Γ0) 0)) (tch B + 2) = z9 at *
        omega
    rcases hΔ with ⟨ee, cΔ⟩ | ⟨ee, cΔ⟩
    · refine gen_zj (un := un) (a5 := 5) (cd := 0) (NC_rows d 1) (vlr_mono d 1) (vlr_lip d 1) T fr1_m fg1_ok fg1_m fg1s_1 (by decide) (vlr_one d) (by decide) ds w he cu (by omega) (by rw [cΔ]; exact Nat.le_refl _) (Nat.zero_le _) (Nat.le_refl _) (fun e => absurd cΔ e) b0 b1 bs q38 (by omega) (Nat.le_refl _) hκ hwB f1 f2 (fun E Z aq hE => GH_natc (E := E) (Z := Z) (NC_rows d 1) (vlr_mono d 1) f t [] _ _ Δ w he hch aq (onz_cv (NC_rows d 1) he.1) hE) (fun p hp u hu => ?_) hS
      obtain ⟨s, m, q⟩ := liz_get zR v hv p hp u hu
      exact ⟨s, q, (lnf_get tR h0 h1 g0 g1 (by omega) m).2 ee⟩
    · refine gen_zj (un := un) (a5 := 0) (cd := 58 - 2 * mch t - cch (cxs Δ1 Γ0 b)) (NC_rows d 1) (vlr_mono d 1) (vlr_lip d 1) T fr1_m fg1_ok fg1_m fg1s_1 (by decide) (vlr_one d) (by decide) ds w he cu (by omega) (by omega) (by omega) (Nat.zero_le _) (fun _ => rfl) b0 b1 bs q38 (by omega) (Nat.le_refl _) hκ hwB f1 f2 (fun E Z aq hE => GH_natc (E := E) (Z := Z) (NC_rows d 1) (vlr_mono d 1) f t [] _ _ Δ w he hch aq (onz_cv (NC_rows d 1) he.1) hE) (fun p hp u hu => ?_) hS
      obtain ⟨s, m, q⟩ := liz_get zR v hv p hp u hu
      exact ⟨s, q, (lnf_get tR h0 h1 g0 g1 (by omega) m).1 ee cΔ⟩
  · have T := tbsq
    have l0 := onz_len 1 ngc 1 (fun x => x) Γ0
    have hω : ∀ j, j < (onz 1 ngc 1 (fun x => x) Γ0).length → vw (onz 1 ngc 1 (fun x => x) Γ0) j ≤ max 1 (fxq.getD (cch Γ0) 0) := fun j hj => Nat.le_trans (onz_chars (n1 := ngc) T.1 T.2.1 T.2.2.1 T.2.2.2.1 T.2.2.2.2.1 Γ0 oc0 (by omega) j (by rw [l0] at hj; exact hj)) (Nat.le_max_right _ _)
    obtain ⟨v, hv, f1, f2⟩ := xr_form (n1 := ngc) (hv := 0) xrq_ok T.2.2.2.1 T.2.2.2.2.1 _ C (Γ0.length + 1) (Nat.le_refl _) oC k40
    have hκ : nz 1 ngc 1 (fun x => x) (onz 1 ngc 1 (fun x => x) Γ0) b' ≤ kpz frq 1 (max 1 (fxq.getD (cch Γ0) 0)) (tch b - tch (tAll B C)) := by
      unfold kpz
      by_cases q : tch b - tch (tAll B C) = 0
      · rw [if_pos (show Nat.beq (tch b - tch (tAll B C)) 0 = true by rw [q]; rfl)]
        rw [eT (by omega), nz_top]
        exact Nat.le_refl _
      · rw [if_neg (by intro q'; exact q (Nat.eq_of_beq_eq_true q'))]
        exact Nat.le_trans (Zx_le T (x := max 1 (fxq.getD (cch Γ0) 0)) (A := b') (by rw [l0]; exact ds.1) (by omega) (Nat.le_max_left _ _) hω) (Zx_ms frq_m (by omega) (by omega))
    have hwB : (fun x : Nat => x) (nz 1 ngc 1 (fun x => x) (onz 1 ngc 1 (fun x => x) Γ0) B) ≤ wbz frq 0 (max 1 (fxq.getD (cch Γ0) 0)) (tch B) := by
      show nz 1 ngc 1 (fun x => x) (onz 1 ngc 1 (fun x => x) Γ0) B ≤ _
      unfold wbz
      by_cases q : tch B = 1
      · rw [if_pos (show Nat.beq (tch B) 1 = true by rw [q]; rfl)]
        rw [eB q, nz_top]
        omega
      · rw [if_neg (by intro q'; exact q (Nat.eq_of_beq_eq_true q'))]
        have q3 : nz 1 ngc 1 (fun x => x) (onz 1 ngc 1 (fun x => x) Γ0) B ≤ Zx frq (max 1 (fxq.getD (cch Γ0) 0)) (tch B + 2) := Zx_le T (by rw [l0]; exact oBB) (by omega) (Nat.le_max_left _ _) hω
        generalize nz 1 ngc 1 (fun x => x) (onz 1 ngc 1 (fun x => x) Γ0) B = n9 at *
        generalize Zx frq (max 1 (fxq.getD (cch Γ0) 0)) (tch B + 2) = z9 at *
        omega
    rcases hΔ with ⟨ee, cΔ⟩ | ⟨ee, cΔ⟩
    · refine gen_zj (un := un) (a5 := 5) (cd := 0) NC_goals (fun y y' hy => hy) (fun y δ => Nat.le_refl _) T frq_m fgq_ok fgq_m fg1s_q (by decide) (fun y => by show y ≤ 0 + max 1 y; omega) (by decide) ds w he cu (by omega) (by rw [cΔ]; exact Nat.le_refl _) (Nat.zero_le _) (Nat.le_refl _) (fun e => absurd cΔ e) b0 b1 bs q38 (by omega) (Nat.le_refl _) hκ hwB f1 f2 (fun E Z aq hE => GH_natc (E := E) (Z := Z) NC_goals (fun y y' hy => hy) f t [] _ _ Δ w he hch aq (onz_cv NC_goals he.1) hE) (fun p hp u hu => ?_) hS
      obtain ⟨s, m, q⟩ := liz_get zG v hv p hp u hu
      exact ⟨s, q, (lnf_get tG h0 h1 g0 g1 (by omega) m).2 ee⟩
    · refine gen_zj (un := un) (a5 := 0) (cd := 58 - 2 * mch t - cch (cxs Δ1 Γ0 b)) NC_goals (fun y y' hy => hy) (fun y δ => Nat.le_refl _) T frq_m fgq_ok fgq_m fg1s_q (by decide) (fun y => by show y ≤ 0 + max 1 y; omega) (by decide) ds w he cu (by omega) (by omega) (by omega) (Nat.zero_le _) (fun _ => rfl) b0 b1 bs q38 (by omega) (Nat.le_refl _) hκ hwB f1 f2 (fun E Z aq hE => GH_natc (E := E) (Z := Z) NC_goals (fun y y' hy => hy) f t [] _ _ Δ w he hch aq (onz_cv NC_goals he.1) hE) (fun p hp u hu => ?_) hS
      obtain ⟨s, m, q⟩ := liz_get zG v hv p hp u hu
      exact ⟨s, q, (lnf_get tG h0 h1 g0 g1 (by omega) m).1 ee cΔ⟩
end PmJb
def B13z (m be k ov q1 q2 : Nat) : Bool := Nat.blt (8 + be + k + ov + q1 + q2) 30 && (if Nat.ble (8 + be + k + ov + q1 + q2 + 5 + 2 * m) 58 then zyR j1R be k ov q1 q2 && zyG j1G be k ov q1 q2 else zyR j2R be k ov q1 q2 && zyG j2G be k ov q1 q2)
section PmJc
variable {f : Nat} {t b b' B C : Ty} {Γ0 Δ1 : List Ty} {Δ : List (Nat × Ty × Nat)}
theorem nat_bnn (nΔ : Δ = []) (lb : LBd Γ0 Δ1 b b' B C) (w : TWf f (cxs Δ1 Γ0 b).length (Δ.map (fun a => a.1)) t) (he : TE (cxs Δ1 Γ0 b) Δ) (ch : CHo f t []) (hz : B13z (mch t) (tch B) (tch C) (tch b - tch (tAll B C)) (cch Γ0) (cch Δ1) = true) (m6 : 6 ≤ mch t) (h20 : 20 ≤ cch (cxs Δ1 Γ0 b)) (hb : cch (cxs Δ1 Γ0 b) + dch Δ + 2 * mch t ≤ 58) : NtV (cxs Δ1 Γ0 b) Δ f t 887 597 := by
  have ec := cch_cx (Γ0 := Γ0) (β := b) Δ1
  have cσ := lb.1.ch
  have eσ := tch_all B C
  have eq : 8 + tch B + tch C + (tch b - tch (tAll B C)) + cch Γ0 + cch Δ1 = cch (cxs Δ1 Γ0 b) := by omega
  unfold B13z zyR zyG at hz
  rw [eq, Bool.and_eq_true] at hz
  obtain ⟨h30, hz⟩ := hz
  have h30 : cch (cxs Δ1 Γ0 b) < 30 := Nat.le_of_ble_eq_true h30
  have q38 : cch Δ1 ≤ 38 := by omega
  have h47 : cch (cxs Δ1 Γ0 b) ≤ 47 := by omega
  by_cases c5 : cch (cxs Δ1 Γ0 b) + 5 + 2 * mch t ≤ 58
  · rw [if_pos (Nat.ble_eq_true_of_le c5), Bool.and_eq_true] at hz
    have hΔ : (false = true ∧ Δ = []) ∨ (false = false ∧ 5 ≤ 58 - 2 * mch t - cch (cxs Δ1 Γ0 b)) := Or.inr ⟨rfl, by omega⟩
    by_cases c21 : cch (cxs Δ1 Γ0 b) < 21
    · exact zone_jd (un := true) lb w he hΔ (Or.inl rfl) ch hz.1 hz.2 j1R_20 j1G_20 (by omega) c21 m6 (by omega) h47 q38 hb
    by_cases c22 : cch (cxs Δ1 Γ0 b) < 22
    · exact zone_jd (un := true) lb w he hΔ (Or.inl rfl) ch hz.1 hz.2 j1R_21 j1G_21 (by omega) c22 m6 (by omega) h47 q38 hb
    by_cases c23 : cch (cxs Δ1 Γ0 b) < 23
    · exact zone_jd (un := true) lb w he hΔ (Or.inl rfl) ch hz.1 hz.2 j1R_22 j1G_22 (by omega) c23 m6 (by omega) h47 q38 hb
    by_cases c24 : cch (cxs Δ1 Γ0 b) < 24
    · exact zone_jd (un := true) lb w he hΔ (Or.inl rfl) ch hz.1 hz.2 j1R_23 j1G_23 (by omega) c24 m6 (by omega) h47 q38 hb
    by_cases c26 : cch (cxs Δ1 Γ0 b) < 26
    · exact zone_jd (un := true) lb w he hΔ (Or.inl rfl) ch hz.1 hz.2 j1R_24 j1G_24 (by omega) c26 m6 (by omega) h47 q38 hb
    by_cases c28 : cch (cxs Δ1 Γ0 b) < 28
    · exact zone_jd (un := true) lb w he hΔ (Or.inl rfl) ch hz.1 hz.2 j1R_26 j1G_26 (by omega) c28 m6 (by omega) h47 q38 hb
    exact zone_jd (un := true) lb w he hΔ (Or.inl rfl) ch hz.1 hz.2 j1R_28 j1G_28 (by omega) (by omega) m6 (by omega) h47 q38 hb
  · rw [if_neg (by intro q; exact c5 (Nat.le_of_ble_eq_true q)), Bool.and_eq_true] at hz
    have hΔ : (true = true ∧ Δ = []) ∨ (true = false ∧ 5 ≤ 58 - 2 * mch t - cch (cxs Δ1 Γ0 b)) := Or.inl ⟨rfl, nΔ⟩
    by_cases c21 : cch (cxs Δ1 Γ0 b) < 21
    · exact zone_jd (un := true) lb w he hΔ (Or.inl rfl) ch hz.1 hz.2 j2R_c20 j2G_c20 (by omega) c21 (by omega) (by omega) h47 q38 hb
    by_cases c22 : cch (cxs Δ1 Γ0 b) < 22
    · exact zone_jd (un := true) lb w he hΔ (Or.inl rfl) ch hz.1 hz.2 j2R_c21 j2G_c21 (by omega) c22 (by omega) (by omega) h47 q38 hb
    by_cases c23 : cch (cxs Δ1 Γ0 b) < 23
    · exact zone_jd (un := true) lb w he hΔ (Or.inl rfl) ch hz.1 hz.2 j2R_c22 j2G_c22 (by omega) c23 (by omega) (by omega) h47 q38 hb
    by_cases c24 : cch (cxs Δ1 Γ0 b) < 24
    · exact zone_jd (un := true) lb w he hΔ (Or.inl rfl) ch hz.1 hz.2 j2R_c23 j2G_c23 (by omega) c24 (by omega) (by omega) h47 q38 hb
    by_cases c25 : cch (cxs Δ1 Γ0 b) < 25
    · exact zone_jd (un := true) lb w he hΔ (Or.inl rfl) ch hz.1 hz.2 j2R_c24 j2G_c24 (by omega) c25 (by omega) (by omega) h47 q38 hb
    by_cases c26 : cch (cxs Δ1 Γ0 b) < 26
    · exact zone_jd (un := true) lb w he hΔ (Or.inl rfl) ch hz.1 hz.2 j2R_c25 j2G_c25 (by omega) c26 (by omega) (by omega) h47 q38 hb
    by_cases c27 : cch (cxs Δ1 Γ0 b) < 27
    · exact zone_jd (un := true) lb w he hΔ (Or.inl rfl) ch hz.1 hz.2 j2R_c26 j2G_c26 (by omega) c27 (by omega) (by omega) h47 q38 hb
    by_cases c28 : cch (cxs Δ1 Γ0 b) < 28
    · exact zone_jd (un := true) lb w he hΔ (Or.inl rfl) ch hz.1 hz.2 j2R_c27 j2G_c27 (by omega) c28 (by omega) (by omega) h47 q38 hb
    by_cases c29 : cch (cxs Δ1 Γ0 b) < 29
    · exact zone_jd (un := true) lb w he hΔ (Or.inl rfl) ch hz.1 hz.2 j2R_c28 j2G_c28 (by omega) c29 (by omega) (by omega) h47 q38 hb
    exact zone_jd (un := true) lb w he hΔ (Or.inl rfl) ch hz.1 hz.2 j2R_c29 j2G_c29 (by omega) h30 (by omega) (by omega) h47 q38 hb
end PmJc
def AzS (f : Nat) (t : Ty) (Γ : List Ty) (Δ : List (Nat × Ty × Nat)) : Prop := Δ = [] ∧ ∃ (Δ1 Γ0 : List Ty) (b b' B C : Ty), Γ = cxs Δ1 Γ0 b ∧ LBd Γ0 Δ1 b b' B C ∧ CHo (pee f t).1 (pee f t).2 [] ∧ B13z (mch (pee f t).2) (tch B) (tch C) (tch b - tch (tAll B C)) (cch Γ0) (cch Δ1) = true ∧ 6 ≤ mch (pee f t).2 ∧ cch Γ + dch Δ + 2 * mch (pee f t).2 ≤ 58
theorem AzS.v {f : Nat} {t : Ty} {Γ : List Ty} {Δ : List (Nat × Ty × Nat)} (w : TWf f Γ.length (Δ.map (fun a => a.1)) t) (he : TE Γ Δ) (h20 : 20 ≤ cch Γ) (h : AzS f t Γ Δ) : NtV Γ Δ f t 887 597 := by
  obtain ⟨nΔ, Δ1, Γ0, b, b', B, C, e, lb, ch, hz, m6, hb⟩ := h
  refine NtV_pee f t w he ?_
  have w' := (pee_ok f _ _ t w).1.1
  subst e
  exact nat_bnn nΔ lb w' he ch hz m6 h20 hb
def cvq (P : Nat → Nat → Nat → Bool) (c : Nat) : Bool := (List.range (c - 8)).all (fun be => Nat.blt be 1 || (List.range (c - 8)).all (fun ov => Nat.blt ov 3 || (Nat.ble (c - 8) (be + ov) || P be (c - 8 - be - ov) ov)))
theorem cvq_get {P : Nat → Nat → Nat → Bool} {c be k ov : Nat} (h : cvq P c = true) (p1 : 1 ≤ be) (p2 : 1 ≤ k) (p3 : 3 ≤ ov) (ec : 8 + be + k + ov = c) : P be k ov = true := by
  unfold cvq at h
  have q := rng_all h (i := be) (by omega)
  rw [Bool.or_eq_true] at q
  rcases q with q | q
  · exact (blt_no p1 q).elim
  have q := rng_all q (i := ov) (by omega)
  rw [Bool.or_eq_true, Bool.or_eq_true] at q
  rcases q with q | q | q
  · exact (blt_no p3 q).elim
  · have := Nat.le_of_ble_eq_true q
    omega
  · have e : c - 8 - be - ov = k := by omega
    rw [e] at q
    exact q
def cn1 (be k ov : Nat) : Bool := (zyR j1R be k ov 0 0 && zyG j1G be k ov 0 0) && (zyR j2R be k ov 0 0 && zyG j2G be k ov 0 0)
def cn2 (be k ov : Nat) : Bool := B12z true 8 be k ov 0 0 || B6z true 8 be k ov 0 0
theorem cn1_20 : cvq cn1 20 = true := by decide +kernel
theorem cn1_21 : cvq cn1 21 = true := by decide +kernel
theorem cn1_22 : cvq cn1 22 = true := by decide +kernel
theorem cn1_23 : cvq cn1 23 = true := by decide +kernel
theorem cn1_24 : cvq cn1 24 = true := by decide +kernel
theorem cn1_25 : cvq cn1 25 = true := by decide +kernel
theorem cn1_26 : cvq cn1 26 = true := by decide +kernel
theorem cn1_27 : cvq cn1 27 = true := by decide +kernel
theorem cn1_28 : cvq cn1 28 = true := by decide +kernel
theorem cn1_29 : cvq cn1 29 = true := by decide +kernel
theorem cn2_30 : cvq cn2 30 = true := by decide +kernel
theorem cn2_31 : cvq cn2 31 = true := by decide +kernel
theorem cn2_32 : cvq cn2 32 = true := by decide +kernel
theorem cn2_33 : cvq cn2 33 = true := by decide +kernel
theorem cn2_34 : cvq cn2 34 = true := by decide +kernel
theorem cn2_35 : cvq cn2 35 = true := by decide +kernel
theorem cn2_36 : cvq cn2 36 = true := by decide +kernel
theorem cn2_37 : cvq cn2 37 = true := by decide +kernel
theorem cn2_38 : cvq cn2 38 = true := by decide +kernel
theorem cn2_39 : cvq cn2 39 = true := by decide +kernel
theorem cn2_40 : cvq cn2 40 = true := by decide +kernel
theorem cn2_41 : cvq cn2 41 = true := by decide +kernel
theorem cn2_42 : cvq cn2 42 = true := by decide +kernel
theorem cn1_all : ∀ (c : Nat), 20 ≤ c → c < 30 → cvq cn1 c = true := by
  intro c h1 h2
  rcases (show c = 20 ∨ c = 21 ∨ c = 22 ∨ c = 23 ∨ c = 24 ∨ c = 25 ∨ c = 26 ∨ c = 27 ∨ c = 28 ∨ c = 29 by omega) with rfl | rfl | rfl | rfl | rfl | rfl | rfl | rfl | rfl | rfl
  · exact cn1_20
  · exact cn1_21
  · exact cn1_22
  · exact cn1_23
  · exact cn1_24
  · exact cn1_25
  · exact cn1_26
  · exact cn1_27
  · exact cn1_28
  · exact cn1_29
theorem cn2_all : ∀ (c : Nat), 30 ≤ c → c < 43 → cvq cn2 c = true := by
  intro c h1 h2
  rcases (show c = 30 ∨ c = 31 ∨ c = 32 ∨ c = 33 ∨ c = 34 ∨ c = 35 ∨ c = 36 ∨ c = 37 ∨ c = 38 ∨ c = 39 ∨ c = 40 ∨ c = 41 ∨ c = 42 by omega) with rfl | rfl | rfl | rfl | rfl | rfl | rfl | rfl | rfl | rfl | rfl | rfl | rfl
  · exact cn2_30
  · exact cn2_31
  · exact cn2_32
  · exact cn2_33
  · exact cn2_34
  · exact cn2_35
  · exact cn2_36
  · exact cn2_37
  · exact cn2_38
  · exact cn2_39
  · exact cn2_40
  · exact cn2_41
  · exact cn2_42
theorem cn_num {m be k ov : Nat} (p1 : 1 ≤ be) (p2 : 1 ≤ k) (p3 : 3 ≤ ov) (m3 : 3 ≤ m) (h20 : 20 ≤ 8 + be + k + ov) (h47 : 8 + be + k + ov ≤ 47) (hb : 8 + be + k + ov + 2 * m ≤ 58) : az true m (8 + be + k + ov) = true ∨ B12z true m be k ov 0 0 = true ∨ B6z true m be k ov 0 0 = true ∨ (B13z m be k ov 0 0 = true ∧ 6 ≤ m) := by
  by_cases m7 : m ≤ 7
  · left
    unfold az
    rw [if_pos rfl, Nat.ble_eq_true_of_le h20, Nat.ble_eq_true_of_le m3, Nat.ble_eq_true_of_le m7, Nat.ble_eq_true_of_le h47]
    rfl
  have e8 : Nat.ble 8 m = true := Nat.ble_eq_true_of_le (by omega)
  by_cases c30 : 8 + be + k + ov < 30
  · have q := cvq_get (cn1_all _ h20 c30) p1 p2 p3 rfl
    unfold cn1 at q
    rw [Bool.and_eq_true] at q
    refine Or.inr (Or.inr (Or.inr ⟨?_, by omega⟩))
    unfold B13z
    rw [Bool.and_eq_true]
    refine ⟨Nat.ble_eq_true_of_le c30, ?_⟩
    split
    · exact q.1
    · exact q.2
  · have q := cvq_get (cn2_all _ (by omega) (by omega)) p1 p2 p3 rfl
    unfold cn2 at q
    rw [Bool.or_eq_true] at q
    have e1 : B12z true 8 be k ov 0 0 = B12z true m be k ov 0 0 := by
      unfold B12z
      rw [if_pos rfl, if_pos rfl, e8]
      rfl
    have e2 : B6z true 8 be k ov 0 0 = B6z true m be k ov 0 0 := by
      unfold B6z
      rw [if_pos rfl, if_pos rfl, e8]
      rfl
    rw [e1, e2] at q
    exact Or.inr (q.imp id Or.inl)
theorem cov_n {f : Nat} {t b : Ty} {Δ : List (Nat × Ty × Nat)} (w : TWf f [b].length (Δ.map (fun a => a.1)) t) (he : TE [b] Δ) (hv : noac [b]) (nΔ : Δ = []) (h2 : hd b ≠ 2) (ch : CHo f t []) (h20 : 20 ≤ cch [b]) (h47 : cch [b] ≤ 47) (m3 : 3 ≤ mch (pee f t).2) (hb : cch [b] + dch Δ + 2 * mch (pee f t).2 ≤ 58) : AzT f t [b] Δ ∨ AzR f t [b] Δ ∨ AzH f t [b] Δ ∨ AzP f t [b] Δ ∨ AzS f t [b] Δ := by
  have ch' := pee_cho f t [] ch
  have d0 : dch Δ = 0 := by rw [nΔ]; rfl
  have ob : ok 0 b = true := he.1.1
  have eI : Δ.isEmpty = true := by rw [nΔ]; rfl
  have na : ∀ a ∈ [b], noal a = true := fun a ha => by
    rw [List.mem_singleton] at ha
    subst ha
    exact (hv 0 (Nat.zero_lt_succ _)).1
  have hr : ∀ a ∈ cxs [] [] b, hd a ≠ 2 := fun a ha => by
    have ha : a ∈ [b] := ha
    rw [List.mem_singleton] at ha
    subst ha
    exact h2
  rcases lb_ex [b] he.1 na h47 with i | ⟨Δ1, Γ0, b1, b', B, C, e, lb⟩
  · exact Or.inr (Or.inr (Or.inr (Or.inl ⟨i, ch', m3, hb⟩)))
  obtain ⟨r1, r2, r3⟩ : Δ1 = [] ∧ b1 = b ∧ Γ0 = [] := by
    unfold cxs at e
    cases Δ1 with
    | nil =>
      injection e with a1 a2
      exact ⟨rfl, a1.symm, a2.symm⟩
    | cons a Δ1 =>
      have l := congrArg List.length e
      simp at l
  subst r1
  subst r2
  subst r3
  have oσ : ok 0 (tAll B C) = true := lb.1.2.1
  have pB := tch_pos (ok_all.mp oσ).1
  have pC := tch_pos (ok_all.mp oσ).2
  have eσ := tch_all B C
  have ec : cch [b1] = tch b1 + 4 := rfl
  by_cases nf : IS2 (fun _ => False) b1
  · exact Or.inr (Or.inr (Or.inr (Or.inl ⟨fun a ha => by
      rw [List.mem_singleton] at ha
      subst ha
      exact nf, ch', m3, hb⟩)))
  have hov : tch (tAll B C) + 3 ≤ tch b1 := by
    rcases sp_ex _ b1 0 (Nat.le_refl _) ob with i | ⟨d, B', C', sp, oσ'⟩
    · exact absurd i nf
    rcases IS2_sp d b1 sp lb.1.2.2.2.2 with q | ⟨o1, -, h5, -⟩
    · rw [q] at sp
      cases d with
      | zero =>
        have sp : b1 = tAll B C := sp
        rw [sp] at h2
        exact absurd (hd_all _ _) h2
      | succ d =>
        have q := (SPd_ch oσ (d + 1) b1 ob sp).2
        omega
    · omega
  generalize eo : tch b1 - tch (tAll B C) = ov at *
  have c1 : 8 + tch B + tch C + ov = cch [b1] := by omega
  have q := cn_num (m := mch (pee f t).2) pB pC (show 3 ≤ ov by omega) m3 (by omega) (by omega) (by omega)
  rw [c1] at q
  rcases q with q | q | q | q
  · exact Or.inl ⟨ch', by rw [eI]; exact q, hb⟩
  · exact Or.inr (Or.inl ⟨[], [], b1, b', B, C, rfl, lb, ch', by rw [eI, eo]; exact q, m3, Nat.zero_le _, hb⟩)
  · exact Or.inr (Or.inr (Or.inl ⟨[], [], b1, b', B, C, rfl, hr, lb, ch', by rw [eI, eo]; exact q, m3, Nat.zero_le _, hb⟩))
  · exact Or.inr (Or.inr (Or.inr (Or.inr ⟨nΔ, [], [], b1, b', B, C, rfl, lb, ch', by rw [eo]; exact q.1, q.2, hb⟩)))
/-- one binder, no scheme itself, no names around, the shorter term's choices with at most one argument behind: nothing -/
def Cv2 (f : Nat) (x y : Ty) (Γ : List Ty) (Δ : List (Nat × Ty × Nat)) : Prop := (∃ b, Γ = [b] ∧ hd b ≠ 2) → ((mch x ≤ mch y → CHo f x []) ∧ (¬ mch x ≤ mch y → CHo f y [])) → Δ ≠ [] ∧ ExA Γ
def RESTB9 : Prop := ∀ (f : Nat) (x y : Ty) (Γ : List Ty) (Δ : List (Nat × Ty × Nat)), TWf f Γ.length (Δ.map (fun a => a.1)) x → TWf f Γ.length (Δ.map (fun a => a.1)) y → TE Γ Δ → NAt f x → NAt f y → noac Γ → (∀ a ∈ Δ, noal a.2.1 = true) → TNo f x → TNo f y → 3 ≤ mch x → 3 ≤ mch y → (mch x ≤ mch y → ¬ NOp f x) → (¬ mch x ≤ mch y → ¬ NOp f y) → 20 ≤ cch Γ → cch Γ ≤ 47 → cch Γ + dch Δ + (2 + (mch x + mch y)) ≤ 60 → NoO f x y Γ Δ → ¬ AzT f x Γ Δ → ¬ AzT f y Γ Δ → ¬ AzB f x Γ Δ → ¬ AzB f y Γ Δ → ¬ AzC f x Γ Δ → ¬ AzC f y Γ Δ → ¬ AzI f x Γ Δ → ¬ AzI f y Γ Δ → ¬ AzF f x Γ Δ → ¬ AzF f y Γ Δ → ¬ AzG f x Γ Δ → ¬ AzG f y Γ Δ → ¬ AzH f x Γ Δ → ¬ AzH f y Γ Δ → ¬ PrS f x y Γ Δ → ¬ AzK f x Γ Δ → ¬ AzK f y Γ Δ → ¬ AzL f x Γ Δ → ¬ AzL f y Γ Δ → ¬ AzM f x Γ Δ → ¬ AzM f y Γ Δ → ¬ PrG f x y Γ Δ → ¬ AzN f x Γ Δ → ¬ AzN f y Γ Δ → ¬ One9 Γ → ¬ AzO f x Γ Δ → ¬ AzO f y Γ Δ → ¬ AzP f x Γ Δ → ¬ AzP f y Γ Δ → ¬ AzQ f x Γ Δ → ¬ AzQ f y Γ Δ → ¬ AzR f x Γ Δ → ¬ AzR f y Γ Δ → ¬ AzS f x Γ Δ → ¬ AzS f y Γ Δ → Cv2 f x y Γ Δ → (¬ ((mch x ≤ mch y → CHo f x []) ∧ (¬ mch x ≤ mch y → CHo f y [])) ∨ LeftJ f x y Γ Δ) → PRn f x y Γ Δ
theorem resta9_of (R : RESTB9) : RESTA9 := by
  intro f x y Γ Δ x1 x2 he y1 y2 hv hd' tx ty m3 n3 no1 no2 h20 h47 hb ng ax ay bx bz cx cy dx dy ex ey gx gy ix iy jx kx ky lx ly mx my px qx qy ox ux uy vx vy wx wy zx zy c1 hL
  by_cases sx : AzS f x Γ Δ
  · exact pair_ntv x1 x2 he y1 y2 hv hd' (by omega) (Or.inl (sx.v x1 he h20))
  by_cases sy : AzS f y Γ Δ
  · exact pair_ntv x1 x2 he y1 y2 hv hd' (by omega) (Or.inr (sy.v x2 he h20))
  by_cases c : Cv2 f x y Γ Δ
  · exact R f x y Γ Δ x1 x2 he y1 y2 hv hd' tx ty m3 n3 no1 no2 h20 h47 hb ng ax ay bx bz cx cy dx dy ex ey gx gy ix iy jx kx ky lx ly mx my px qx qy ox ux uy vx vy wx wy zx zy sx sy c hL
  by_cases nΔ : Δ = []
  rotate_left
  · exact absurd (fun q1 q2 => ⟨nΔ, c1 q1 nΔ q2⟩) c
  by_cases hb1 : ∃ b, Γ = [b] ∧ hd b ≠ 2
  rotate_left
  · exact absurd (fun q _ => absurd q hb1) c
  by_cases hch : (mch x ≤ mch y → CHo f x []) ∧ (¬ mch x ≤ mch y → CHo f y [])
  rotate_left
  · exact absurd (fun _ q => absurd q hch) c
  obtain ⟨b, e, h2⟩ := hb1
  subst e
  by_cases le : mch x ≤ mch y
  · have pm := (pee_ok f _ _ x x1).1.2
    by_cases p3 : 3 ≤ mch (pee f x).2
    · rcases cov_n x1 he hv nΔ h2 (hch.1 le) h20 h47 p3 (by omega) with q | q | q | q | q
      · exact absurd q ax
      · exact absurd q zx
      · exact absurd q ix
      · exact absurd q vx
      · exact absurd q sx
    · exact pair_ntv x1 x2 he y1 y2 hv hd' (by omega) (Or.inl (pee_small x1 he (by omega) (by omega)))
  · have pm := (pee_ok f _ _ y x2).1.2
    by_cases p3 : 3 ≤ mch (pee f y).2
    · rcases cov_n x2 he hv nΔ h2 (hch.2 le) h20 h47 p3 (by omega) with q | q | q | q | q
      · exact absurd q ay
      · exact absurd q zy
      · exact absurd q iy
      · exact absurd q vy
      · exact absurd q sy
    · exact pair_ntv x1 x2 he y1 y2 hv hd' (by omega) (Or.inr (pee_small x2 he (by omega) (by omega)))
theorem pairn_pb (R : RESTB9) : PAIRn := pairn_pa (resta9_of R)
