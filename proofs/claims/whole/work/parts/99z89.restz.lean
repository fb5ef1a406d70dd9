/-! THE OTHER SCHEMES OF THE DESIGNATED BOUND have no longer bodies. -/
def ojy (k ov q1 q2 : Nat) : Nat := max (oj1 k q1) (max (oj1 k q2) (lmx fr1 (min k (ov - 10))))
section PmIz
variable {f : Nat} {t b b' B C : Ty} {Γ0 Δ1 : List Ty} {Δ : List (Nat × Ty × Nat)} {un e : Bool} {LR LG : LnT} {c0 c1 m0 m1 : Nat}
theorem zone_jy (lb : LBd Γ0 Δ1 b b' B C) (w : TWf f (cxs Δ1 Γ0 b).length (Δ.map (fun a => a.1)) t) (he : TE (cxs Δ1 Γ0 b) Δ) (hΔ : (e = true ∧ Δ = []) ∨ (e = false ∧ Δ ≠ [])) (cu : un = true ∨ COk f t 0) (ch : CHo f t []) (zR : liz LR xr1 fr1 fg1 1 3 (kpz fr1 0 (max 1 (fx1.getD (cch Γ0) 0)) (tch b - tch (tAll B C))) (wbz fr1 1 (max 1 (fx1.getD (cch Γ0) 0)) (tch B)) (max 1 (fx1.getD (cch Γ0) 0)) (ojy (tch C) (tch b - tch (tAll B C)) (cch Γ0) (cch Δ1)) (tch C) (cch Δ1) (cch (cxs Δ1 Γ0 b)) = true) (zG : liz LG xrq frq fgq 0 1 (kpz frq 1 (max 1 (fxq.getD (cch Γ0) 0)) (tch b - tch (tAll B C))) (wbz frq 0 (max 1 (fxq.getD (cch Γ0) 0)) (tch B)) (max 1 (fxq.getD (cch Γ0) 0)) (ojy (tch C) (tch b - tch (tAll B C)) (cch Γ0) (cch Δ1)) (tch C) (cch Δ1) (cch (cxs Δ1 Γ0 b)) = true) (tR : lnf un e LR fr1 fg1 1 2 3 2 2 2 2 887 c0 c1 m0 m1 = true) (tG : lnf un e LG frq fgq 0 1 1 1 3 2 1 597 c0 c1 m0 m1 = true) (h0 : c0 ≤ cch (cxs Δ1 Γ0 b)) (h1 : cch (cxs Δ1 Γ0 b) < c1) (g0 : m0 ≤ mch t) (g1 : mch t < m1) (h47 : cch (cxs Δ1 Γ0 b) ≤ 47) (q38 : cch Δ1 ≤ 38) (hb : cch (cxs Δ1 Γ0 b) + dch Δ + 2 * mch t ≤ 58) : NtV (cxs Δ1 Γ0 b) Δ f t 887 597 := by
  obtain ⟨ds, eT, eB, k40, i0, i1⟩ := lb
  obtain ⟨oc0, oB⟩ := okc_low Δ1 he.1
  have ec := cch_cx (Γ0 := Γ0) (β := b) Δ1
  have oσ := ds.2.1
  have oBB := (ok_all.mp oσ).1
  have oC := (ok_all.mp oσ).2
  have pB := tch_pos oBB
  have pC := tch_pos oC
  have cσ := ds.ch
  have pb' := ds.2.2.1
  have eσ := tch_all B C
  have b0 : ∀ a ∈ Γ0, OBs (ojy (tch C) (tch b - tch (tAll B C)) (cch Γ0) (cch Δ1)) a := fun a ha => by
    obtain ⟨d, o1, o2⟩ := okc_mch oc0 ha
    exact OBs_of o1 o2 k40 (i0 a ha) (Nat.le_max_left _ _)
  have b1 : ∀ a ∈ Δ1, OBs (ojy (tch C) (tch b - tch (tAll B C)) (cch Γ0) (cch Δ1)) a := fun a ha => by
    obtain ⟨d, o1, o2⟩ := okc_top Δ1 he.1 a ha
    exact OBs_of o1 o2 k40 (i1 a ha) (Nat.le_trans (Nat.le_max_left _ _) (Nat.le_max_right _ _))
  have bs : ∀ B' C', ok Γ0.length (tAll B' C') = true → tch C' ≤ tch C → tch (tAll B' C') + tch (tAll B C) + 5 ≤ tch b → tch C' ≤ 40 ∧ lmx xr1 (tch C') ≤ ojy (tch C) (tch b - tch (tAll B C)) (cch Γ0) (cch Δ1) ∧ lmx fr1 (tch C') ≤ ojy (tch C) (tch b - tch (tAll B C)) (cch Γ0) (cch Δ1) := by
    intro B' C' o' l1 l2
    have p1 := tch_pos (ok_all.mp o').1
    have e1 := tch_all B' C'
    have m1 := lmx_mono fr1 (show tch C' ≤ min (tch C) (tch b - tch (tAll B C) - 10) by omega)
    have m2 := lmx_xf (tch C') (by omega)
    have m3 : lmx fr1 (min (tch C) (tch b - tch (tAll B C) - 10)) ≤ ojy (tch C) (tch b - tch (tAll B C)) (cch Γ0) (cch Δ1) := Nat.le_trans (Nat.le_max_right _ _) (Nat.le_max_right _ _)
    exact ⟨by omega, by omega, by omega⟩
  have d5 : Δ ≠ [] → 5 ≤ 58 - 2 * mch t - cch (cxs Δ1 Γ0 b) := fun e => Nat.le_trans (dch_five he e) (by omega)
  have hch : CHo f t (([] : Stk).map Option.isSome) := ch
  refine fun S hS => ⟨fun d => ?_, ?_⟩
  · have T := tbs1 d
    have l0 := onz_len 0 (fun _ => 1 + 1) (2 + 1) (vlr d 1) Γ0
    have hω : ∀ j, j < (onz 0 (fun _ => 1 + 1) (2 + 1) (vlr d 1) Γ0).length → vw (onz 0 (fun _ => 1 + 1) (2 + 1) (vlr d 1) Γ0) j ≤ max 1 (fx1.getD (cch Γ0) 0) := fun j hj => Nat.le_trans (onz_chars (n1 := fun _ => 1 + 1) T.1 T.2.1 T.2.2.1 T.2.2.2.1 T.2.2.2.2.1 Γ0 oc0 (by omega) j (by rw [l0] at hj; exact hj)) (Nat.le_max_right _ _)
    obtain ⟨v, hv, f1, f2⟩ := xr_form (n1 := fun _ => 1 + 1) (hv := 1) xr1_ok T.2.2.2.1 T.2.2.2.2.1 _ C (Γ0.length + 1) (Nat.le_refl _) oC k40
    have hκ : nz 0 (fun _ => 1 + 1) (2 + 1) (vlr d 1) (onz 0 (fun _ => 1 + 1) (2 + 1) (vlr d 1) Γ0) b' ≤ kpz fr1 0 (max 1 (fx1.getD (cch Γ0) 0)) (tch b - tch (tAll B C)) := by
      unfold kpz
      by_cases q : tch b - tch (tAll B C) = 0
      · rw [if_pos (show Nat.beq (tch b - tch (tAll B C)) 0 = true by rw [q]; rfl)]
        rw [eT (by omega), nz_top]
        exact Nat.le_refl _
      · rw [if_neg (by intro q'; exact q (Nat.eq_of_beq_eq_true q'))]
        exact Nat.le_trans (Zx_le T (x := max 1 (fx1.getD (cch Γ0) 0)) (A := b') (by rw [l0]; exact ds.1) (by omega) (Nat.le_max_left _ _) hω) (Zx_ms fr1_m (by omega) (by omega))
    have hwB : vlr d 1 (nz 0 (fun _ => 1 + 1) (2 + 1) (vlr d 1) (onz 0 (fun _ => 1 + 1) (2 + 1) (vlr d 1) Γ0) B) ≤ wbz fr1 1 (max 1 (fx1.getD (cch Γ0) 0)) (tch B) := by
      have q2 := vlr_one d (nz 0 (fun _ => 1 + 1) (2 + 1) (vlr d 1) (onz 0 (fun _ => 1 + 1) (2 + 1) (vlr d 1) Γ0) B)
      unfold wbz
      by_cases q : tch B = 1
      · rw [if_pos (show Nat.beq (tch B) 1 = true by rw [q]; rfl)]
        rw [eB q, nz_top] at q2 ⊢
        omega
      · rw [if_neg (by intro q'; exact q (Nat.eq_of_beq_eq_true q'))]
        have q3 : nz 0 (fun _ => 1 + 1) (2 + 1) (vlr d 1) (onz 0 (fun _ => 1 + 1) (2 + 1) (vlr d 1) Γ0) B ≤ Zx fr1 (max 1 (fx1.getD (cch Γ0) 0)) (tch B + 2) := Zx_le T (by rw [l0]; exact oBB) (by omega) (Nat.le_max_left _ _) hω
        generalize nz 0 (fun _ => 1 + 1) (2 + 1) (vlr d 1) (onz 0 (fun _ => 1 + 1) (2 + 1) (vlr d 1) Γ0) B = n9 at *
        generalize Zx fr1 (max 1 (fx1.getD (cch Γ0) 0)) (tch B + 2) = z9 at *
        omega
    rcases hΔ with ⟨ee, cΔ⟩ | ⟨ee, cΔ⟩
    · refine gen_zj (un := un) (a5 := 5) (cd := 0) (NC_rows d 1) (vlr_mono d 1) (vlr_lip d 1) T fr1_m fg1_ok fg1_m fg1s_1 (by decide) (vlr_one d) (by decide) ds w he cu (by omega) (by rw [cΔ]; exact Nat.le_refl _) (Nat.zero_le _) (Nat.le_refl _) (fun e => absurd cΔ e) b0 b1 bs q38 (by omega) (Nat.le_refl _) hκ hwB f1 f2 (fun E Z aq hE => GH_natc (E := E) (Z := Z) (NC_rows d 1) (vlr_mono d 1) f t [] _ _ Δ w he hch aq (onz_cv (NC_rows d 1) he.1) hE) (fun p hp u hu => ?_) hS
      obtain ⟨s, m, q⟩ := liz_get zR v hv p hp u hu
      exact ⟨s, q, (lnf_get tR h0 h1 g0 g1 (by omega) m).2 ee⟩
    · refine gen_zj (un := un) (a5 := 0) (cd := 58 - 2 * mch t - cch (cxs Δ1 Γ0 b)) (NC_rows d 1) (vlr_mono d 1) (vlr_lip d 1) T fr1_m fg1_ok fg1_m fg1s_1 (by decide) (vlr_one d) (by decide) ds w he cu (by omega) (by omega) (by omega) (Nat.zero_le _) (fun _ => rfl) b0 b1 bs q38 (by omega) (Nat.le_refl _) hκ hwB f1 f2 (fun E Z aq hE => GH_natc (E := E) (Z := Z) (NC_rows d 1) (vlr_mono d 1) f t [] _ _ Δ w he hch aq (onz_cv (NC_rows d 1) he.1) hE) (fun p hp u hu => ?_) hS
      obtain ⟨s, m, q⟩ := liz_get zR v hv p hp u hu
      exact ⟨s, q, (lnf_get tR h0 h1 g0 g1 (by omega) m).1 ee (d5 cΔ)⟩
  · have T := tbsq
    have l0 := onz_len 1 ngc 1 (fun x => x) Γ0
    have hω : ∀ j, j < (onz 1 ngc 1 (fun x => x) Γ0).length → vw (onz 1 ngc 1 (fun x => x) Γ0) j ≤ max 1 (fxq.getD (cch Γ0) 0) := fun j hj => Nat.le_trans (onz_chars (n1 := ngc) T.1 T.2.1 T.2.2.1 T.2.2.2.1 T.2.2.2.2.1 Γ0 oc0 (by omega) j (by rw [l0] at hj; exact hj)) (Nat.le_max_right _ _)
    obtain ⟨v, hv, f1, f2⟩ := xr_form (n1 := ngc) (hv := 0) xrq_ok T.2.2.2.1 T.2.2.2.2.1 _ C (Γ0.length + 1) (Nat.le_refl _) oC k40
    have hκ : nz 1 ngc 1 (fun x => x) (onz 1 ngc 1 (fun x => x) Γ0) b' ≤ kpz frq 1 (max 1 (fxq.getD (cch Γ0) 0)) (tch b - tch (tAll B C)) := by
      unfold kpz
      by_cases q : tch b - tch (tAll B C) = 0
      · rw [if_pos (show Nat.beq (tch b - tch (tAll B C)) 0 = true by rw [q]; rfl)]
        rw [eT (by omega), nz_top]
        exact Nat.le_refl _
      · rw [if_neg (by intro q'; exact q (Nat.eq_of_beq_eq_true q'))]
        exact Nat.le_trans (Zx_le T (x := max 1 (fxq.getD (cch Γ0) 0)) (A := b') (by rw [l0]; exact ds.1) (by omega) (Nat.le_max_left _ _) hω) (Zx_ms frq_m (by omega) (by omega))
    have hwB : (fun x : Nat => x) (nz 1 ngc 1 (fun x => x) (onz 1 ngc 1 (fun x => x) Γ0) B) ≤ wbz frq 0 (max 1 (fxq.getD (cch Γ0) 0)) (tch B) := by
      show nz 1 ngc 1 (fun x => x) (onz 1 ngc 1 (fun x => x) Γ0) B ≤ _
      unfold wbz
      by_cases q : tch B = 1
      · rw [if_pos (show Nat.beq (tch B) 1 = true by rw [q]; rfl)]
        rw [eB q, nz_top]
        omega
      · rw [if_neg (by intro q'; exact q (Nat.eq_of_beq_eq_true q'))]
        have q3 : nz 1 ngc 1 (fun x => x) (onz 1 ngc 1 (fun x => x) Γ0) B ≤ Zx frq (max 1 (fxq.getD (cch Γ0) 0)) (tch B + 2) := Zx_le T (by rw [l0]; exact oBB) (by omega) (Nat.le_max_left _ _) hω
        generalize nz 1 ngc 1 (fun x => x) (onz 1 ngc 1 (fun x => x) Γ0) B = n9 at *
        generalize Zx frq (max 1 (fxq.getD (cch Γ0) 0)) (tch B + 2) = z9 at *
        omega
    rcases hΔ with ⟨ee, cΔ⟩ | ⟨ee, cΔ⟩
    · refine gen_zj (un := un) (a5 := 5) (cd := 0) NC_goals (fun y y' hy => hy) (fun y δ => Nat.le_refl _) T frq_m fgq_ok fgq_m fg1s_q (by decide) (fun y => by show y ≤ 0 + max 1 y; omega) (by decide) ds w he cu (by omega) (by rw [cΔ]; exact Nat.le_refl _) (Nat.zero_le _) (Nat.le_refl _) (fun e => absurd cΔ e) b0 b1 bs q38 (by omega) (Nat.le_refl _) hκ hwB f1 f2 (fun E Z aq hE => GH_natc (E := E) (Z := Z) NC_goals (fun y y' hy => hy) f t [] _ _ Δ w he hch aq (onz_cv NC_goals he.1) hE) (fun p hp u hu => ?_) hS
      obtain ⟨s, m, q⟩ := liz_get zG v hv p hp u hu
      exact ⟨s, q, (lnf_get tG h0 h1 g0 g1 (by omega) m).2 ee⟩
    · refine gen_zj (un := un) (a5 := 0) (cd := 58 - 2 * mch t - cch (cxs Δ1 Γ0 b)) NC_goals (fun y y' hy => hy) (fun y δ => Nat.le_refl _) T frq_m fgq_ok fgq_m fg1s_q (by decide) (fun y => by show y ≤ 0 + max 1 y; omega) (by decide) ds w he cu (by omega) (by omega) (by omega) (Nat.zero_le _) (fun _ => rfl) b0 b1 bs q38 (by omega) (Nat.le_refl _) hκ hwB f1 f2 (fun E Z aq hE => GH_natc (E := E) (Z := Z) NC_goals (fun y y' hy => hy) f t [] _ _ Δ w he hch aq (onz_cv NC_goals he.1) hE) (fun p hp u hu => ?_) hS
      obtain ⟨s, m, q⟩ := liz_get zG v hv p hp u hu
      exact ⟨s, q, (lnf_get tG h0 h1 g0 g1 (by omega) m).1 ee (d5 cΔ)⟩
end PmIz
def zyR (L : LnT) (be k ov q1 q2 : Nat) : Bool := liz L xr1 fr1 fg1 1 3 (kpz fr1 0 (max 1 (fx1.getD q1 0)) ov) (wbz fr1 1 (max 1 (fx1.getD q1 0)) be) (max 1 (fx1.getD q1 0)) (ojy k ov q1 q2) k q2 (8 + be + k + ov + q1 + q2)
def zyG (L : LnT) (be k ov q1 q2 : Nat) : Bool := liz L xrq frq fgq 0 1 (kpz frq 1 (max 1 (fxq.getD q1 0)) ov) (wbz frq 0 (max 1 (fxq.getD q1 0)) be) (max 1 (fxq.getD q1 0)) (ojy k ov q1 q2) k q2 (8 + be + k + ov + q1 + q2)
def B12z (e : Bool) (m be k ov q1 q2 : Nat) : Bool := if e then (Nat.ble 8 m && (Nat.ble 30 (8 + be + k + ov + q1 + q2) && (zyR j2R be k ov q1 q2 && zyG j2G be k ov q1 q2))) else if Nat.ble m 5 then zyR j0R be k ov q1 q2 && zyG j0G be k ov q1 q2 else zyR j1R be k ov q1 q2 && zyG j1G be k ov q1 q2
section PmJa
variable {f : Nat} {t b b' B C : Ty} {Γ0 Δ1 : List Ty} {Δ : List (Nat × Ty × Nat)}
theorem nat_by (lb : LBd Γ0 Δ1 b b' B C) (w : TWf f (cxs Δ1 Γ0 b).length (Δ.map (fun a => a.1)) t) (he : TE (cxs Δ1 Γ0 b) Δ) (ch : CHo f t []) (hz : B12z Δ.isEmpty (mch t) (tch B) (tch C) (tch b - tch (tAll B C)) (cch Γ0) (cch Δ1) = true) (m3 : 3 ≤ mch t) (h20 : 20 ≤ cch (cxs Δ1 Γ0 b)) (h47 : cch (cxs Δ1 Γ0 b) ≤ 47) (q38 : cch Δ1 ≤ 38) (hb : cch (cxs Δ1 Γ0 b) + dch Δ + 2 * mch t ≤ 58) : NtV (cxs Δ1 Γ0 b) Δ f t 887 597 := by
  have ec := cch_cx (Γ0 := Γ0) (β := b) Δ1
  have cσ := lb.1.ch
  have eσ := tch_all B C
  have eq : 8 + tch B + tch C + (tch b - tch (tAll B C)) + cch Γ0 + cch Δ1 = cch (cxs Δ1 Γ0 b) := by omega
  unfold B12z zyR zyG at hz
  rw [eq] at hz
  by_cases c : Δ = []
  · have hΔ : (true = true ∧ Δ = []) ∨ (true = false ∧ Δ ≠ []) := Or.inl ⟨rfl, c⟩
    rw [if_pos (List.isEmpty_iff.mpr c), Bool.and_eq_true, Bool.and_eq_true, Bool.and_eq_true] at hz
    obtain ⟨m8, h30, zR, zG⟩ := hz
    have m8 := Nat.le_of_ble_eq_true m8
    have h30 := Nat.le_of_ble_eq_true h30
    by_cases c32 : cch (cxs Δ1 Γ0 b) < 32
    · exact zone_jy (un := true) lb w he hΔ (Or.inl rfl) ch zR zG j2R_30 j2G_30 h30 c32 m8 (by omega) h47 q38 hb
    by_cases c36 : cch (cxs Δ1 Γ0 b) < 36
    · exact zone_jy (un := true) lb w he hΔ (Or.inl rfl) ch zR zG j2R_32 j2G_32 (by omega) c36 m8 (by omega) h47 q38 hb
    exact zone_jy (un := true) lb w he hΔ (Or.inl rfl) ch zR zG j2R_36 j2G_36 (by omega) (by omega) m8 (by omega) h47 q38 hb
  · have hΔ : (false = true ∧ Δ = []) ∨ (false = false ∧ Δ ≠ []) := Or.inr ⟨rfl, c⟩
    rw [if_neg (by intro q; exact c (List.isEmpty_iff.mp q))] at hz
    by_cases m5 : mch t ≤ 5
    · rw [if_pos (Nat.ble_eq_true_of_le m5), Bool.and_eq_true] at hz
      by_cases c36 : cch (cxs Δ1 Γ0 b) < 36
      · exact zone_jy (un := false) lb w he hΔ (Or.inr ((co_six w).resolve_right (by omega))) ch hz.1 hz.2 j0R_20 j0G_20 h20 c36 m3 (by omega) h47 q38 hb
      exact zone_jy (un := false) lb w he hΔ (Or.inr ((co_six w).resolve_right (by omega))) ch hz.1 hz.2 j0R_36 j0G_36 (by omega) (by omega) m3 (by omega) h47 q38 hb
    · rw [if_neg (by intro q; exact m5 (Nat.le_of_ble_eq_true q)), Bool.and_eq_true] at hz
      by_cases c21 : cch (cxs Δ1 Γ0 b) < 21
      · exact zone_jy (un := true) lb w he hΔ (Or.inl rfl) ch hz.1 hz.2 j1R_20 j1G_20 (by omega) c21 (by omega) (by omega) h47 q38 hb
      by_cases c22 : cch (cxs Δ1 Γ0 b) < 22
      · exact zone_jy (un := true) lb w he hΔ (Or.inl rfl) ch hz.1 hz.2 j1R_21 j1G_21 (by omega) c22 (by omega) (by omega) h47 q38 hb
      by_cases c23 : cch (cxs Δ1 Γ0 b) < 23
      · exact zone_jy (un := true) lb w he hΔ (Or.inl rfl) ch hz.1 hz.2 j1R_22 j1G_22 (by omega) c23 (by omega) (by omega) h47 q38 hb
      by_cases c24 : cch (cxs Δ1 Γ0 b) < 24
      · exact zone_jy (un := true) lb w he hΔ (Or.inl rfl) ch hz.1 hz.2 j1R_23 j1G_23 (by omega) c24 (by omega) (by omega) h47 q38 hb
      by_cases c26 : cch (cxs Δ1 Γ0 b) < 26
      · exact zone_jy (un := true) lb w he hΔ (Or.inl rfl) ch hz.1 hz.2 j1R_24 j1G_24 (by omega) c26 (by omega) (by omega) h47 q38 hb
      by_cases c28 : cch (cxs Δ1 Γ0 b) < 28
      · exact zone_jy (un := true) lb w he hΔ (Or.inl rfl) ch hz.1 hz.2 j1R_26 j1G_26 (by omega) c28 (by omega) (by omega) h47 q38 hb
      by_cases c32 : cch (cxs Δ1 Γ0 b) < 32
      · exact zone_jy (un := true) lb w he hΔ (Or.inl rfl) ch hz.1 hz.2 j1R_28 j1G_28 (by omega) c32 (by omega) (by omega) h47 q38 hb
      exact zone_jy (un := true) lb w he hΔ (Or.inl rfl) ch hz.1 hz.2 j1R_32 j1G_32 (by omega) (by omega) (by omega) (by omega) h47 q38 hb
end PmJa
def AzR (f : Nat) (t : Ty) (Γ : List Ty) (Δ : List (Nat × Ty × Nat)) : Prop := ∃ (Δ1 Γ0 : List Ty) (b b' B C : Ty), Γ = cxs Δ1 Γ0 b ∧ LBd Γ0 Δ1 b b' B C ∧ CHo (pee f t).1 (pee f t).2 [] ∧ B12z Δ.isEmpty (mch (pee f t).2) (tch B) (tch C) (tch b - tch (tAll B C)) (cch Γ0) (cch Δ1) = true ∧ 3 ≤ mch (pee f t).2 ∧ cch Δ1 ≤ 38 ∧ cch Γ + dch Δ + 2 * mch (pee f t).2 ≤ 58
theorem AzR.v {f : Nat} {t : Ty} {Γ : List Ty} {Δ : List (Nat × Ty × Nat)} (w : TWf f Γ.length (Δ.map (fun a => a.1)) t) (he : TE Γ Δ) (h20 : 20 ≤ cch Γ) (h47 : cch Γ ≤ 47) (h : AzR f t Γ Δ) : NtV Γ Δ f t 887 597 := by
  obtain ⟨Δ1, Γ0, b, b', B, C, e, lb, ch, hz, m3, q38, hb⟩ := h
  refine NtV_pee f t w he ?_
  have w' := (pee_ok f _ _ t w).1.1
  subst e
  exact nat_by lb w' he ch hz m3 h20 h47 q38 hb
def RESTz9 : Prop := ∀ (f : Nat) (x y : Ty) (Γ : List Ty) (Δ : List (Nat × Ty × Nat)), TWf f Γ.length (Δ.map (fun a => a.1)) x → TWf f Γ.length (Δ.map (fun a => a.1)) y → TE Γ Δ → NAt f x → NAt f y → noac Γ → (∀ a ∈ Δ, noal a.2.1 = true) → TNo f x → TNo f y → 3 ≤ mch x → 3 ≤ mch y → (mch x ≤ mch y → ¬ NOp f x) → (¬ mch x ≤ mch y → ¬ NOp f y) → 20 ≤ cch Γ → cch Γ ≤ 47 → cch Γ + dch Δ + (2 + (mch x + mch y)) ≤ 60 → NoO f x y Γ Δ → ¬ AzT f x Γ Δ → ¬ AzT f y Γ Δ → ¬ AzB f x Γ Δ → ¬ AzB f y Γ Δ → ¬ AzC f x Γ Δ → ¬ AzC f y Γ Δ → ¬ AzI f x Γ Δ → ¬ AzI f y Γ Δ → ¬ AzF f x Γ Δ → ¬ AzF f y Γ Δ → ¬ AzG f x Γ Δ → ¬ AzG f y Γ Δ → ¬ AzH f x Γ Δ → ¬ AzH f y Γ Δ → ¬ PrS f x y Γ Δ → ¬ AzK f x Γ Δ → ¬ AzK f y Γ Δ → ¬ AzL f x Γ Δ → ¬ AzL f y Γ Δ → ¬ AzM f x Γ Δ → ¬ AzM f y Γ Δ → ¬ PrG f x y Γ Δ → ¬ AzN f x Γ Δ → ¬ AzN f y Γ Δ → ¬ One9 Γ → ¬ AzO f x Γ Δ → ¬ AzO f y Γ Δ → ¬ AzP f x Γ Δ → ¬ AzP f y Γ Δ → ¬ AzQ f x Γ Δ → ¬ AzQ f y Γ Δ → ¬ AzR f x Γ Δ → ¬ AzR f y Γ Δ → (¬ ((mch x ≤ mch y → CHo f x []) ∧ (¬ mch x ≤ mch y → CHo f y [])) ∨ LeftJ f x y Γ Δ) → PRn f x y Γ Δ
theorem resty9_of (R : RESTz9) : RESTy9 := by
  intro f x y Γ Δ x1 x2 he y1 y2 hv hd' tx ty m3 n3 no1 no2 h20 h47 hb ng ax ay bx bz cx cy dx dy ex ey gx gy ix iy jx kx ky lx ly mx my px qx qy ox ux uy vx vy wx wy hL
  by_cases a : AzR f x Γ Δ
  · exact pair_ntv x1 x2 he y1 y2 hv hd' (by omega) (Or.inl (a.v x1 he h20 h47))
  by_cases b : AzR f y Γ Δ
  · exact pair_ntv x1 x2 he y1 y2 hv hd' (by omega) (Or.inr (b.v x2 he h20 h47))
  exact R f x y Γ Δ x1 x2 he y1 y2 hv hd' tx ty m3 n3 no1 no2 h20 h47 hb ng ax ay bx bz cx cy dx dy ex ey gx gy ix iy jx kx ky lx ly mx my px qx qy ox ux uy vx vy wx wy a b hL
theorem pairn_oz (R : RESTz9) : PAIRn := pairn_oy (resty9_of R)
