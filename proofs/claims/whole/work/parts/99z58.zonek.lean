/-! NATURAL VALUES WHERE THE BODY'S WORTH IS KNOWN AS v.2 + v.1 z: each form once, no leaves but P. -/
def liy (L : LnT) (XR F W : FrT) (hv s2 κ wB y1 ob k q2 c : Nat) : Bool := (frg XR k).all (fun v => (frg W q2).all (fun u => (lng L c).any (fun s => lsz F hv s2 κ wB y1 ob k v u v.1 s)))
theorem liy_get {L : LnT} {XR F W : FrT} {hv s2 κ wB y1 ob k q2 c : Nat} (h : liy L XR F W hv s2 κ wB y1 ob k q2 c = true) : ∀ v ∈ frg XR k, ∀ u ∈ frg W q2, ∃ s : T6, s ∈ lng L c ∧ TiD hv s2 κ wB y1 ob k v.1 (v.1, v.2) u s ∧ ∃ w0 ∈ frg F s.2.2.2.2.2, ob + 1 ≤ w0.1 := by
  intro v hv u hu
  unfold liy at h
  obtain ⟨s, hs, q⟩ := List.any_eq_true.mp (List.all_eq_true.mp (List.all_eq_true.mp h v hv) u hu)
  unfold lsz at q
  rw [Bool.and_eq_true, Bool.and_eq_true, Bool.and_eq_true, Bool.and_eq_true, Bool.and_eq_true, Bool.and_eq_true, Bool.and_eq_true] at q
  obtain ⟨q1, q2, q3, q4, q5, q6, q7, q8⟩ := q
  obtain ⟨w0, hw0, hw1⟩ := List.any_eq_true.mp q8
  exact ⟨s, hs, ⟨Nat.le_of_ble_eq_true q1, Nat.le_of_ble_eq_true q2, Nat.le_of_ble_eq_true q3, Nat.le_of_ble_eq_true q4, Nat.le_of_ble_eq_true q5, Nat.le_of_ble_eq_true q6, Nat.le_of_ble_eq_true q7⟩, w0, hw0, Nat.le_of_ble_eq_true hw1⟩
section PmHz
variable {f : Nat} {t b b' B C : Ty} {Γ0 Δ1 : List Ty} {Δ : List (Nat × Ty × Nat)} {un e : Bool} {LR LG : LnT} {c0 c1 m0 m1 : Nat}
theorem zone_k {VR VG : FrT} (fR : ∀ d, ∃ v ∈ frg VR (tch C), ∀ z, nz 0 (fun _ => 1 + 1) (2 + 1) (vlr d 1) (z :: onz 0 (fun _ => 1 + 1) (2 + 1) (vlr d 1) Γ0) C ≤ v.2 + v.1 * z) (fG : ∃ v ∈ frg VG (tch C), ∀ z, nz 1 ngc 1 (fun x => x) (z :: onz 1 ngc 1 (fun x => x) Γ0) C ≤ v.2 + v.1 * z) (lb : LBd Γ0 Δ1 b b' B C) (w : TWf f (cxs Δ1 Γ0 b).length (Δ.map (fun a => a.1)) t) (he : TE (cxs Δ1 Γ0 b) Δ) (hΔ : (e = true ∧ Δ = []) ∨ (e = false ∧ Δ ≠ [])) (cu : un = true ∨ COk f t 0) (ch : CHo f t []) (zR : liy LR VR fr1 fg1 1 3 (kpz fr1 0 (max 1 (fx1.getD (cch Γ0) 0)) (tch b - tch (tAll B C))) (wbz fr1 1 (max 1 (fx1.getD (cch Γ0) 0)) (tch B)) (max 1 (fx1.getD (cch Γ0) 0)) (ojz (tch C) (tch b - tch (tAll B C)) (cch Γ0) (cch Δ1)) (tch C) (cch Δ1) (cch (cxs Δ1 Γ0 b)) = true) (zG : liy LG VG frq fgq 0 1 (kpz frq 1 (max 1 (fxq.getD (cch Γ0) 0)) (tch b - tch (tAll B C))) (wbz frq 0 (max 1 (fxq.getD (cch Γ0) 0)) (tch B)) (max 1 (fxq.getD (cch Γ0) 0)) (ojz (tch C) (tch b - tch (tAll B C)) (cch Γ0) (cch Δ1)) (tch C) (cch Δ1) (cch (cxs Δ1 Γ0 b)) = true) (tR : lnf un e LR fr1 fg1 1 2 3 2 2 2 2 887 c0 c1 m0 m1 = true) (tG : lnf un e LG frq fgq 0 1 1 1 3 2 1 597 c0 c1 m0 m1 = true) (h0 : c0 ≤ cch (cxs Δ1 Γ0 b)) (h1 : cch (cxs Δ1 Γ0 b) < c1) (g0 : m0 ≤ mch t) (g1 : mch t < m1) (h47 : cch (cxs Δ1 Γ0 b) ≤ 47) (q38 : cch Δ1 ≤ 38) (hb : cch (cxs Δ1 Γ0 b) + dch Δ + 2 * mch t ≤ 58) : NtV (cxs Δ1 Γ0 b) Δ f t 887 597 := by
  obtain ⟨ds, eT, eB, k40, i0, i1⟩ := lb
  obtain ⟨oc0, oB⟩ := okc_low Δ1 he.1
  have ec := cch_cx (Γ0 := Γ0) (β := b) Δ1
  have oσ := ds.2.1
  have oBB := (ok_all.mp oσ).1
  have oC := (ok_all.mp oσ).2
  have pB := tch_pos oBB
  have pC := tch_pos oC
  have cσ := ds.ch
  have pb' := ds.2.2.1
  have eσ := tch_all B C
  have b0 : ∀ a ∈ Γ0, OBs (ojz (tch C) (tch b - tch (tAll B C)) (cch Γ0) (cch Δ1)) a := fun a ha => by
    obtain ⟨d, o1, o2⟩ := okc_mch oc0 ha
    exact OBs_of o1 o2 k40 (i0 a ha) (Nat.le_max_left _ _)
  have b1 : ∀ a ∈ Δ1, OBs (ojz (tch C) (tch b - tch (tAll B C)) (cch Γ0) (cch Δ1)) a := fun a ha => by
    obtain ⟨d, o1, o2⟩ := okc_top Δ1 he.1 a ha
    exact OBs_of o1 o2 k40 (i1 a ha) (Nat.le_trans (Nat.le_max_left _ _) (Nat.le_max_right _ _))
  have bs : ∀ B' C', ok Γ0.length (tAll B' C') = true → tch C' ≤ tch C → tch (tAll B' C') + tch (tAll B C) + 5 ≤ tch b → tch C' ≤ 40 ∧ lmx xr1 (tch C') ≤ ojz (tch C) (tch b - tch (tAll B C)) (cch Γ0) (cch Δ1) ∧ lmx fr1 (tch C') ≤ ojz (tch C) (tch b - tch (tAll B C)) (cch Γ0) (cch Δ1) := by
    intro B' C' o' l1 l2
    have p1 := tch_pos (ok_all.mp o').1
    have e1 := tch_all B' C'
    have m1 := lmx_mono fr1 (show tch C' ≤ tch b - tch (tAll B C) - 10 by omega)
    have m2 := lmx_xf (tch C') (by omega)
    have m3 : lmx fr1 (tch b - tch (tAll B C) - 10) ≤ ojz (tch C) (tch b - tch (tAll B C)) (cch Γ0) (cch Δ1) := Nat.le_trans (Nat.le_max_right _ _) (Nat.le_max_right _ _)
    exact ⟨by omega, by omega, by omega⟩
  have d5 : Δ ≠ [] → 5 ≤ 58 - 2 * mch t - cch (cxs Δ1 Γ0 b) := fun e => Nat.le_trans (dch_five he e) (by omega)
  have hch : CHo f t (([] : Stk).map Option.isSome) := ch
  refine fun S hS => ⟨fun d => ?_, ?_⟩
  · have T := tbs1 d
    have l0 := onz_len 0 (fun _ => 1 + 1) (2 + 1) (vlr d 1) Γ0
    have hω : ∀ j, j < (onz 0 (fun _ => 1 + 1) (2 + 1) (vlr d 1) Γ0).length → vw (onz 0 (fun _ => 1 + 1) (2 + 1) (vlr d 1) Γ0) j ≤ max 1 (fx1.getD (cch Γ0) 0) := fun j hj => Nat.le_trans (onz_chars (n1 := fun _ => 1 + 1) T.1 T.2.1 T.2.2.1 T.2.2.2.1 T.2.2.2.2.1 Γ0 oc0 (by omega) j (by rw [l0] at hj; exact hj)) (Nat.le_max_right _ _)
    obtain ⟨v, hv, f1⟩ := fR d
    have hκ : nz 0 (fun _ => 1 + 1) (2 + 1) (vlr d 1) (onz 0 (fun _ => 1 + 1) (2 + 1) (vlr d 1) Γ0) b' ≤ kpz fr1 0 (max 1 (fx1.getD (cch Γ0) 0)) (tch b - tch (tAll B C)) := by
      unfold kpz
      by_cases q : tch b - tch (tAll B C) = 0
      · rw [if_pos (show Nat.beq (tch b - tch (tAll B C)) 0 = true by rw [q]; rfl)]
        rw [eT (by omega), nz_top]
        exact Nat.le_refl _
      · rw [if_neg (by intro q'; exact q (Nat.eq_of_beq_eq_true q'))]
        exact Nat.le_trans (Zx_le T (x := max 1 (fx1.getD (cch Γ0) 0)) (A := b') (by rw [l0]; exact ds.1) (by omega) (Nat.le_max_left _ _) hω) (Zx_ms fr1_m (by omega) (by omega))
    have hwB : vlr d 1 (nz 0 (fun _ => 1 + 1) (2 + 1) (vlr d 1) (onz 0 (fun _ => 1 + 1) (2 + 1) (vlr d 1) Γ0) B) ≤ wbz fr1 1 (max 1 (fx1.getD (cch Γ0) 0)) (tch B) := by
      have q2 := vlr_one d (nz 0 (fun _ => 1 + 1) (2 + 1) (vlr d 1) (onz 0 (fun _ => 1 + 1) (2 + 1) (vlr d 1) Γ0) B)
      unfold wbz
      by_cases q : tch B = 1
      · rw [if_pos (show Nat.beq (tch B) 1 = true by rw [q]; rfl)]
        rw [eB q, nz_top] at q2 ⊢
        omega
      · rw [if_neg (by intro q'; exact q (Nat.eq_of_beq_eq_true q'))]
        have q3 : nz 0 (fun _ => 1 + 1) (2 + 1) (vlr d 1) (onz 0 (fun _ => 1 + 1) (2 + 1) (vlr d 1) Γ0) B ≤ Zx fr1 (max 1 (fx1.getD (cch Γ0) 0)) (tch B + 2) := Zx_le T (by rw [l0]; exact oBB) (by omega) (Nat.le_max_left _ _) hω
        generalize nz 0 (fun _ => 1 + 1) (2 + 1) (vlr d 1) (onz 0 (fun _ => 1 + 1) (2 + 1) (vlr d 1) Γ0) B = n9 at *
        generalize Zx fr1 (max 1 (fx1.getD (cch Γ0) 0)) (tch B + 2) = z9 at *
        omega
    rcases hΔ with ⟨ee, cΔ⟩ | ⟨ee, cΔ⟩
    · refine gen_zk (E0 := v.2) (p := v.1) (un := un) (a5 := 5) (cd := 0) (NC_rows d 1) (vlr_mono d 1) (vlr_lip d 1) T fr1_m fg1_ok fg1_m fg1s_1 (by decide) (vlr_one d) (by decide) ds w he cu (by omega) (by rw [cΔ]; exact Nat.le_refl _) (Nat.zero_le _) (Nat.le_refl _) (fun e => absurd cΔ e) b0 b1 bs q38 (by omega) (Nat.le_refl _) hκ hwB f1 (fun E Z aq hE => GH_natc (E := E) (Z := Z) (NC_rows d 1) (vlr_mono d 1) f t [] _ _ Δ w he hch aq (onz_cv (NC_rows d 1) he.1) hE) (fun u hu => ?_) hS
      obtain ⟨s, m, q⟩ := liy_get zR v hv u hu
      exact ⟨s, q, (lnf_get tR h0 h1 g0 g1 (by omega) m).2 ee⟩
    · refine gen_zk (E0 := v.2) (p := v.1) (un := un) (a5 := 0) (cd := 58 - 2 * mch t - cch (cxs Δ1 Γ0 b)) (NC_rows d 1) (vlr_mono d 1) (vlr_lip d 1) T fr1_m fg1_ok fg1_m fg1s_1 (by decide) (vlr_one d) (by decide) ds w he cu (by omega) (by omega) (by omega) (Nat.zero_le _) (fun _ => rfl) b0 b1 bs q38 (by omega) (Nat.le_refl _) hκ hwB f1 (fun E Z aq hE => GH_natc (E := E) (Z := Z) (NC_rows d 1) (vlr_mono d 1) f t [] _ _ Δ w he hch aq (onz_cv (NC_rows d 1) he.1) hE) (fun u hu => ?_) hS
      obtain ⟨s, m, q⟩ := liy_get zR v hv u hu
      exact ⟨s, q, (lnf_get tR h0 h1 g0 g1 (by omega) m).1 ee (d5 cΔ)⟩
  · have T := tbsq
    have l0 := onz_len 1 ngc 1 (fun x => x) Γ0
    have hω : ∀ j, j < (onz 1 ngc 1 (fun x => x) Γ0).length → vw (onz 1 ngc 1 (fun x => x) Γ0) j ≤ max 1 (fxq.getD (cch Γ0) 0) := fun j hj => Nat.le_trans (onz_chars (n1 := ngc) T.1 T.2.1 T.2.2.1 T.2.2.2.1 T.2.2.2.2.1 Γ0 oc0 (by omega) j (by rw [l0] at hj; exact hj)) (Nat.le_max_right _ _)
    obtain ⟨v, hv, f1⟩ := fG
    have hκ : nz 1 ngc 1 (fun x => x) (onz 1 ngc 1 (fun x => x) Γ0) b' ≤ kpz frq 1 (max 1 (fxq.getD (cch Γ0) 0)) (tch b - tch (tAll B C)) := by
      unfold kpz
      by_cases q : tch b - tch (tAll B C) = 0
      · rw [if_pos (show Nat.beq (tch b - tch (tAll B C)) 0 = true by rw [q]; rfl)]
        rw [eT (by omega), nz_top]
        exact Nat.le_refl _
      · rw [if_neg (by intro q'; exact q (Nat.eq_of_beq_eq_true q'))]
        exact Nat.le_trans (Zx_le T (x := max 1 (fxq.getD (cch Γ0) 0)) (A := b') (by rw [l0]; exact ds.1) (by omega) (Nat.le_max_left _ _) hω) (Zx_ms frq_m (by omega) (by omega))
    have hwB : (fun x : Nat => x) (nz 1 ngc 1 (fun x => x) (onz 1 ngc 1 (fun x => x) Γ0) B) ≤ wbz frq 0 (max 1 (fxq.getD (cch Γ0) 0)) (tch B) := by
      show nz 1 ngc 1 (fun x => x) (onz 1 ngc 1 (fun x => x) Γ0) B ≤ _
      unfold wbz
      by_cases q : tch B = 1
      · rw [if_pos (show Nat.beq (tch B) 1 = true by rw [q]; rfl)]
        rw [eB q, nz_top]
        omega
      · rw [if_neg (by intro q'; exact q (Nat.eq_of_beq_eq_true q'))]
        have q3 : nz 1 ngc 1 (fun x => x) (onz 1 ngc 1 (fun x => x) Γ0) B ≤ Zx frq (max 1 (fxq.getD (cch Γ0) 0)) (tch B + 2) := Zx_le T (by rw [l0]; exact oBB) (by omega) (Nat.le_max_left _ _) hω
        generalize nz 1 ngc 1 (fun x => x) (onz 1 ngc 1 (fun x => x) Γ0) B = n9 at *
        generalize Zx frq (max 1 (fxq.getD (cch Γ0) 0)) (tch B + 2) = z9 at *
        omega
    rcases hΔ with ⟨ee, cΔ⟩ | ⟨ee, cΔ⟩
    · refine gen_zk (E0 := v.2) (p := v.1) (un := un) (a5 := 5) (cd := 0) NC_goals (fun y y' hy => hy) (fun y δ => Nat.le_refl _) T frq_m fgq_ok fgq_m fg1s_q (by decide) (fun y => by show y ≤ 0 + max 1 y; omega) (by decide) ds w he cu (by omega) (by rw [cΔ]; exact Nat.le_refl _) (Nat.zero_le _) (Nat.le_refl _) (fun e => absurd cΔ e) b0 b1 bs q38 (by omega) (Nat.le_refl _) hκ hwB f1 (fun E Z aq hE => GH_natc (E := E) (Z := Z) NC_goals (fun y y' hy => hy) f t [] _ _ Δ w he hch aq (onz_cv NC_goals he.1) hE) (fun u hu => ?_) hS
      obtain ⟨s, m, q⟩ := liy_get zG v hv u hu
      exact ⟨s, q, (lnf_get tG h0 h1 g0 g1 (by omega) m).2 ee⟩
    · refine gen_zk (E0 := v.2) (p := v.1) (un := un) (a5 := 0) (cd := 58 - 2 * mch t - cch (cxs Δ1 Γ0 b)) NC_goals (fun y y' hy => hy) (fun y δ => Nat.le_refl _) T frq_m fgq_ok fgq_m fg1s_q (by decide) (fun y => by show y ≤ 0 + max 1 y; omega) (by decide) ds w he cu (by omega) (by omega) (by omega) (Nat.zero_le _) (fun _ => rfl) b0 b1 bs q38 (by omega) (Nat.le_refl _) hκ hwB f1 (fun E Z aq hE => GH_natc (E := E) (Z := Z) NC_goals (fun y y' hy => hy) f t [] _ _ Δ w he hch aq (onz_cv NC_goals he.1) hE) (fun u hu => ?_) hS
      obtain ⟨s, m, q⟩ := liy_get zG v hv u hu
      exact ⟨s, q, (lnf_get tG h0 h1 g0 g1 (by omega) m).1 ee (d5 cΔ)⟩
end PmHz
section PmIa
variable {t0 s2 hv fn r0 r1 r2 r3 be aB : Nat} {n1 h : Nat → Nat} {F G Ff Gf : FrT} {B C : Ty}
/-- any body: a table made with Top worth y1 -/
theorem xr_vC (hm : ∀ y y', y ≤ y' → h y ≤ h y') (H1 : ∀ y, h y ≤ hv + max 1 y) {ω : List Nat} {y1 : Nat} (hy : t0 ≤ y1) (hc : xrc F G y1 fn s2 hv r0 r1 r2 r3 = true) (hf1 : n1 1 ≤ fn) (hr : ∀ m, m < 8 → n1 (8 + m) ≤ (if nlb m = 0 then r0 else if nlb m = 1 then r1 else if nlb m = 2 then r2 else r3)) (o : ok (ω.length + 1) C = true) (k40 : tch C ≤ 40) (hw : ∀ j, j < ω.length → vw ω j ≤ y1) : ∃ v ∈ frg F (tch C), ∀ z, nz t0 n1 s2 h (z :: ω) C ≤ v.2 + v.1 * z := by
  have o1 : ok 1 (clv ω.length C) = true := clv_ok _ C 1 (Nat.le_refl _) (by rw [Nat.add_comm]; exact o)
  have ec : tch (clv ω.length C) = tch C := tch_clv _ C _ (Nat.le_refl _) o
  obtain ⟨v, hv', f1, f2⟩ := xr_form (t0 := y1) (n1 := n1) hc hf1 hr _ (clv ω.length C) 1 (Nat.le_refl _) o1 (by omega)
  rw [ec] at hv'
  refine ⟨v, hv', fun z => ?_⟩
  have q := vC_clv (t0 := t0) (n1 := n1) (s2 := s2) (z := z) hm H1 hy o hw
  rw [xf_one] at q
  have q2 := Nat.mul_le_mul_right z f1
  omega
/-- a body that holds a scheme with the very bound B -/
theorem sb_vC (hm : ∀ y y', y ≤ y' → h y ≤ h y') (H1 : ∀ y, h y ≤ hv + max 1 y) {ω : List Nat} {y1 : Nat} (hy : t0 ≤ y1) (hc : xrc F G y1 fn s2 hv r0 r1 r2 r3 = true) (hcf : xgc be aB F Ff Gf fn s2 hv r1 r2 r3 = true) (hmf : ∀ {k k2 : Nat}, k ≤ k2 → k2 ≤ 40 → ∀ v ∈ frg Ff k, ∃ w ∈ frg Ff k2, v.1 ≤ w.1 ∧ v.2 ≤ w.2) (hf1 : n1 1 ≤ fn) (hr : ∀ m, m < 8 → n1 (8 + m) ≤ (if nlb m = 0 then r0 else if nlb m = 1 then r1 else if nlb m = 2 then r2 else r3)) (oB : ok ω.length B = true) (hbe : be ≤ tch B) (hK : ∀ d, XFm y1 n1 s2 hv d (clv ω.length B) 0 aB) (o : ok (ω.length + 1) C = true) (k40 : tch C ≤ 40) (hs : sB B C = true) (hw : ∀ j, j < ω.length → vw ω j ≤ y1) : ∃ v ∈ frg Ff (tch C), ∀ z, nz t0 n1 s2 h (z :: ω) C ≤ v.2 + v.1 * z := by
  have o1 : ok 1 (clv ω.length C) = true := clv_ok _ C 1 (Nat.le_refl _) (by rw [Nat.add_comm]; exact o)
  have o0 : ok 0 (clv ω.length B) = true := clv_ok _ B 0 (Nat.le_refl _) (by rw [Nat.zero_add]; exact oB)
  have ec : tch (clv ω.length C) = tch C := tch_clv _ C _ (Nat.le_refl _) o
  have eb : tch (clv ω.length B) = tch B := tch_clv _ B _ (Nat.le_refl _) oB
  obtain ⟨v, hv', f1, f2⟩ := xg_form (t0 := y1) (n1 := n1) (B := clv ω.length B) hc hcf hmf hf1 hr ⟨o0, by omega, hK⟩ _ (clv ω.length C) 1 (Nat.le_refl _) o1 (by omega) (sB_clv oB _ C _ (Nat.le_refl _) o hs)
  rw [ec] at hv'
  refine ⟨v, hv', fun z => ?_⟩
  have q := vC_clv (t0 := t0) (n1 := n1) (s2 := s2) (z := z) hm H1 hy o hw
  rw [xf_one] at q
  have q2 := Nat.mul_le_mul_right z f1
  omega
end PmIa
