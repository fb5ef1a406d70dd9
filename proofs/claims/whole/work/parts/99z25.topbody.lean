/-! A BODY THAT IS A SCHEME WITH BOUND TOP: two arguments in a row, by the inner body. -/
section PmZo
variable {t0 s2 X7 : Nat} {n1 h eb e2 : Nat → Nat}
theorem vz_s6 (he : ∀ z z', z ≤ z' → eb z ≤ eb z') (he2 : ∀ z z', z ≤ z' → e2 z ≤ e2 z') (hm : ∀ y y', y ≤ y' → h y ≤ h y') {B D : Ty} {ω : List Nat} (o : ok ω.length (tAll B (tAll tTop D)) = true) (hz : ∀ z, nz t0 n1 s2 h (hzx h z (nz t0 n1 s2 h ω B) :: ω) (tAll tTop D) ≤ eb z) (hz2 : ∀ z, nz t0 n1 s2 (hzx h z) (hzx h z t0 :: hzx h z (nz t0 n1 s2 h ω B) :: ω) D ≤ e2 z) : ∀ ρ : Stk, ρ ≠ [] → vz t0 n1 s2 h (E2 X7 eb e2) (tAll B (tAll tTop D)) ρ ω ≤ E2 X7 eb e2 ρ
  | [], hρ => absurd rfl hρ
  | none :: ρ, _ => by rw [vz_allN]; exact Nat.zero_le _
  | some z :: ρ, _ => by
    have oC := (ok_all.mp o).2
    have oD := (ok_all.mp oC).2
    rw [vz_allS]
    by_cases c : cnS ρ = 0
    · have q1 := vz_upE (t0 := t0) (n1 := n1) (s2 := s2) (h := h) (E := E2 X7 eb e2) (E2_m he he2) hm _ (tAll tTop D) ρ (hzx h z (nz t0 n1 s2 h ω B) :: ω) (Nat.le_refl _) (by rw [List.length_cons]; exact oC)
      have q3 := E2_m (X7 := X7) he he2 (some z) ρ
      rw [cnS_zm ρ c, show hzx h 0 = h from hzx_0] at q1
      have q2 := hz z
      have e1 : zm (some z :: ρ) = z := by
        show max z (zm ρ) = z
        rw [cnS_zm ρ c]; exact Nat.max_eq_left (Nat.zero_le _)
      have q4 := E2_e (X7 := X7) (eb := eb) (e2 := e2) (some z :: ρ) rfl
      rw [e1] at q4
      omega
    · cases ρ with
      | nil => exact absurd rfl c
      | cons q ρ =>
        cases q with
        | none => rw [vz_allN]; exact Nat.zero_le _
        | some w =>
          rw [vz_allS, nz_top]
          have oD' : ok (hzx h w t0 :: hzx h z (nz t0 n1 s2 h ω B) :: ω).length D = true := by rw [List.length_cons, List.length_cons]; exact oD
          have q1 := vz_upE (t0 := t0) (n1 := n1) (s2 := s2) (h := h) (E := E2 X7 eb e2) (E2_m he he2) hm _ D ρ _ (Nat.le_refl _) oD'
          have q3 := E2_m (X7 := X7) he he2 (some z) (some w :: ρ)
          have q3' := E2_m (X7 := X7) he he2 (some w) ρ
          have e1 : zm (some z :: some w :: ρ) = max z (max w (zm ρ)) := rfl
          have q4 := E2_p (X7 := X7) (eb := eb) (e2 := e2) (some z :: some w :: ρ) rfl (by show ¬ cnS ρ + 1 + 1 ≤ 1; omega)
          rw [e1] at q4
          have q5 := hz2 (max z (max w (zm ρ)))
          have q6 := nz_mono (t0 := t0) (n1 := n1) (s2 := s2) (hzx_le hm (show zm ρ ≤ max z (max w (zm ρ)) by omega)) _ D (hzx h w t0 :: hzx h z (nz t0 n1 s2 h ω B) :: ω) (hzx h (max z (max w (zm ρ))) t0 :: hzx h (max z (max w (zm ρ))) (nz t0 n1 s2 h ω B) :: ω) (Nat.le_refl _) rfl oD' (fun j hj => by
            rw [vw_cons (hzx h w t0) (hzx h z (nz t0 n1 s2 h ω B) :: ω) j, vw_cons (hzx h (max z (max w (zm ρ))) t0) (hzx h (max z (max w (zm ρ))) (nz t0 n1 s2 h ω B) :: ω) j]
            have ee : (hzx h (max z (max w (zm ρ))) (nz t0 n1 s2 h ω B) :: ω).length = (hzx h z (nz t0 n1 s2 h ω B) :: ω).length := rfl
            rw [ee]
            by_cases e : j = (hzx h z (nz t0 n1 s2 h ω B) :: ω).length
            · rw [if_pos e, if_pos e]
              exact hzx_le hm (by omega) _ _ (Nat.le_refl _)
            · rw [if_neg e, if_neg e, vw_cons, vw_cons]
              by_cases e' : j = ω.length
              · rw [if_pos e', if_pos e']
                exact hzx_le hm (by omega) _ _ (Nat.le_refl _)
              · rw [if_neg e', if_neg e']; exact Nat.le_refl _)
          omega
theorem HE6_cx {y : Nat} {B D β' : Ty} {Γ0 : List Ty} (hn : NC t0 n1 s2 h) (hm : ∀ y y', y ≤ y' → h y ≤ h y') (hh : ∀ y δ, h (y + δ) ≤ h y + δ) (he : ∀ z z', z ≤ z' → eb z ≤ eb z') (he2 : ∀ z z', z ≤ z' → e2 z ≤ e2 z') (h7 : y ≤ X7) (hz : ∀ z, nz t0 n1 s2 h (hzx h z (nz t0 n1 s2 h (onz t0 n1 s2 h Γ0) B) :: onz t0 n1 s2 h Γ0) (tAll tTop D) ≤ eb z) (hz2 : ∀ z, nz t0 n1 s2 (hzx h z) (hzx h z t0 :: hzx h z (nz t0 n1 s2 h (onz t0 n1 s2 h Γ0) B) :: onz t0 n1 s2 h Γ0) D ≤ e2 z) (hp0 : ∀ b ∈ Γ0, nsch b = true ∨ ∀ z, y + flv b * z ≤ eb z) : ∀ (Δ1 : List Ty), okc (cxs Δ1 Γ0 (tAll B (tAll tTop D))) → (∀ j, j < (cxs Δ1 Γ0 β').length → vw (onz t0 n1 s2 h (cxs Δ1 Γ0 β')) j ≤ y) → (∀ b ∈ Δ1, nsch b = true ∨ ∀ z, y + flv b * z ≤ eb z) → HEk t0 n1 s2 h (E2 X7 eb e2) (cxs Δ1 Γ0 (tAll B (tAll tTop D))) (onz t0 n1 s2 h (cxs Δ1 Γ0 β'))
  | [], oc, hv, _ => by
    have l1 := onz_len t0 n1 s2 h Γ0
    refine ⟨vz_s6 he he2 hm (by rw [l1]; exact oc.1) hz hz2, BE2.he he he2 hm hh oc.2 l1 (BE2_onz hn h7 (fun j hj => ?_) hp0)⟩
    have q2 := hv j (by rw [cxs_len]; omega)
    have e2' : vw (onz t0 n1 s2 h (cxs [] Γ0 β')) j = vw (onz t0 n1 s2 h Γ0) j := by
      show vw (h (nz t0 n1 s2 h (onz t0 n1 s2 h Γ0) β') :: onz t0 n1 s2 h Γ0) j = _
      rw [vw_cons, l1, if_neg (by omega)]
    rw [e2'] at q2
    exact q2
  | a :: Δ1, oc, hv, hp => by
    have l1 := onz_len t0 n1 s2 h (cxs Δ1 Γ0 β')
    have l2 := cxs_ll (Δ := Δ1) (Γ0 := Γ0) β' (tAll B (tAll tTop D))
    have q := hv (cxs Δ1 Γ0 β').length (by show _ < (a :: cxs Δ1 Γ0 β').length; rw [List.length_cons]; omega)
    have e : vw (onz t0 n1 s2 h (cxs (a :: Δ1) Γ0 β')) (cxs Δ1 Γ0 β').length = h (nz t0 n1 s2 h (onz t0 n1 s2 h (cxs Δ1 Γ0 β')) a) := by
      show vw (h (nz t0 n1 s2 h (onz t0 n1 s2 h (cxs Δ1 Γ0 β')) a) :: onz t0 n1 s2 h (cxs Δ1 Γ0 β')) (cxs Δ1 Γ0 β').length = _
      rw [vw_cons, l1, if_pos rfl]
    rw [e] at q
    have q := Nat.le_trans (hn.2.2.1 _) q
    have oa : ok (onz t0 n1 s2 h (cxs Δ1 Γ0 β')).length a = true := by rw [l1, l2]; exact oc.1
    refine ⟨fun ρ _ => vz_l2 he he2 hm hh oa (Nat.le_trans q h7) ((hp a (List.mem_cons_self ..)).imp id (fun c z => Nat.le_trans (Nat.add_le_add_right q _) (c z))) ρ, HE6_cx hn hm hh he he2 h7 hz hz2 hp0 Δ1 oc.2 (fun j hj => ?_) (fun c hc => hp c (List.mem_cons_of_mem _ hc))⟩
    have q2 := hv j (by show j < (a :: cxs Δ1 Γ0 β').length; rw [List.length_cons]; omega)
    have e2' : vw (onz t0 n1 s2 h (cxs (a :: Δ1) Γ0 β')) j = vw (onz t0 n1 s2 h (cxs Δ1 Γ0 β')) j := by
      show vw (h (nz t0 n1 s2 h (onz t0 n1 s2 h (cxs Δ1 Γ0 β')) a) :: onz t0 n1 s2 h (cxs Δ1 Γ0 β')) j = _
      rw [vw_cons, l1, if_neg (by omega)]
    rw [e2'] at q2
    exact q2
end PmZo
section PmZp
variable {t0 fn s2 hv r0 r1 r2 r3 x0 : Nat} {n1 h : Nat → Nat} {P Q : List (List Nat)} {F G W : FrT} {X : List Nat} {B D β' : Ty} {Γ0 : List Ty}
/-- as gen_fin5, the body a scheme with bound Top -/
theorem gen_fin8 (hn : NC t0 n1 s2 h) (hm : ∀ y y', y ≤ y' → h y ≤ h y') (hh : ∀ y δ, h (y + δ) ≤ h y + δ) (T : TBs 58 t0 fn s2 hv r0 r1 r2 r3 x0 n1 h P Q F G X) (hFm : frm F = true) (hgr : fgc F W hv = true) (hWm : fgm W = true) (hW1 : fg1s W = true) (hW : (1, 0) ∈ frg W 0) (H1 : ∀ y, h y ≤ hv + max 1 y) {f : Nat} {t S : Ty} {Δ1 : List Ty} {Δ : List (Nat × Ty × Nat)} {un : Bool} {a5 ob cd wB Bd y E0 p k : Nat} (w : TWf f (cxs Δ1 Γ0 (tAll B (tAll tTop D))).length (Δ.map (fun a => a.1)) t) (he : TE (cxs Δ1 Γ0 (tAll B (tAll tTop D))) Δ) (cu : un = true ∨ COk f t 0) (hm30 : mch t ≤ 30) (hb0 : ∀ b ∈ Γ0, nsch b = true ∨ flv b ≤ ob) (hb1 : ∀ b ∈ Δ1, nsch b = true ∨ flv b ≤ ob) (hdc : dch Δ ≤ cd) (hcd : cd ≤ 56) (a55 : a5 ≤ 5) (ha5 : Δ ≠ [] → a5 = 0) (y01 : x0 ≤ y) (hw : ∀ j, j < (cxs Δ1 Γ0 β').length → vw (onz t0 n1 s2 h (cxs Δ1 Γ0 β')) j ≤ y) (go : ∀ E Z, AQh t0 n1 s2 h E Z f t [] (onz t0 n1 s2 h (cxs Δ1 Γ0 β')) → HEk t0 n1 s2 h E (cxs Δ1 Γ0 (tAll B (tAll tTop D))) (onz t0 n1 s2 h (cxs Δ1 Γ0 β')) → GOk t0 n1 s2 h E f t [] (onz t0 n1 s2 h (cxs Δ1 Γ0 β')) (cxs Δ1 Γ0 (tAll B (tAll tTop D))) Δ) (vZ : ∀ z, nz t0 n1 s2 h (hzx h z (nz t0 n1 s2 h (onz t0 n1 s2 h Γ0) B) :: onz t0 n1 s2 h Γ0) (tAll tTop D) ≤ E0 + p * max z wB) (hT : h t0 ≤ y) (hwB : h (nz t0 n1 s2 h (onz t0 n1 s2 h Γ0) B) ≤ wB) (wBy : wB ≤ y) (hk : tch D ≤ k) (hk2 : k ≤ 50) (R1 : dpD un F W a5 hv fn s2 r0 r1 r2 r3 E0 p wB ob k y cd (mch t) ≤ Bd) (hS : tyF f t (cxs Δ1 Γ0 (tAll B (tAll tTop D))) Δ = .inr S) : nz t0 n1 s2 h (onz t0 n1 s2 h (cxs Δ1 Γ0 β')) S ≤ Bd := by
  obtain ⟨oc0, oA⟩ := okc_low Δ1 he.1
  have oC := (ok_all.mp oA).2
  have l0 := onz_len t0 n1 s2 h Γ0
  have dh := dh_ok (un := un) (a5 := a5) (ob := ob) (cd := cd) (wB := wB) (y := y) (E0 := E0) (p := p) (k := k) (mt := mch t) hn hm T hFm hgr hWm hW1 hW H1 hm30 a55 y01
  have y7 : y ≤ X7w F W y cd (mch t) := Nat.le_max_left _ _
  have gy0 : y ≤ gyw W y 0 := by
    have a0 := Zx_mem (x := y) (frg W 0) (1, 0) hW
    simp only at a0
    show y ≤ (frg W 0).foldr (fun u a => max (u.2 + u.1 * y) a) 0
    omega
  have hω2 : ∀ j, j < (onz t0 n1 s2 h (cxs Δ1 Γ0 β')).length → vw (onz t0 n1 s2 h (cxs Δ1 Γ0 β')) j ≤ y := fun j hj => hw j (by rw [onz_len] at hj; exact hj)
  have l1 : (onz t0 n1 s2 h (cxs Δ1 Γ0 β')).length = (cxs Δ1 Γ0 (tAll B (tAll tTop D))).length := by rw [onz_len, cxs_ll β' (tAll B (tAll tTop D))]
  have hz : ∀ z, nz t0 n1 s2 h (hzx h z (nz t0 n1 s2 h (onz t0 n1 s2 h Γ0) B) :: onz t0 n1 s2 h Γ0) (tAll tTop D) ≤ ebw F W hv y cd (mch t) E0 p wB ob z := fun z => by
    refine Nat.le_trans (vZ z) ?_
    unfold ebw
    exact le_mx (Or.inl (Nat.le_max_left _ _))
  have hz2 : ∀ z, nz t0 n1 s2 (hzx h z) (hzx h z t0 :: hzx h z (nz t0 n1 s2 h (onz t0 n1 s2 h Γ0) B) :: onz t0 n1 s2 h Γ0) D ≤ e2w F W hv y cd (mch t) k z := fun z => by
    have oD : ok (Γ0.length + 1 + 1) D = true := (ok_all.mp oC).2
    have q4 := Zx_leh T (x := max z y) (z := z) (ω := hzx h z t0 :: hzx h z (nz t0 n1 s2 h (onz t0 n1 s2 h Γ0) B) :: onz t0 n1 s2 h Γ0) (A := D) (by rw [List.length_cons, List.length_cons, l0]; exact oD) (by omega) (by omega) (by omega) (fun j hj => by
        rw [vw_cons]
        by_cases e' : j = (hzx h z (nz t0 n1 s2 h (onz t0 n1 s2 h Γ0) B) :: onz t0 n1 s2 h Γ0).length
        · rw [if_pos e']
          unfold hzx
          omega
        rw [if_neg e', vw_cons]
        by_cases e : j = (onz t0 n1 s2 h Γ0).length
        · rw [if_pos e]
          unfold hzx
          omega
        · rw [if_neg e]
          rw [List.length_cons, List.length_cons] at hj
          rw [List.length_cons] at e'
          have q := onz_low (t0 := t0) (n1 := n1) (s2 := s2) (h := h) (Γ0 := Γ0) (β := β') Δ1 (j := j) (by rw [l0] at hj e e'; omega)
          have q2 := hw j (by rw [cxs_len]; rw [l0] at hj e e'; omega)
          rw [q] at q2
          omega)
    have q5 := Zx_ms hFm (x := max z y) (s := tch D + 2) (s' := k + 2) (by omega) (by omega)
    unfold e2w
    exact le_mx (Or.inl (Nat.le_trans q4 q5))
  have aq := DQa dh f t [] (onz t0 n1 s2 h (cxs Δ1 Γ0 β')) (cxs Δ1 Γ0 (tAll B (tAll tTop D))) _ 0 0 w l1 (fun j hj => Nat.le_trans (hω2 j hj) gy0) (by omega) (fun e => absurd rfl e)
  have hk1 : HEk t0 n1 s2 h (E2 (X7w F W y cd (mch t)) (ebw F W hv y cd (mch t) E0 p wB ob) (e2w F W hv y cd (mch t) k)) (cxs Δ1 Γ0 (tAll B (tAll tTop D))) (onz t0 n1 s2 h (cxs Δ1 Γ0 β')) := HE6_cx hn hm hh ebw_mono e2w_mono y7 hz hz2 (fun b hb => (hb0 b hb).imp id (fun c z => by have := Nat.mul_le_mul_right z c; unfold ebw; omega)) Δ1 he.1 hw (fun b hb => (hb1 b hb).imp id (fun c z => by have := Nat.mul_le_mul_right z c; unfold ebw; omega))
  have dv : DVn t0 n1 s2 h (E2 (X7w F W y cd (mch t)) (ebw F W hv y cd (mch t) E0 p wB ob) (e2w F W hv y cd (mch t) k)) (Vbw F W y cd 0) (onz t0 n1 s2 h (cxs Δ1 Γ0 β')) Δ := by
    intro a ha
    obtain ⟨a1, a2, a3⟩ := he.2.2 a ha
    have ad := dch_mem ha
    have al : a.2.2 ≤ (onz t0 n1 s2 h (cxs Δ1 Γ0 β')).length := by rw [l1]; exact a1
    have ll : ((onz t0 n1 s2 h (cxs Δ1 Γ0 β')).drop ((onz t0 n1 s2 h (cxs Δ1 Γ0 β')).length - a.2.2)).length = a.2.2 := by rw [List.length_drop]; omega
    have vv : ∀ j, j < ((onz t0 n1 s2 h (cxs Δ1 Γ0 β')).drop ((onz t0 n1 s2 h (cxs Δ1 Γ0 β')).length - a.2.2)).length → vw ((onz t0 n1 s2 h (cxs Δ1 Γ0 β')).drop ((onz t0 n1 s2 h (cxs Δ1 Γ0 β')).length - a.2.2)) j ≤ y := by
      intro j hj
      have q := vw_app_lo ((onz t0 n1 s2 h (cxs Δ1 Γ0 β')).take ((onz t0 n1 s2 h (cxs Δ1 Γ0 β')).length - a.2.2)) _ j hj
      rw [List.take_append_drop] at q
      rw [← q]
      exact hω2 j (by rw [ll] at hj; omega)
    refine ⟨(onz t0 n1 s2 h (cxs Δ1 Γ0 β')).take ((onz t0 n1 s2 h (cxs Δ1 Γ0 β')).length - a.2.2), (onz t0 n1 s2 h (cxs Δ1 Γ0 β')).drop ((onz t0 n1 s2 h (cxs Δ1 Γ0 β')).length - a.2.2), (List.take_append_drop _ _).symm, ll, by rw [ll]; exact a2, ?_, ?_⟩
    · have q1 := Zx_le T (x := y) (A := a.2.1) (by rw [ll]; exact a2) (by omega) y01 vv
      have q2 := Zx_ms hFm (x := y) (s := tch a.2.1 + 2) (s' := cd - 2) (by omega) (by omega)
      exact Nat.le_trans q1 (Nat.le_trans q2 (Nat.le_max_left _ _))
    · have c1 : Zx F y (cd - 2 - 3) ≤ X7w F W y cd (mch t) := by
        unfold X7w
        exact le_mx (Or.inr (Nat.le_max_left _ _))
      have c2 : ∀ z, cpw F hv y (cd - 2) z ≤ cpo F W hv y cd (mch t) z := fun z => Nat.le_max_left _ _
      exact txt_cp hm T hFm H1 ebw_mono e2w_mono y01 (show cd - 2 ≤ 56 by omega) c1 (fun z => ⟨by unfold ebw; exact le_mx (Or.inr (c2 z)), by unfold e2w; exact le_mx (Or.inr (c2 z))⟩) (by rw [ll]; exact a2) (by omega) vv
  have q1 := tyF_vz hm f t (cxs Δ1 Γ0 (tAll B (tAll tTop D))) Δ S [] (onz t0 n1 s2 h (cxs Δ1 Γ0 β')) w he hk1 (go _ _ aq hk1) hS
  rw [vz_no (tyF_ok f t _ Δ S w he hS).1] at q1
  have q2 := (DQ_all dh f t [] (onz t0 n1 s2 h (cxs Δ1 Γ0 β')) (cxs Δ1 Γ0 (tAll B (tAll tTop D))) Δ 0 0 w l1 dv (fun j hj => Nat.le_trans (hω2 j hj) gy0) (by omega) (fun e => by have := ha5 e; omega) (fun e => absurd rfl e) cu).1 rfl
  exact Nat.le_trans q1 (Nat.le_trans q2 R1)
end PmZp
section PmZq
variable {f : Nat} {t B D : Ty} {Γ0 Δ1 : List Ty} {Δ : List (Nat × Ty × Nat)} {un e : Bool} {cd ob wR wG yR yG : Nat} {VR VG WR WG : List (Nat × Nat)}
theorem zone_g8 (w : TWf f (cxs Δ1 Γ0 (tAll B (tAll tTop D))).length (Δ.map (fun a => a.1)) t) (he : TE (cxs Δ1 Γ0 (tAll B (tAll tTop D))) Δ) (hΔ : (e = true ∧ Δ = []) ∨ (e = false ∧ Δ ≠ [])) (cu : un = true ∨ COk f t 0) (ch : CHo f t []) (m30 : mch t ≤ 30) (hdd : dch Δ ≤ cd) (hcd : cd ≤ 56) (hb0 : ∀ b ∈ Γ0, nsch b = true ∨ flv b ≤ ob) (hb1 : ∀ b ∈ Δ1, nsch b = true ∨ flv b ≤ ob) (wbR : ∀ b, vlr b 1 (nz 0 (fun _ => 1 + 1) (2 + 1) (vlr b 1) (onz 0 (fun _ => 1 + 1) (2 + 1) (vlr b 1) Γ0) B) ≤ wR) (wbG : nz 1 ngc 1 (fun x => x) (onz 1 ngc 1 (fun x => x) Γ0) B ≤ wG)
  (hVR : ∃ v ∈ VR, xt (Γ0.length + 1) (tAll tTop D) ≤ v.1 ∧ xa 0 (fun _ => 1 + 1) 3 1 (Γ0.length + 1) (tAll tTop D) ≤ v.2) (hVG : ∃ v ∈ VG, xt (Γ0.length + 1) (tAll tTop D) ≤ v.1 ∧ xa 1 ngc 1 0 (Γ0.length + 1) (tAll tTop D) ≤ v.2)
  (cR : ∀ (b : Bool) (v : Nat × Nat), xt (Γ0.length + 1) (tAll tTop D) ≤ v.1 → xa 0 (fun _ => 1 + 1) 3 1 (Γ0.length + 1) (tAll tTop D) ≤ v.2 → ∃ p, p ≤ v.1 ∧ ∃ w ∈ WR, 1 ≤ w.2 + w.1 * max yR (1 + (3 + (v.2 + (v.1 - p) * yR + p * wR))) ∧ (∀ j, j < (cxs Δ1 Γ0 (tAll B (tAll tTop D))).length → vw (onz 0 (fun _ => 1 + 1) (2 + 1) (vlr b 1) (cxs Δ1 Γ0 (tAll B (tAll tTop D)))) j ≤ w.2 + w.1 * max yR (1 + (3 + (v.2 + (v.1 - p) * yR + p * wR)))) ∧ ∀ z, nz 0 (fun _ => 1 + 1) (2 + 1) (vlr b 1) (hzx (vlr b 1) z (nz 0 (fun _ => 1 + 1) (2 + 1) (vlr b 1) (onz 0 (fun _ => 1 + 1) (2 + 1) (vlr b 1) Γ0) B) :: onz 0 (fun _ => 1 + 1) (2 + 1) (vlr b 1) Γ0) (tAll tTop D) ≤ v.2 + (v.1 - p) * yR + p * max z wR)
  (cG : ∀ (v : Nat × Nat), xt (Γ0.length + 1) (tAll tTop D) ≤ v.1 → xa 1 ngc 1 0 (Γ0.length + 1) (tAll tTop D) ≤ v.2 → ∃ p, p ≤ v.1 ∧ ∃ w ∈ WG, 1 ≤ w.2 + w.1 * max yG (0 + (1 + (v.2 + (v.1 - p) * yG + p * wG))) ∧ (∀ j, j < (cxs Δ1 Γ0 (tAll B (tAll tTop D))).length → vw (onz 1 ngc 1 (fun x => x) (cxs Δ1 Γ0 (tAll B (tAll tTop D)))) j ≤ w.2 + w.1 * max yG (0 + (1 + (v.2 + (v.1 - p) * yG + p * wG)))) ∧ ∀ z, nz 1 ngc 1 (fun x => x) (hzx (fun x => x) z (nz 1 ngc 1 (fun x => x) (onz 1 ngc 1 (fun x => x) Γ0) B) :: onz 1 ngc 1 (fun x => x) Γ0) (tAll tTop D) ≤ v.2 + (v.1 - p) * yG + p * max z wG)
  (w2 : 2 ≤ wR) (w1 : 1 ≤ wG) (hTR : ∀ v ∈ VR, ∀ p, p ≤ v.1 → ∀ w ∈ WR, ∃ s, TpD 1 3 wR yR ob (tch D) p v w s ∧ TpR un e wR cd (mch t) s)
  (hTG : ∀ v ∈ VG, ∀ p, p ≤ v.1 → ∀ w ∈ WG, ∃ s, TpD 0 1 wG yG ob (tch D) p v w s ∧ TpG un e wG cd (mch t) s) : NtV (cxs Δ1 Γ0 (tAll B (tAll tTop D))) Δ f t 887 597 := by
  have d5 : Δ ≠ [] → 5 ≤ cd := fun e => Nat.le_trans (dch_five he e) hdd
  have hch : CHo f t (([] : Stk).map Option.isSome) := ch
  refine fun S hS => ⟨fun b => ?_, ?_⟩
  · obtain ⟨v, hv, x1, x2⟩ := hVR
    obtain ⟨p, hp, ew, he', g1, g2, g3⟩ := cR b v x1 x2
    obtain ⟨s, ⟨k1, k2, k3, k4, k5⟩, ⟨k50, wy⟩, R0, R5⟩ := hTR v hv p hp ew he'
    have hb0' : ∀ b ∈ Γ0, nsch b = true ∨ flv b ≤ s.2.2.2.2.1 := fun b hb => (hb0 b hb).imp id (fun h => Nat.le_trans h k4)
    have hb1' : ∀ b ∈ Δ1, nsch b = true ∨ flv b ≤ s.2.2.2.2.1 := fun b hb => (hb1 b hb).imp id (fun h => Nat.le_trans h k4)
    rcases hΔ with ⟨ee, cΔ⟩ | ⟨ee, cΔ⟩
    · exact gen_fin8 (β' := tAll B (tAll tTop D)) (un := un) (a5 := 5) (cd := 0) (wB := wR) (E0 := s.2.2.1) (p := s.2.2.2.1) (ob := s.2.2.2.2.1) (k := s.2.2.2.2.2) (y := s.1) (NC_rows b 1) (vlr_mono b 1) (vlr_lip b 1) (tbs1 b) fr1_m fg1_ok fg1_m fg1s_1 (by decide) (vlr_one b) w he cu m30 hb0' hb1' (by rw [cΔ]; exact Nat.le_refl _) (Nat.zero_le _) (Nat.le_refl _) (fun e => absurd cΔ e) (Nat.le_trans g1 k1) (fun j hj => Nat.le_trans (g2 j hj) k1) (fun E Z aq hE => GH_natc (E := E) (Z := Z) (NC_rows b 1) (vlr_mono b 1) f t [] _ _ Δ w he hch aq (onz_cv (NC_rows b 1) he.1) hE) (fun z => Nat.le_trans (g3 z) (Nat.add_le_add k2 (Nat.mul_le_mul_right _ k3))) (Nat.le_trans (vlr_one b 0) (Nat.le_trans w2 wy)) (wbR b) wy k5 k50 (R5 ee) hS
    · exact gen_fin8 (β' := tAll B (tAll tTop D)) (un := un) (a5 := 0) (cd := cd) (wB := wR) (E0 := s.2.2.1) (p := s.2.2.2.1) (ob := s.2.2.2.2.1) (k := s.2.2.2.2.2) (y := s.1) (NC_rows b 1) (vlr_mono b 1) (vlr_lip b 1) (tbs1 b) fr1_m fg1_ok fg1_m fg1s_1 (by decide) (vlr_one b) w he cu m30 hb0' hb1' hdd hcd (Nat.zero_le _) (fun _ => rfl) (Nat.le_trans g1 k1) (fun j hj => Nat.le_trans (g2 j hj) k1) (fun E Z aq hE => GH_natc (E := E) (Z := Z) (NC_rows b 1) (vlr_mono b 1) f t [] _ _ Δ w he hch aq (onz_cv (NC_rows b 1) he.1) hE) (fun z => Nat.le_trans (g3 z) (Nat.add_le_add k2 (Nat.mul_le_mul_right _ k3))) (Nat.le_trans (vlr_one b 0) (Nat.le_trans w2 wy)) (wbR b) wy k5 k50 (R0 ee (d5 cΔ)) hS
  · obtain ⟨v, hv, x1, x2⟩ := hVG
    obtain ⟨p, hp, ew, he', g1, g2, g3⟩ := cG v x1 x2
    obtain ⟨s, ⟨k1, k2, k3, k4, k5⟩, ⟨k50, wy⟩, R0, R5⟩ := hTG v hv p hp ew he'
    have hb0' : ∀ b ∈ Γ0, nsch b = true ∨ flv b ≤ s.2.2.2.2.1 := fun b hb => (hb0 b hb).imp id (fun h => Nat.le_trans h k4)
    have hb1' : ∀ b ∈ Δ1, nsch b = true ∨ flv b ≤ s.2.2.2.2.1 := fun b hb => (hb1 b hb).imp id (fun h => Nat.le_trans h k4)
    rcases hΔ with ⟨ee, cΔ⟩ | ⟨ee, cΔ⟩
    · exact gen_fin8 (β' := tAll B (tAll tTop D)) (un := un) (a5 := 5) (cd := 0) (wB := wG) (E0 := s.2.2.1) (p := s.2.2.2.1) (ob := s.2.2.2.2.1) (k := s.2.2.2.2.2) (y := s.1) NC_goals (fun y y' hy => hy) (fun y δ => Nat.le_refl _) tbsq frq_m fgq_ok fgq_m fg1s_q (by decide) (fun y => by show y ≤ 0 + max 1 y; omega) w he cu m30 hb0' hb1' (by rw [cΔ]; exact Nat.le_refl _) (Nat.zero_le _) (Nat.le_refl _) (fun e => absurd cΔ e) (Nat.le_trans g1 k1) (fun j hj => Nat.le_trans (g2 j hj) k1) (fun E Z aq hE => GH_natc (E := E) (Z := Z) NC_goals (fun y y' hy => hy) f t [] _ _ Δ w he hch aq (onz_cv NC_goals he.1) hE) (fun z => Nat.le_trans (g3 z) (Nat.add_le_add k2 (Nat.mul_le_mul_right _ k3))) (Nat.le_trans w1 wy) wbG wy k5 k50 (R5 ee) hS
    · exact gen_fin8 (β' := tAll B (tAll tTop D)) (un := un) (a5 := 0) (cd := cd) (wB := wG) (E0 := s.2.2.1) (p := s.2.2.2.1) (ob := s.2.2.2.2.1) (k := s.2.2.2.2.2) (y := s.1) NC_goals (fun y y' hy => hy) (fun y δ => Nat.le_refl _) tbsq frq_m fgq_ok fgq_m fg1s_q (by decide) (fun y => by show y ≤ 0 + max 1 y; omega) w he cu m30 hb0' hb1' hdd hcd (Nat.zero_le _) (fun _ => rfl) (Nat.le_trans g1 k1) (fun j hj => Nat.le_trans (g2 j hj) k1) (fun E Z aq hE => GH_natc (E := E) (Z := Z) NC_goals (fun y y' hy => hy) f t [] _ _ Δ w he hch aq (onz_cv NC_goals he.1) hE) (fun z => Nat.le_trans (g3 z) (Nat.add_le_add k2 (Nat.mul_le_mul_right _ k3))) (Nat.le_trans w1 wy) wbG wy k5 k50 (R0 ee (d5 cΔ)) hS
end PmZq
