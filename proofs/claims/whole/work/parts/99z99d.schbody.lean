/-! A BODY THAT IS A SCHEME WITH ANY BOUND: two arguments in a row, by the inner body. -/
section PmNj
variable {t0 s2 : Nat} {n1 h : Nat → Nat} {X7 : Nat} {eb es e2 : Nat → Nat}
theorem vz_s9 (he : ∀ z z', z ≤ z' → eb z ≤ eb z') (he2 : ∀ z z', z ≤ z' → es z ≤ es z') (hm : ∀ y y', y ≤ y' → h y ≤ h y') {B C : Ty} {ω : List Nat} (o : ok ω.length (tAll B C) = true) (hZ2 : ∀ z w, vz t0 n1 s2 h (E2 X7 eb es) C [some w] (hzx h z (nz t0 n1 s2 h ω B) :: ω) ≤ max (eb (max z w)) (es (max z w))) (hz : ∀ z, nz t0 n1 s2 h (hzx h z (nz t0 n1 s2 h ω B) :: ω) C ≤ eb z) : ∀ ρ : Stk, ρ ≠ [] → ρ.length ≤ 2 → vz t0 n1 s2 h (E2 X7 eb es) (tAll B C) ρ ω ≤ E2 X7 eb es ρ
  | [], hρ, _ => absurd rfl hρ
  | none :: ρ, _, _ => by rw [vz_allN]; exact Nat.zero_le _
  | [some z], _, _ => by
    have oC : ok (hzx h z (nz t0 n1 s2 h ω B) :: ω).length C = true := by rw [List.length_cons]; exact (ok_all.mp o).2
    rw [vz_allS, vz_no oC]
    refine Nat.le_trans (hz z) ?_
    have q := E2_e (X7 := X7) (eb := eb) (e2 := es) [some z] rfl
    have e1 : zm [some z] = z := by
      show max z 0 = z
      omega
    rw [e1] at q
    exact q
  | [some z, none], _, _ => by
    have oC : ok (hzx h z (nz t0 n1 s2 h ω B) :: ω).length C = true := by rw [List.length_cons]; exact (ok_all.mp o).2
    rw [vz_allS]
    have q1 := vz_upE (t0 := t0) (n1 := n1) (s2 := s2) (h := h) (E := E2 X7 eb es) (E2_m he he2) hm _ C [none] _ (Nat.le_refl _) oC
    have e0 : zm [none] = 0 := rfl
    rw [e0, show hzx h 0 = h from hzx_0] at q1
    have q2 := E2_m (X7 := X7) he he2 (some z) [none]
    have q3 := E2_e (X7 := X7) (eb := eb) (e2 := es) [some z, none] rfl
    have e1 : zm [some z, none] = z := by
      show max z 0 = z
      omega
    rw [e1] at q3
    have q4 := hz z
    omega
  | [some z, some w], _, _ => by
    rw [vz_allS]
    have q := hZ2 z w
    have e1 : zm [some z, some w] = max z w := by
      show max z (max w 0) = max z w
      omega
    have q3 := E2_e (X7 := X7) (eb := eb) (e2 := es) [some z, some w] rfl
    have q4 := E2_p (X7 := X7) (eb := eb) (e2 := es) [some z, some w] rfl (by show ¬ (0 + 1 + 1) ≤ 1; omega)
    rw [e1] at q3 q4
    omega
  | some _ :: _ :: _ :: _, _, hl => by
    rw [List.length_cons, List.length_cons, List.length_cons] at hl
    omega
theorem HEs_c9 {y : Nat} {B C β' : Ty} {Γ0 : List Ty} (hn : NC t0 n1 s2 h) (hm : ∀ y y', y ≤ y' → h y ≤ h y') (hh : ∀ y δ, h (y + δ) ≤ h y + δ) (he : ∀ z z', z ≤ z' → eb z ≤ eb z') (he2 : ∀ z z', z ≤ z' → es z ≤ es z') (h7 : y ≤ X7) (hZ2 : ∀ z w, vz t0 n1 s2 h (E2 X7 eb es) C [some w] (hzx h z (nz t0 n1 s2 h (onz t0 n1 s2 h Γ0) B) :: onz t0 n1 s2 h Γ0) ≤ max (eb (max z w)) (es (max z w))) (hz : ∀ z, nz t0 n1 s2 h (hzx h z (nz t0 n1 s2 h (onz t0 n1 s2 h Γ0) B) :: onz t0 n1 s2 h Γ0) C ≤ eb z) (hp0 : ∀ b ∈ Γ0, nsch b = true ∨ ∀ z, y + flv b * z ≤ eb z) : ∀ (Δ1 : List Ty), okc (cxs Δ1 Γ0 (tAll B C)) → (∀ j, j < (cxs Δ1 Γ0 β').length → vw (onz t0 n1 s2 h (cxs Δ1 Γ0 β')) j ≤ y) → (∀ b ∈ Δ1, nsch b = true ∨ ∀ z, y + flv b * z ≤ eb z) → HEs t0 n1 s2 h X7 eb es (cxs Δ1 Γ0 (tAll B C)) (onz t0 n1 s2 h (cxs Δ1 Γ0 β'))
  | [], oc, hv, _ => by
    have l1 := onz_len t0 n1 s2 h Γ0
    refine ⟨vz_s9 he he2 hm (by rw [l1]; exact oc.1) hZ2 hz, HEs_of (BE2.he he he2 hm hh oc.2 l1 (BE2_onz hn h7 (fun j hj => ?_) hp0))⟩
    have q2 := hv j (by rw [cxs_len]; omega)
    have e2' : vw (onz t0 n1 s2 h (cxs [] Γ0 β')) j = vw (onz t0 n1 s2 h Γ0) j := by
      show vw (h (nz t0 n1 s2 h (onz t0 n1 s2 h Γ0) β') :: onz t0 n1 s2 h Γ0) j = _
      rw [vw_cons, l1, if_neg (by omega)]
    rw [e2'] at q2
    exact q2
  | a :: Δ1, oc, hv, hp => by
    have l1 := onz_len t0 n1 s2 h (cxs Δ1 Γ0 β')
    have l2 := cxs_ll (Δ := Δ1) (Γ0 := Γ0) β' (tAll B C)
    have q := hv (cxs Δ1 Γ0 β').length (by show _ < (a :: cxs Δ1 Γ0 β').length; rw [List.length_cons]; omega)
    have e : vw (onz t0 n1 s2 h (cxs (a :: Δ1) Γ0 β')) (cxs Δ1 Γ0 β').length = h (nz t0 n1 s2 h (onz t0 n1 s2 h (cxs Δ1 Γ0 β')) a) := by
      show vw (h (nz t0 n1 s2 h (onz t0 n1 s2 h (cxs Δ1 Γ0 β')) a) :: onz t0 n1 s2 h (cxs Δ1 Γ0 β')) (cxs Δ1 Γ0 β').length = _
      rw [vw_cons, l1, if_pos rfl]
    rw [e] at q
    have q := Nat.le_trans (hn.2.2.1 _) q
    have oa : ok (onz t0 n1 s2 h (cxs Δ1 Γ0 β')).length a = true := by rw [l1, l2]; exact oc.1
    refine ⟨fun ρ _ _ => vz_l2 he he2 hm hh oa (Nat.le_trans q h7) ((hp a (List.mem_cons_self ..)).imp id (fun c z => Nat.le_trans (Nat.add_le_add_right q _) (c z))) ρ, HEs_c9 hn hm hh he he2 h7 hZ2 hz hp0 Δ1 oc.2 (fun j hj => ?_) (fun c hc => hp c (List.mem_cons_of_mem _ hc))⟩
    have q2 := hv j (by show j < (a :: cxs Δ1 Γ0 β').length; rw [List.length_cons]; omega)
    have e2' : vw (onz t0 n1 s2 h (cxs (a :: Δ1) Γ0 β')) j = vw (onz t0 n1 s2 h (cxs Δ1 Γ0 β')) j := by
      show vw (h (nz t0 n1 s2 h (onz t0 n1 s2 h (cxs Δ1 Γ0 β')) a) :: onz t0 n1 s2 h (cxs Δ1 Γ0 β')) j = _
      rw [vw_cons, l1, if_neg (by omega)]
    rw [e2'] at q2
    exact q2
end PmNj
section PmNk
variable {t0 fn s2 hv r0 r1 r2 r3 x0 : Nat} {n1 h : Nat → Nat} {P Q : List (List Nat)} {F G W : FrT} {X : List Nat} {B G9 D β' : Ty} {Γ0 : List Ty}
def dp9 (un : Bool) (F W : FrT) (a5 hv fn s2 r0 r1 r2 r3 E0 p wB ob kd k y cd m : Nat) : Nat := DT un a5 fn s2 r0 r1 r2 r3 (Vbw F W y cd) (Zbw F W y) (fun b => H5 (X7w F W y cd m) (ebw F W hv y cd m E0 p wB ob) (e2w F W hv y cd m kd) (e2w F W hv y cd m k) (Zbw F W y b)) m m 0 0
/-- as gen_fin5, the body a scheme with any bound -/
theorem gen_fin9 (hn : NC t0 n1 s2 h) (hm : ∀ y y', y ≤ y' → h y ≤ h y') (hh : ∀ y δ, h (y + δ) ≤ h y + δ) (T : TBs 58 t0 fn s2 hv r0 r1 r2 r3 x0 n1 h P Q F G X) (hFm : frm F = true) (hgr : fgc F W hv = true) (hWm : fgm W = true) (hW1 : fg1s W = true) (hW : (1, 0) ∈ frg W 0) (H1 : ∀ y, h y ≤ hv + max 1 y) {f : Nat} {t S : Ty} {Δ1 : List Ty} {Δ : List (Nat × Ty × Nat)} {un : Bool} {a5 ob cd wB Bd y E0 p kd k : Nat} (w : TWf f (cxs Δ1 Γ0 (tAll B (tAll G9 D))).length (Δ.map (fun a => a.1)) t) (he : TE (cxs Δ1 Γ0 (tAll B (tAll G9 D))) Δ) (cu : un = true ∨ COk f t 0) (hm30 : mch t ≤ 30) (hb0 : ∀ b ∈ Γ0, nsch b = true ∨ flv b ≤ ob) (hb1 : ∀ b ∈ Δ1, nsch b = true ∨ flv b ≤ ob) (hdc : dch Δ ≤ cd) (hcd : cd ≤ 56) (a55 : a5 ≤ 5) (ha5 : Δ ≠ [] → a5 = 0) (y01 : x0 ≤ y) (hw : ∀ j, j < (cxs Δ1 Γ0 β').length → vw (onz t0 n1 s2 h (cxs Δ1 Γ0 β')) j ≤ y) (go : ∀ E Z, AQh t0 n1 s2 h E Z f t [] (onz t0 n1 s2 h (cxs Δ1 Γ0 β')) → HEk t0 n1 s2 h E (cxs Δ1 Γ0 (tAll B (tAll G9 D))) (onz t0 n1 s2 h (cxs Δ1 Γ0 β')) → GOk t0 n1 s2 h E f t [] (onz t0 n1 s2 h (cxs Δ1 Γ0 β')) (cxs Δ1 Γ0 (tAll B (tAll G9 D))) Δ) (vZ : ∀ z, nz t0 n1 s2 h (hzx h z (nz t0 n1 s2 h (onz t0 n1 s2 h Γ0) B) :: onz t0 n1 s2 h Γ0) (tAll G9 D) ≤ E0 + p * max z wB) (hwB : h (nz t0 n1 s2 h (onz t0 n1 s2 h Γ0) B) ≤ wB) (wBy : wB ≤ y) (hkd : tch D ≤ kd) (hkk : kd ≤ k) (hk : tch (tAll G9 D) ≤ k) (hk2 : k ≤ 50) (R1 : dp9 un F W a5 hv fn s2 r0 r1 r2 r3 E0 p wB ob kd k y cd (mch t) ≤ Bd) (hS : tyF f t (cxs Δ1 Γ0 (tAll B (tAll G9 D))) Δ = .inr S) : nz t0 n1 s2 h (onz t0 n1 s2 h (cxs Δ1 Γ0 β')) S ≤ Bd := by
  obtain ⟨oc0, oA⟩ := okc_low Δ1 he.1
  have oC := (ok_all.mp oA).2
  have l0 := onz_len t0 n1 s2 h Γ0
  have dhk := fun k => dh_ok (un := un) (a5 := a5) (ob := ob) (cd := cd) (wB := wB) (y := y) (E0 := E0) (p := p) (k := k) (mt := mch t) hn hm T hFm hgr hWm hW1 hW H1 hm30 a55 y01
  have les : ∀ z, e2w F W hv y cd (mch t) kd z ≤ e2w F W hv y cd (mch t) k z := by
    intro z
    have q5 := Zx_ms hFm (x := max z y) (s := kd + 2) (s' := k + 2) (by omega) (by omega)
    unfold e2w
    omega
  have dh := DHy5 ebw_mono e2w_mono e2w_mono les (dhk kd) (dhk k)
  have y7 : y ≤ X7w F W y cd (mch t) := Nat.le_max_left _ _
  have gy0 : y ≤ gyw W y 0 := by
    have a0 := Zx_mem (x := y) (frg W 0) (1, 0) hW
    simp only at a0
    show y ≤ (frg W 0).foldr (fun u a => max (u.2 + u.1 * y) a) 0
    omega
  have hω2 : ∀ j, j < (onz t0 n1 s2 h (cxs Δ1 Γ0 β')).length → vw (onz t0 n1 s2 h (cxs Δ1 Γ0 β')) j ≤ y := fun j hj => hw j (by rw [onz_len] at hj; exact hj)
  have l1 : (onz t0 n1 s2 h (cxs Δ1 Γ0 β')).length = (cxs Δ1 Γ0 (tAll B (tAll G9 D))).length := by rw [onz_len, cxs_ll β' (tAll B (tAll G9 D))]
  have hA2 : HS2 t0 n1 s2 h (ebw F W hv y cd (mch t) E0 p wB ob) (e2w F W hv y cd (mch t) k) (onz t0 n1 s2 h Γ0) (tAll B (tAll G9 D)) := by
    refine ⟨B, tAll G9 D, rfl, fun z => ?_, fun z => ?_⟩
    · refine Nat.le_trans (vZ z) ?_
      unfold ebw
      exact le_mx (Or.inl (Nat.le_max_left _ _))
    · have q4 := Zx_leh T (x := max z y) (z := z) (ω := hzx h z (nz t0 n1 s2 h (onz t0 n1 s2 h Γ0) B) :: onz t0 n1 s2 h Γ0) (A := tAll G9 D) (by rw [List.length_cons, l0]; exact oC) (by omega) (by omega) (by omega) (fun j hj => by
        rw [vw_cons]
        by_cases e : j = (onz t0 n1 s2 h Γ0).length
        · rw [if_pos e]
          unfold hzx
          omega
        · rw [if_neg e]
          rw [List.length_cons] at hj
          have q := onz_low (t0 := t0) (n1 := n1) (s2 := s2) (h := h) (Γ0 := Γ0) (β := β') Δ1 (j := j) (by rw [l0] at hj e; omega)
          have q2 := hw j (by rw [cxs_len]; rw [l0] at hj e; omega)
          rw [q] at q2
          omega)
      have q5 := Zx_ms hFm (x := max z y) (s := tch (tAll G9 D) + 2) (s' := k + 2) (by omega) (by omega)
      unfold e2w
      exact le_mx (Or.inl (Nat.le_trans q4 q5))
  have oD : ok (Γ0.length + 1 + 1) D = true := (ok_all.mp oC).2
  have hZ2 : ∀ z w, vz t0 n1 s2 h (E2 (X7w F W y cd (mch t)) (ebw F W hv y cd (mch t) E0 p wB ob) (e2w F W hv y cd (mch t) kd)) (tAll G9 D) [some w] (hzx h z (nz t0 n1 s2 h (onz t0 n1 s2 h Γ0) B) :: onz t0 n1 s2 h Γ0) ≤ max (ebw F W hv y cd (mch t) E0 p wB ob (max z w)) (e2w F W hv y cd (mch t) kd (max z w)) := by
    intro z w'
    have oD' : ok (hzx h w' (nz t0 n1 s2 h (hzx h z (nz t0 n1 s2 h (onz t0 n1 s2 h Γ0) B) :: onz t0 n1 s2 h Γ0) G9) :: hzx h z (nz t0 n1 s2 h (onz t0 n1 s2 h Γ0) B) :: onz t0 n1 s2 h Γ0).length D = true := by rw [List.length_cons, List.length_cons, l0]; exact oD
    rw [vz_allS, vz_no oD']
    by_cases c : w' ≤ h (nz t0 n1 s2 h (hzx h z (nz t0 n1 s2 h (onz t0 n1 s2 h Γ0) B) :: onz t0 n1 s2 h Γ0) G9)
    · have e1 : hzx h w' (nz t0 n1 s2 h (hzx h z (nz t0 n1 s2 h (onz t0 n1 s2 h Γ0) B) :: onz t0 n1 s2 h Γ0) G9) = h (nz t0 n1 s2 h (hzx h z (nz t0 n1 s2 h (onz t0 n1 s2 h Γ0) B) :: onz t0 n1 s2 h Γ0) G9) := Nat.max_eq_right c
      rw [e1]
      have q := vZ z
      rw [nz_all] at q
      have q2 : E0 + p * max z wB ≤ ebw F W hv y cd (mch t) E0 p wB ob z := by
        unfold ebw
        exact le_mx (Or.inl (Nat.le_max_left _ _))
      have q3 : ebw F W hv y cd (mch t) E0 p wB ob z ≤ ebw F W hv y cd (mch t) E0 p wB ob (max z w') := ebw_mono _ _ (Nat.le_max_left _ _)
      omega
    · have q4 := Zx_le T (x := max (max z w') y) (ω := hzx h w' (nz t0 n1 s2 h (hzx h z (nz t0 n1 s2 h (onz t0 n1 s2 h Γ0) B) :: onz t0 n1 s2 h Γ0) G9) :: hzx h z (nz t0 n1 s2 h (onz t0 n1 s2 h Γ0) B) :: onz t0 n1 s2 h Γ0) (A := D) oD' (by omega) (by omega) (fun j hj => by
        rw [vw_cons]
        by_cases e' : j = (hzx h z (nz t0 n1 s2 h (onz t0 n1 s2 h Γ0) B) :: onz t0 n1 s2 h Γ0).length
        · rw [if_pos e']
          exact Nat.max_le.mpr ⟨by omega, by omega⟩
        rw [if_neg e', vw_cons]
        by_cases e : j = (onz t0 n1 s2 h Γ0).length
        · rw [if_pos e]
          unfold hzx
          omega
        · rw [if_neg e]
          rw [List.length_cons, List.length_cons] at hj
          rw [List.length_cons] at e'
          have q := onz_low (t0 := t0) (n1 := n1) (s2 := s2) (h := h) (Γ0 := Γ0) (β := β') Δ1 (j := j) (by rw [l0] at hj e e'; omega)
          have q2 := hw j (by rw [cxs_len]; rw [l0] at hj e e'; omega)
          rw [q] at q2
          omega)
      have q5 := Zx_ms hFm (x := max (max z w') y) (s := tch D + 2) (s' := kd + 2) (by omega) (by omega)
      have q6 : Zx F (max (max z w') y) (kd + 2) ≤ e2w F W hv y cd (mch t) kd (max z w') := by
        unfold e2w
        exact Nat.le_max_left _ _
      omega
  have aq := DQa dh f t [] (onz t0 n1 s2 h (cxs Δ1 Γ0 β')) (cxs Δ1 Γ0 (tAll B (tAll G9 D))) _ 0 0 w l1 (fun j hj => Nat.le_trans (hω2 j hj) gy0) (by omega) (fun e => absurd rfl e)
  have hkb : HEk t0 n1 s2 h (E2 (X7w F W y cd (mch t)) (ebw F W hv y cd (mch t) E0 p wB ob) (e2w F W hv y cd (mch t) k)) (cxs Δ1 Γ0 (tAll B (tAll G9 D))) (onz t0 n1 s2 h (cxs Δ1 Γ0 β')) := BE2.he ebw_mono e2w_mono hm hh he.1 l1 (BE2_cx (β' := β') (y := y) hn y7 hA2 (fun b hb => (hb0 b hb).imp id (fun c z => by have := Nat.mul_le_mul_right z c; unfold ebw; omega)) Δ1 hw (fun b hb => (hb1 b hb).imp id (fun c z => by have := Nat.mul_le_mul_right z c; unfold ebw; omega)))
  have hk1 : HEk t0 n1 s2 h (E5 (X7w F W y cd (mch t)) (ebw F W hv y cd (mch t) E0 p wB ob) (e2w F W hv y cd (mch t) kd) (e2w F W hv y cd (mch t) k)) (cxs Δ1 Γ0 (tAll B (tAll G9 D))) (onz t0 n1 s2 h (cxs Δ1 Γ0 β')) := HEk5 les he.1 l1 hkb (HEs_c9 hn hm hh ebw_mono e2w_mono y7 hZ2 (fun z => by
    refine Nat.le_trans (vZ z) ?_
    unfold ebw
    exact le_mx (Or.inl (Nat.le_max_left _ _))) (fun b hb => (hb0 b hb).imp id (fun c z => by have := Nat.mul_le_mul_right z c; unfold ebw; omega)) Δ1 he.1 hw (fun b hb => (hb1 b hb).imp id (fun c z => by have := Nat.mul_le_mul_right z c; unfold ebw; omega)))
  have dvk : ∀ k, DVn t0 n1 s2 h (E2 (X7w F W y cd (mch t)) (ebw F W hv y cd (mch t) E0 p wB ob) (e2w F W hv y cd (mch t) k)) (Vbw F W y cd 0) (onz t0 n1 s2 h (cxs Δ1 Γ0 β')) Δ := by
    intro k a ha
    obtain ⟨a1, a2, a3⟩ := he.2.2 a ha
    have ad := dch_mem ha
    have al : a.2.2 ≤ (onz t0 n1 s2 h (cxs Δ1 Γ0 β')).length := by rw [l1]; exact a1
    have ll : ((onz t0 n1 s2 h (cxs Δ1 Γ0 β')).drop ((onz t0 n1 s2 h (cxs Δ1 Γ0 β')).length - a.2.2)).length = a.2.2 := by rw [List.length_drop]; omega
    have vv : ∀ j, j < ((onz t0 n1 s2 h (cxs Δ1 Γ0 β')).drop ((onz t0 n1 s2 h (cxs Δ1 Γ0 β')).length - a.2.2)).length → vw ((onz t0 n1 s2 h (cxs Δ1 Γ0 β')).drop ((onz t0 n1 s2 h (cxs Δ1 Γ0 β')).length - a.2.2)) j ≤ y := by
      intro j hj
      have q := vw_app_lo ((onz t0 n1 s2 h (cxs Δ1 Γ0 β')).take ((onz t0 n1 s2 h (cxs Δ1 Γ0 β')).length - a.2.2)) _ j hj
      rw [List.take_append_drop] at q
      rw [← q]
      exact hω2 j (by rw [ll] at hj; omega)
    refine ⟨(onz t0 n1 s2 h (cxs Δ1 Γ0 β')).take ((onz t0 n1 s2 h (cxs Δ1 Γ0 β')).length - a.2.2), (onz t0 n1 s2 h (cxs Δ1 Γ0 β')).drop ((onz t0 n1 s2 h (cxs Δ1 Γ0 β')).length - a.2.2), (List.take_append_drop _ _).symm, ll, by rw [ll]; exact a2, ?_, ?_⟩
    · have q1 := Zx_le T (x := y) (A := a.2.1) (by rw [ll]; exact a2) (by omega) y01 vv
      have q2 := Zx_ms hFm (x := y) (s := tch a.2.1 + 2) (s' := cd - 2) (by omega) (by omega)
      exact Nat.le_trans q1 (Nat.le_trans q2 (Nat.le_max_left _ _))
    · have c1 : Zx F y (cd - 2 - 3) ≤ X7w F W y cd (mch t) := by
        unfold X7w
        exact le_mx (Or.inr (Nat.le_max_left _ _))
      have c2 : ∀ z, cpw F hv y (cd - 2) z ≤ cpo F W hv y cd (mch t) z := fun z => Nat.le_max_left _ _
      exact txt_cp hm T hFm H1 ebw_mono e2w_mono y01 (show cd - 2 ≤ 56 by omega) c1 (fun z => ⟨by unfold ebw; exact le_mx (Or.inr (c2 z)), by unfold e2w; exact le_mx (Or.inr (c2 z))⟩) (by rw [ll]; exact a2) (by omega) vv
  have dv := DVn5 les (dvk kd) (dvk k)
  have q1 := tyF_vz hm f t (cxs Δ1 Γ0 (tAll B (tAll G9 D))) Δ S [] (onz t0 n1 s2 h (cxs Δ1 Γ0 β')) w he hk1 (go _ _ aq hk1) hS
  rw [vz_no (tyF_ok f t _ Δ S w he hS).1] at q1
  have q2 := (DQ_all dh f t [] (onz t0 n1 s2 h (cxs Δ1 Γ0 β')) (cxs Δ1 Γ0 (tAll B (tAll G9 D))) Δ 0 0 w l1 dv (fun j hj => Nat.le_trans (hω2 j hj) gy0) (by omega) (fun e => by have := ha5 e; omega) (fun e => absurd rfl e) cu).1 rfl
  exact Nat.le_trans q1 (Nat.le_trans q2 R1)
end PmNk
def TpR9 (un e : Bool) (wB cd m : Nat) (s : T6) : Prop := ((s.2.2.2.2.2 ≤ 50 ∧ s.2.1 ≤ s.2.2.2.2.2) ∧ wB ≤ s.1) ∧ (e = false → 5 ≤ cd → dp9 un fr1 fg1 0 1 2 3 2 2 2 2 s.2.2.1 s.2.2.2.1 wB s.2.2.2.2.1 s.2.1 s.2.2.2.2.2 s.1 cd m ≤ 887) ∧ (e = true → dp9 un fr1 fg1 5 1 2 3 2 2 2 2 s.2.2.1 s.2.2.2.1 wB s.2.2.2.2.1 s.2.1 s.2.2.2.2.2 s.1 0 m ≤ 887)
def TpG9 (un e : Bool) (wB cd m : Nat) (s : T6) : Prop := ((s.2.2.2.2.2 ≤ 50 ∧ s.2.1 ≤ s.2.2.2.2.2) ∧ wB ≤ s.1) ∧ (e = false → 5 ≤ cd → dp9 un frq fgq 0 0 1 1 1 3 2 1 s.2.2.1 s.2.2.2.1 wB s.2.2.2.2.1 s.2.1 s.2.2.2.2.2 s.1 cd m ≤ 597) ∧ (e = true → dp9 un frq fgq 5 0 1 1 1 3 2 1 s.2.2.1 s.2.2.2.1 wB s.2.2.2.2.1 s.2.1 s.2.2.2.2.2 s.1 0 m ≤ 597)
section PmNm
variable {f : Nat} {t B G9 D : Ty} {Γ0 Δ1 : List Ty} {Δ : List (Nat × Ty × Nat)} {un e : Bool} {cd ob wR wG yR yG : Nat} {VR VG WR WG : List (Nat × Nat)}
theorem zone_g9 (w : TWf f (cxs Δ1 Γ0 (tAll B (tAll G9 D))).length (Δ.map (fun a => a.1)) t) (he : TE (cxs Δ1 Γ0 (tAll B (tAll G9 D))) Δ) (hΔ : (e = true ∧ Δ = []) ∨ (e = false ∧ Δ ≠ [])) (cu : un = true ∨ COk f t 0) (ch : CHo f t []) (m30 : mch t ≤ 30) (hdd : dch Δ ≤ cd) (hcd : cd ≤ 56) (hb0 : ∀ b ∈ Γ0, nsch b = true ∨ flv b ≤ ob) (hb1 : ∀ b ∈ Δ1, nsch b = true ∨ flv b ≤ ob) (wbR : ∀ b, vlr b 1 (nz 0 (fun _ => 1 + 1) (2 + 1) (vlr b 1) (onz 0 (fun _ => 1 + 1) (2 + 1) (vlr b 1) Γ0) B) ≤ wR) (wbG : nz 1 ngc 1 (fun x => x) (onz 1 ngc 1 (fun x => x) Γ0) B ≤ wG)
  (hVR : ∃ v ∈ VR, xt (Γ0.length + 1) (tAll G9 D) ≤ v.1 ∧ xa 0 (fun _ => 1 + 1) 3 1 (Γ0.length + 1) (tAll G9 D) ≤ v.2) (hVG : ∃ v ∈ VG, xt (Γ0.length + 1) (tAll G9 D) ≤ v.1 ∧ xa 1 ngc 1 0 (Γ0.length + 1) (tAll G9 D) ≤ v.2)
  (cR : ∀ (b : Bool) (v : Nat × Nat), xt (Γ0.length + 1) (tAll G9 D) ≤ v.1 → xa 0 (fun _ => 1 + 1) 3 1 (Γ0.length + 1) (tAll G9 D) ≤ v.2 → ∃ p, p ≤ v.1 ∧ ∃ w ∈ WR, 1 ≤ w.2 + w.1 * max yR (1 + (3 + (v.2 + (v.1 - p) * yR + p * wR))) ∧ (∀ j, j < (cxs Δ1 Γ0 (tAll B (tAll G9 D))).length → vw (onz 0 (fun _ => 1 + 1) (2 + 1) (vlr b 1) (cxs Δ1 Γ0 (tAll B (tAll G9 D)))) j ≤ w.2 + w.1 * max yR (1 + (3 + (v.2 + (v.1 - p) * yR + p * wR)))) ∧ ∀ z, nz 0 (fun _ => 1 + 1) (2 + 1) (vlr b 1) (hzx (vlr b 1) z (nz 0 (fun _ => 1 + 1) (2 + 1) (vlr b 1) (onz 0 (fun _ => 1 + 1) (2 + 1) (vlr b 1) Γ0) B) :: onz 0 (fun _ => 1 + 1) (2 + 1) (vlr b 1) Γ0) (tAll G9 D) ≤ v.2 + (v.1 - p) * yR + p * max z wR)
  (cG : ∀ (v : Nat × Nat), xt (Γ0.length + 1) (tAll G9 D) ≤ v.1 → xa 1 ngc 1 0 (Γ0.length + 1) (tAll G9 D) ≤ v.2 → ∃ p, p ≤ v.1 ∧ ∃ w ∈ WG, 1 ≤ w.2 + w.1 * max yG (0 + (1 + (v.2 + (v.1 - p) * yG + p * wG))) ∧ (∀ j, j < (cxs Δ1 Γ0 (tAll B (tAll G9 D))).length → vw (onz 1 ngc 1 (fun x => x) (cxs Δ1 Γ0 (tAll B (tAll G9 D)))) j ≤ w.2 + w.1 * max yG (0 + (1 + (v.2 + (v.1 - p) * yG + p * wG)))) ∧ ∀ z, nz 1 ngc 1 (fun x => x) (hzx (fun x => x) z (nz 1 ngc 1 (fun x => x) (onz 1 ngc 1 (fun x => x) Γ0) B) :: onz 1 ngc 1 (fun x => x) Γ0) (tAll G9 D) ≤ v.2 + (v.1 - p) * yG + p * max z wG)
  (hTR : ∀ v ∈ VR, ∀ p, p ≤ v.1 → ∀ w ∈ WR, ∃ s, TpD 1 3 wR yR ob (tch (tAll G9 D)) p v w s ∧ tch D ≤ s.2.1 ∧ TpR9 un e wR cd (mch t) s)
  (hTG : ∀ v ∈ VG, ∀ p, p ≤ v.1 → ∀ w ∈ WG, ∃ s, TpD 0 1 wG yG ob (tch (tAll G9 D)) p v w s ∧ tch D ≤ s.2.1 ∧ TpG9 un e wG cd (mch t) s) : NtV (cxs Δ1 Γ0 (tAll B (tAll G9 D))) Δ f t 887 597 := by
  have d5 : Δ ≠ [] → 5 ≤ cd := fun e => Nat.le_trans (dch_five he e) hdd
  have hch : CHo f t (([] : Stk).map Option.isSome) := ch
  refine fun S hS => ⟨fun b => ?_, ?_⟩
  · obtain ⟨v, hv, x1, x2⟩ := hVR
    obtain ⟨p, hp, ew, he', g1, g2, g3⟩ := cR b v x1 x2
    obtain ⟨s, ⟨k1, k2, k3, k4, k5⟩, kd5, ⟨⟨k50, kk5⟩, wy⟩, R0, R5⟩ := hTR v hv p hp ew he'
    have hb0' : ∀ b ∈ Γ0, nsch b = true ∨ flv b ≤ s.2.2.2.2.1 := fun b hb => (hb0 b hb).imp id (fun h => Nat.le_trans h k4)
    have hb1' : ∀ b ∈ Δ1, nsch b = true ∨ flv b ≤ s.2.2.2.2.1 := fun b hb => (hb1 b hb).imp id (fun h => Nat.le_trans h k4)
    rcases hΔ with ⟨ee, cΔ⟩ | ⟨ee, cΔ⟩
    · exact gen_fin9 (β' := tAll B (tAll G9 D)) (un := un) (a5 := 5) (cd := 0) (wB := wR) (E0 := s.2.2.1) (p := s.2.2.2.1) (ob := s.2.2.2.2.1) (kd := s.2.1) (k := s.2.2.2.2.2) (y := s.1) (NC_rows b 1) (vlr_mono b 1) (vlr_lip b 1) (tbs1 b) fr1_m fg1_ok fg1_m fg1s_1 (by decide) (vlr_one b) w he cu m30 hb0' hb1' (by rw [cΔ]; exact Nat.le_refl _) (Nat.zero_le _) (Nat.le_refl _) (fun e => absurd cΔ e) (Nat.le_trans g1 k1) (fun j hj => Nat.le_trans (g2 j hj) k1) (fun E Z aq hE => GH_natc (E := E) (Z := Z) (NC_rows b 1) (vlr_mono b 1) f t [] _ _ Δ w he hch aq (onz_cv (NC_rows b 1) he.1) hE) (fun z => Nat.le_trans (g3 z) (Nat.add_le_add k2 (Nat.mul_le_mul_right _ k3))) (wbR b) wy kd5 kk5 k5 k50 (R5 ee) hS
    · exact gen_fin9 (β' := tAll B (tAll G9 D)) (un := un) (a5 := 0) (cd := cd) (wB := wR) (E0 := s.2.2.1) (p := s.2.2.2.1) (ob := s.2.2.2.2.1) (kd := s.2.1) (k := s.2.2.2.2.2) (y := s.1) (NC_rows b 1) (vlr_mono b 1) (vlr_lip b 1) (tbs1 b) fr1_m fg1_ok fg1_m fg1s_1 (by decide) (vlr_one b) w he cu m30 hb0' hb1' hdd hcd (Nat.zero_le _) (fun _ => rfl) (Nat.le_trans g1 k1) (fun j hj => Nat.le_trans (g2 j hj) k1) (fun E Z aq hE => GH_natc (E := E) (Z := Z) (NC_rows b 1) (vlr_mono b 1) f t [] _ _ Δ w he hch aq (onz_cv (NC_rows b 1) he.1) hE) (fun z => Nat.le_trans (g3 z) (Nat.add_le_add k2 (Nat.mul_le_mul_right _ k3))) (wbR b) wy kd5 kk5 k5 k50 (R0 ee (d5 cΔ)) hS
  · obtain ⟨v, hv, x1, x2⟩ := hVG
    obtain ⟨p, hp, ew, he', g1, g2, g3⟩ := cG v x1 x2
    obtain ⟨s, ⟨k1, k2, k3, k4, k5⟩, kd5, ⟨⟨k50, kk5⟩, wy⟩, R0, R5⟩ := hTG v hv p hp ew he'
    have hb0' : ∀ b ∈ Γ0, nsch b = true ∨ flv b ≤ s.2.2.2.2.1 := fun b hb => (hb0 b hb).imp id (fun h => Nat.le_trans h k4)
    have hb1' : ∀ b ∈ Δ1, nsch b = true ∨ flv b ≤ s.2.2.2.2.1 := fun b hb => (hb1 b hb).imp id (fun h => Nat.le_trans h k4)
    rcases hΔ with ⟨ee, cΔ⟩ | ⟨ee, cΔ⟩
    · exact gen_fin9 (β' := tAll B (tAll G9 D)) (un := un) (a5 := 5) (cd := 0) (wB := wG) (E0 := s.2.2.1) (p := s.2.2.2.1) (ob := s.2.2.2.2.1) (kd := s.2.1) (k := s.2.2.2.2.2) (y := s.1) NC_goals (fun y y' hy => hy) (fun y δ => Nat.le_refl _) tbsq frq_m fgq_ok fgq_m fg1s_q (by decide) (fun y => by show y ≤ 0 + max 1 y; omega) w he cu m30 hb0' hb1' (by rw [cΔ]; exact Nat.le_refl _) (Nat.zero_le _) (Nat.le_refl _) (fun e => absurd cΔ e) (Nat.le_trans g1 k1) (fun j hj => Nat.le_trans (g2 j hj) k1) (fun E Z aq hE => GH_natc (E := E) (Z := Z) NC_goals (fun y y' hy => hy) f t [] _ _ Δ w he hch aq (onz_cv NC_goals he.1) hE) (fun z => Nat.le_trans (g3 z) (Nat.add_le_add k2 (Nat.mul_le_mul_right _ k3))) wbG wy kd5 kk5 k5 k50 (R5 ee) hS
    · exact gen_fin9 (β' := tAll B (tAll G9 D)) (un := un) (a5 := 0) (cd := cd) (wB := wG) (E0 := s.2.2.1) (p := s.2.2.2.1) (ob := s.2.2.2.2.1) (kd := s.2.1) (k := s.2.2.2.2.2) (y := s.1) NC_goals (fun y y' hy => hy) (fun y δ => Nat.le_refl _) tbsq frq_m fgq_ok fgq_m fg1s_q (by decide) (fun y => by show y ≤ 0 + max 1 y; omega) w he cu m30 hb0' hb1' hdd hcd (Nat.zero_le _) (fun _ => rfl) (Nat.le_trans g1 k1) (fun j hj => Nat.le_trans (g2 j hj) k1) (fun E Z aq hE => GH_natc (E := E) (Z := Z) NC_goals (fun y y' hy => hy) f t [] _ _ Δ w he hch aq (onz_cv NC_goals he.1) hE) (fun z => Nat.le_trans (g3 z) (Nat.add_le_add k2 (Nat.mul_le_mul_right _ k3))) wbG wy kd5 kk5 k5 k50 (R0 ee (d5 cΔ)) hS
end PmNm
