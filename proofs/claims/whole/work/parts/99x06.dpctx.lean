/-! THE TABLE FOR A CONTEXT: values at most y, one scheme an E0 + p * z; any term. -/
section PmX6
variable {t0 fn s2 hv r0 r1 r2 r3 x0 : Nat} {n1 h : Nat → Nat} {P Q : List (List Nat)} {F G W : FrT} {X : List Nat} {B C β' : Ty} {Γ0 : List Ty}
/-- the numbers are as asked -/
theorem dh_ok (hn : NC t0 n1 s2 h) (hm : ∀ y y', y ≤ y' → h y ≤ h y') (T : TBs 58 t0 fn s2 hv r0 r1 r2 r3 x0 n1 h P Q F G X) (hFm : frm F = true) (hgr : fgc F W hv = true) (hWm : fgm W = true) (hW1 : fg1s W = true) (hW : (1, 0) ∈ frg W 0) (H1 : ∀ y, h y ≤ hv + max 1 y) {un : Bool} {a5 ob cd wB y E0 p k mt : Nat} (m30 : mt ≤ 30) (a55 : a5 ≤ 5) (y01 : x0 ≤ y) : DHy un a5 t0 fn s2 r0 r1 r2 r3 mt n1 h (Vbw F W y cd) (gyw W y) (Zbw F W y) (fun b => Hdw (X7w F W y cd mt) (ebw F W hv y cd mt E0 p wB ob) (e2w F W hv y cd mt k) (Zbw F W y b)) (E2 (X7w F W y cd mt) (ebw F W hv y cd mt E0 p wB ob) (e2w F W hv y cd mt k)) (DT un a5 fn s2 r0 r1 r2 r3 (Vbw F W y cd) (Zbw F W y) (fun b => Hdw (X7w F W y cd mt) (ebw F W hv y cd mt E0 p wB ob) (e2w F W hv y cd mt k) (Zbw F W y b)) mt) := by
  have yy : ∀ b, y ≤ gyw W y b := by
    intro b
    have a0 := Zx_mem (x := y) (frg W 0) (1, 0) hW
    simp only at a0
    have a1 : y ≤ gyw W y 0 := by
      show y ≤ (frg W 0).foldr (fun u a => max (u.2 + u.1 * y) a) 0
      omega
    exact Nat.le_trans a1 (gyw_mono hWm (Nat.zero_le _))
  refine ⟨⟨m30, a55⟩, T.2.2.2.1, T.2.2.2.2.1, DT_ok, fun b π w hπ sk hw' => E2_w ebw_mono e2w_mono (fun s s' hs => Zbw_mono hWm hFm (Nat.le_refl _) hs) π w sk, fun A ω b o ht hw' => ⟨?_, ?_⟩, fun b j j1 hj hb => ?_, fun b b' hb => ?_, fun b b' hb => gyw_mono hWm hb, fun b b' s s' hb hs => Zbw_mono hWm hFm hb hs, fun A ω b o hb hw' => ?_⟩
  · have tp := tch_pos o
    have c1 : Zx F (gyw W y b) (mt - 3 - b) ≤ X7w F W y cd mt := by
      have := mxr_le (k := mt - 2) (f := fun b => Zx F (gyw W y b) (mt - 3 - b)) (i := b) (by omega)
      unfold X7w
      exact le_mx (Or.inr (le_mx (Or.inr this)))
    have c2 : ∀ z, cpw F hv (gyw W y b) (mt - b) z ≤ cpo F W hv y cd mt z := by
      intro z
      have := mxr_le (k := mt - 2) (f := fun b => cpw F hv (gyw W y b) (mt - b) z) (i := b) (by omega)
      unfold cpo
      exact le_mx (Or.inr this)
    exact txt_cp hm T hFm H1 ebw_mono e2w_mono (Nat.le_trans y01 (yy b)) (show mt - b ≤ 56 by omega) (by rw [show mt - b - 3 = mt - 3 - b by omega]; exact c1) (fun z => ⟨by unfold ebw; exact le_mx (Or.inr (c2 z)), by unfold e2w; exact le_mx (Or.inr (c2 z))⟩) o (by omega) hw'
  · show _ ≤ Zx F (gyw W y b) (min (tch A + 2) 58)
    rw [Nat.min_eq_left (by omega)]
    exact Zx_le T o (by omega) (Nat.le_trans y01 (yy b)) hw'
  · unfold Vbw
    rw [if_pos (Nat.ble_eq_true_of_le (show 5 ≤ b by omega))]
    exact le_mx (Or.inr (Zbw_mono hWm hFm (Nat.le_refl _) (by omega)))
  · unfold Vbw
    by_cases c : 5 ≤ b
    · rw [if_pos (Nat.ble_eq_true_of_le c), if_pos (Nat.ble_eq_true_of_le (show 5 ≤ b' by omega))]
      have := Zbw_mono hWm hFm (y := y) hb (show b - 4 ≤ b' - 4 by omega)
      omega
    · have e : Nat.ble 5 b = false := by
        cases e : Nat.ble 5 b with
        | false => rfl
        | true => exact absurd (Nat.le_of_ble_eq_true e) c
      rw [e]
      exact Nat.max_le.mpr ⟨Nat.le_max_left _ _, Nat.zero_le _⟩
  · have eb : min b 38 = b := by omega
    have eb2 : min (b + tch A + 4) 38 = b + tch A + 4 := by omega
    obtain ⟨e, e0, e1, e2⟩ := fg1s_at hW1 (r := b) (by omega) y
    obtain ⟨u, u0, u1, u2, u3, u4⟩ := gr_step hn T hgr y01 e0 e1 o (fun j hj => by
      have := hw' j hj
      unfold gyw at this
      rw [eb, e2] at this
      exact this) hb
    have u5 : u.2 + u.1 * y ≤ gyw W y (b + tch A + 4) := by
      unfold gyw
      rw [eb2]
      exact Zx_mem (frg W (b + tch A + 4)) u u0
    exact ⟨Nat.le_trans u3 u5, Nat.le_trans u4 u5⟩
/-- values at most y, the long scheme an E0 + p * z: any term -/
theorem gen_fin5 (hn : NC t0 n1 s2 h) (hm : ∀ y y', y ≤ y' → h y ≤ h y') (hh : ∀ y δ, h (y + δ) ≤ h y + δ) (T : TBs 58 t0 fn s2 hv r0 r1 r2 r3 x0 n1 h P Q F G X) (hFm : frm F = true) (hgr : fgc F W hv = true) (hWm : fgm W = true) (hW1 : fg1s W = true) (hW : (1, 0) ∈ frg W 0) (H1 : ∀ y, h y ≤ hv + max 1 y) {f : Nat} {t S : Ty} {Δ1 : List Ty} {Δ : List (Nat × Ty × Nat)} {un : Bool} {a5 ob cd wB Bd y E0 p k : Nat} (w : TWf f (cxs Δ1 Γ0 (tAll B C)).length (Δ.map (fun a => a.1)) t) (he : TE (cxs Δ1 Γ0 (tAll B C)) Δ) (cu : un = true ∨ COk f t 0) (hm30 : mch t ≤ 30) (hb0 : ∀ b ∈ Γ0, nsch b = true ∨ flv b ≤ ob) (hb1 : ∀ b ∈ Δ1, nsch b = true ∨ flv b ≤ ob) (hdc : dch Δ ≤ cd) (hcd : cd ≤ 56) (a55 : a5 ≤ 5) (ha5 : Δ ≠ [] → a5 = 0) (y01 : x0 ≤ y) (hw : ∀ j, j < (cxs Δ1 Γ0 β').length → vw (onz t0 n1 s2 h (cxs Δ1 Γ0 β')) j ≤ y) (go : ∀ E Z, AQh t0 n1 s2 h E Z f t [] (onz t0 n1 s2 h (cxs Δ1 Γ0 β')) → HEk t0 n1 s2 h E (cxs Δ1 Γ0 (tAll B C)) (onz t0 n1 s2 h (cxs Δ1 Γ0 β')) → GOk t0 n1 s2 h E f t [] (onz t0 n1 s2 h (cxs Δ1 Γ0 β')) (cxs Δ1 Γ0 (tAll B C)) Δ) (vZ : ∀ z, nz t0 n1 s2 h (hzx h z (nz t0 n1 s2 h (onz t0 n1 s2 h Γ0) B) :: onz t0 n1 s2 h Γ0) C ≤ E0 + p * max z wB) (hwB : h (nz t0 n1 s2 h (onz t0 n1 s2 h Γ0) B) ≤ wB) (wBy : wB ≤ y) (hk : tch C ≤ k) (hk2 : k ≤ 50) (R1 : dpD un F W a5 hv fn s2 r0 r1 r2 r3 E0 p wB ob k y cd (mch t) ≤ Bd) (hS : tyF f t (cxs Δ1 Γ0 (tAll B C)) Δ = .inr S) : nz t0 n1 s2 h (onz t0 n1 s2 h (cxs Δ1 Γ0 β')) S ≤ Bd := by
  obtain ⟨oc0, oA⟩ := okc_low Δ1 he.1
  have oC := (ok_all.mp oA).2
  have l0 := onz_len t0 n1 s2 h Γ0
  have dh := dh_ok (un := un) (a5 := a5) (ob := ob) (cd := cd) (wB := wB) (y := y) (E0 := E0) (p := p) (k := k) (mt := mch t) hn hm T hFm hgr hWm hW1 hW H1 hm30 a55 y01
  have y7 : y ≤ X7w F W y cd (mch t) := Nat.le_max_left _ _
  have gy0 : y ≤ gyw W y 0 := by
    have a0 := Zx_mem (x := y) (frg W 0) (1, 0) hW
    simp only at a0
    show y ≤ (frg W 0).foldr (fun u a => max (u.2 + u.1 * y) a) 0
    omega
  have hω2 : ∀ j, j < (onz t0 n1 s2 h (cxs Δ1 Γ0 β')).length → vw (onz t0 n1 s2 h (cxs Δ1 Γ0 β')) j ≤ y := fun j hj => hw j (by rw [onz_len] at hj; exact hj)
  have l1 : (onz t0 n1 s2 h (cxs Δ1 Γ0 β')).length = (cxs Δ1 Γ0 (tAll B C)).length := by rw [onz_len, cxs_ll β' (tAll B C)]
  have hA2 : HS2 t0 n1 s2 h (ebw F W hv y cd (mch t) E0 p wB ob) (e2w F W hv y cd (mch t) k) (onz t0 n1 s2 h Γ0) (tAll B C) := by
    refine ⟨B, C, rfl, fun z => ?_, fun z => ?_⟩
    · refine Nat.le_trans (vZ z) ?_
      unfold ebw
      exact le_mx (Or.inl (Nat.le_max_left _ _))
    · have q4 := Zx_leh T (x := max z y) (z := z) (ω := hzx h z (nz t0 n1 s2 h (onz t0 n1 s2 h Γ0) B) :: onz t0 n1 s2 h Γ0) (A := C) (by rw [List.length_cons, l0]; exact oC) (by omega) (by omega) (by omega) (fun j hj => by
        rw [vw_cons]
        by_cases e : j = (onz t0 n1 s2 h Γ0).length
        · rw [if_pos e]
          unfold hzx
          omega
        · rw [if_neg e]
          rw [List.length_cons] at hj
          have q := onz_low (t0 := t0) (n1 := n1) (s2 := s2) (h := h) (Γ0 := Γ0) (β := β') Δ1 (j := j) (by rw [l0] at hj e; omega)
          have q2 := hw j (by rw [cxs_len]; rw [l0] at hj e; omega)
          rw [q] at q2
          omega)
      have q5 := Zx_ms hFm (x := max z y) (s := tch C + 2) (s' := k + 2) (by omega) (by omega)
      unfold e2w
      exact le_mx (Or.inl (Nat.le_trans q4 q5))
  have aq := DQa dh f t [] (onz t0 n1 s2 h (cxs Δ1 Γ0 β')) (cxs Δ1 Γ0 (tAll B C)) _ 0 0 w l1 (fun j hj => Nat.le_trans (hω2 j hj) gy0) (by omega) (fun e => absurd rfl e)
  have hk1 : HEk t0 n1 s2 h (E2 (X7w F W y cd (mch t)) (ebw F W hv y cd (mch t) E0 p wB ob) (e2w F W hv y cd (mch t) k)) (cxs Δ1 Γ0 (tAll B C)) (onz t0 n1 s2 h (cxs Δ1 Γ0 β')) := BE2.he ebw_mono e2w_mono hm hh he.1 l1 (BE2_cx (β' := β') (y := y) hn y7 hA2 (fun b hb => (hb0 b hb).imp id (fun c z => by have := Nat.mul_le_mul_right z c; unfold ebw; omega)) Δ1 hw (fun b hb => (hb1 b hb).imp id (fun c z => by have := Nat.mul_le_mul_right z c; unfold ebw; omega)))
  have dv : DVn t0 n1 s2 h (E2 (X7w F W y cd (mch t)) (ebw F W hv y cd (mch t) E0 p wB ob) (e2w F W hv y cd (mch t) k)) (Vbw F W y cd 0) (onz t0 n1 s2 h (cxs Δ1 Γ0 β')) Δ := by
    intro a ha
    obtain ⟨a1, a2, a3⟩ := he.2.2 a ha
    have ad := dch_mem ha
    have al : a.2.2 ≤ (onz t0 n1 s2 h (cxs Δ1 Γ0 β')).length := by rw [l1]; exact a1
    have ll : ((onz t0 n1 s2 h (cxs Δ1 Γ0 β')).drop ((onz t0 n1 s2 h (cxs Δ1 Γ0 β')).length - a.2.2)).length = a.2.2 := by rw [List.length_drop]; omega
    have vv : ∀ j, j < ((onz t0 n1 s2 h (cxs Δ1 Γ0 β')).drop ((onz t0 n1 s2 h (cxs Δ1 Γ0 β')).length - a.2.2)).length → vw ((onz t0 n1 s2 h (cxs Δ1 Γ0 β')).drop ((onz t0 n1 s2 h (cxs Δ1 Γ0 β')).length - a.2.2)) j ≤ y := by
      intro j hj
      have q := vw_app_lo ((onz t0 n1 s2 h (cxs Δ1 Γ0 β')).take ((onz t0 n1 s2 h (cxs Δ1 Γ0 β')).length - a.2.2)) _ j hj
      rw [List.take_append_drop] at q
      rw [← q]
      exact hω2 j (by rw [ll] at hj; omega)
    refine ⟨(onz t0 n1 s2 h (cxs Δ1 Γ0 β')).take ((onz t0 n1 s2 h (cxs Δ1 Γ0 β')).length - a.2.2), (onz t0 n1 s2 h (cxs Δ1 Γ0 β')).drop ((onz t0 n1 s2 h (cxs Δ1 Γ0 β')).length - a.2.2), (List.take_append_drop _ _).symm, ll, by rw [ll]; exact a2, ?_, ?_⟩
    · have q1 := Zx_le T (x := y) (A := a.2.1) (by rw [ll]; exact a2) (by omega) y01 vv
      have q2 := Zx_ms hFm (x := y) (s := tch a.2.1 + 2) (s' := cd - 2) (by omega) (by omega)
      exact Nat.le_trans q1 (Nat.le_trans q2 (Nat.le_max_left _ _))
    · have c1 : Zx F y (cd - 2 - 3) ≤ X7w F W y cd (mch t) := by
        unfold X7w
        exact le_mx (Or.inr (Nat.le_max_left _ _))
      have c2 : ∀ z, cpw F hv y (cd - 2) z ≤ cpo F W hv y cd (mch t) z := fun z => Nat.le_max_left _ _
      exact txt_cp hm T hFm H1 ebw_mono e2w_mono y01 (show cd - 2 ≤ 56 by omega) c1 (fun z => ⟨by unfold ebw; exact le_mx (Or.inr (c2 z)), by unfold e2w; exact le_mx (Or.inr (c2 z))⟩) (by rw [ll]; exact a2) (by omega) vv
  have q1 := tyF_vz hm f t (cxs Δ1 Γ0 (tAll B C)) Δ S [] (onz t0 n1 s2 h (cxs Δ1 Γ0 β')) w he hk1 (go _ _ aq hk1) hS
  rw [vz_no (tyF_ok f t _ Δ S w he hS).1] at q1
  have q2 := (DQ_all dh f t [] (onz t0 n1 s2 h (cxs Δ1 Γ0 β')) (cxs Δ1 Γ0 (tAll B C)) Δ 0 0 w l1 dv (fun j hj => Nat.le_trans (hω2 j hj) gy0) (by omega) (fun e => by have := ha5 e; omega) (fun e => absurd rfl e) cu).1 rfl
  exact Nat.le_trans q1 (Nat.le_trans q2 R1)
end PmX6
