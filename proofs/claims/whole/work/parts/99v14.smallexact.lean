/-! A SCHEME'S BODY REPLACED OR GONE, the scheme's own instances counted exactly. -/
section PmVu
variable {t0 s2 X7 EP pb y : Nat} {n1 h eb : Nat → Nat} {B C β' : Ty} {Γ0 : List Ty}
theorem BEg_cxb (hn : NC t0 n1 s2 h) (h7 : y ≤ X7) (hA : HSg t0 n1 s2 h eb EP pb (onz t0 n1 s2 h Γ0) (tAll B C)) (hp0 : ∀ b ∈ Γ0, nsch b = true ∨ ∀ z, y + flv b * z ≤ eb z) : ∀ (Δ1 : List Ty), (∀ j, j < (cxs Δ1 Γ0 β').length → vw (onz t0 n1 s2 h (cxs Δ1 Γ0 β')) j ≤ y) → (∀ b ∈ Δ1, nsch b = true ∨ ∀ z, y + flv b * z ≤ eb z) → BEg t0 n1 s2 h X7 eb EP pb (cxs Δ1 Γ0 (tAll B C)) (onz t0 n1 s2 h (cxs Δ1 Γ0 β'))
  | [], hv, _ => by
    refine ⟨Or.inr hA, BEg_onz hn h7 (fun j hj => ?_) hp0⟩
    have l1 := onz_len t0 n1 s2 h Γ0
    have q2 := hv j (by rw [cxs_len]; omega)
    have e2 : vw (onz t0 n1 s2 h (cxs [] Γ0 β')) j = vw (onz t0 n1 s2 h Γ0) j := by
      show vw (h (nz t0 n1 s2 h (onz t0 n1 s2 h Γ0) β') :: onz t0 n1 s2 h Γ0) j = _
      rw [vw_cons, l1, if_neg (by omega)]
    rw [e2] at q2
    exact q2
  | a :: Δ1, hv, hp => by
    have l1 := onz_len t0 n1 s2 h (cxs Δ1 Γ0 β')
    have q := hv (cxs Δ1 Γ0 β').length (by show _ < (a :: cxs Δ1 Γ0 β').length; rw [List.length_cons]; omega)
    have e : vw (onz t0 n1 s2 h (cxs (a :: Δ1) Γ0 β')) (cxs Δ1 Γ0 β').length = h (nz t0 n1 s2 h (onz t0 n1 s2 h (cxs Δ1 Γ0 β')) a) := by
      show vw (h (nz t0 n1 s2 h (onz t0 n1 s2 h (cxs Δ1 Γ0 β')) a) :: onz t0 n1 s2 h (cxs Δ1 Γ0 β')) (cxs Δ1 Γ0 β').length = _
      rw [vw_cons, l1, if_pos rfl]
    rw [e] at q
    have q := Nat.le_trans (hn.2.2.1 _) q
    refine ⟨Or.inl ⟨Nat.le_trans q h7, (hp a (List.mem_cons_self ..)).imp id (fun c z => Nat.le_trans (Nat.add_le_add_right q _) (c z))⟩, BEg_cxb hn h7 hA hp0 Δ1 (fun j hj => ?_) (fun c hc => hp c (List.mem_cons_of_mem _ hc))⟩
    have q2 := hv j (by show j < (a :: cxs Δ1 Γ0 β').length; rw [List.length_cons]; omega)
    have e2 : vw (onz t0 n1 s2 h (cxs (a :: Δ1) Γ0 β')) j = vw (onz t0 n1 s2 h (cxs Δ1 Γ0 β')) j := by
      show vw (h (nz t0 n1 s2 h (onz t0 n1 s2 h (cxs Δ1 Γ0 β')) a) :: onz t0 n1 s2 h (cxs Δ1 Γ0 β')) j = _
      rw [vw_cons, l1, if_neg (by omega)]
    rw [e2] at q2
    exact q2
end PmVu
section PmVv
variable {t0 fn s2 hv r0 r1 r2 r3 x0 va : Nat} {n1 h : Nat → Nat} {P Q : List (List Nat)} {F G W : FrT} {X : List Nat} {B C Dm : Ty} {Γ0 : List Ty}
/-- values of a context in which the scheme's body is a small one -/
theorem sm_ctx (T : TBs 58 t0 fn s2 hv r0 r1 r2 r3 x0 n1 h P Q F G X) (hgr : fgc F W hv = true) (hW : (1, 0) ∈ frg W 0) (hWm : fgm W = true) (H1 : ∀ y, h y ≤ hv + max 1 y) {Δ1 : List Ty} {wB q1 q2 : Nat} {v : Nat × Nat} (hc : okc (cxs Δ1 Γ0 (tAll B C))) (oD : ok (Γ0.length + 1) Dm = true) (vD : h (nz t0 n1 s2 h (onz t0 n1 s2 h Γ0) (tAll B Dm)) ≤ va) (hv1 : xt (Γ0.length + 1) C ≤ v.1) (hv2 : xa t0 n1 s2 hv (Γ0.length + 1) C ≤ v.2) (hwB : h (nz t0 n1 s2 h (onz t0 n1 s2 h Γ0) B) ≤ wB) (hr : cch Γ0 ≤ q1) (hr' : q1 ≤ 56) (hr2 : cch Δ1 ≤ q2) (hr2' : q2 ≤ 38) : ∃ p, p ≤ v.1 ∧ ∃ e ∈ frg W q2, x0 ≤ e.2 + e.1 * max (max x0 (X.getD q1 0)) va ∧ (∀ j, j < (cxs Δ1 Γ0 (tAll B Dm)).length → vw (onz t0 n1 s2 h (cxs Δ1 Γ0 (tAll B Dm))) j ≤ e.2 + e.1 * max (max x0 (X.getD q1 0)) va) ∧ ∀ z, nz t0 n1 s2 h (hzx h z (nz t0 n1 s2 h (onz t0 n1 s2 h Γ0) B) :: onz t0 n1 s2 h Γ0) C ≤ v.2 + (v.1 - p) * max x0 (X.getD q1 0) + p * max z wB := by
  obtain ⟨oc0, oA⟩ := okc_low Δ1 hc
  have oB := (ok_all.mp oA).1
  have oC := (ok_all.mp oA).2
  have l0 := onz_len t0 n1 s2 h Γ0
  have hω : ∀ j, j < (onz t0 n1 s2 h Γ0).length → vw (onz t0 n1 s2 h Γ0) j ≤ max x0 (X.getD q1 0) := fun j hj => Nat.le_trans (onz_chars T.1 T.2.1 T.2.2.1 T.2.2.2.1 T.2.2.2.2.1 Γ0 oc0 (Nat.le_trans hr hr') j (by rw [l0] at hj; exact hj)) (Nat.le_trans (fxc_le T.2.1 hr hr') (Nat.le_max_right _ _))
  have x01 : x0 ≤ max x0 (X.getD q1 0) := Nat.le_max_left _ _
  generalize max x0 (X.getD q1 0) = y1 at *
  rw [xt_xo] at hv1
  have vC : ∀ z, nz t0 n1 s2 h (z :: onz t0 n1 s2 h Γ0) C ≤ v.2 + (v.1 - xf (Γ0.length + 1) Γ0.length C) * y1 + xf (Γ0.length + 1) Γ0.length C * z := by
    intro z
    have q := nz_xo (t0 := t0) (n1 := n1) (s2 := s2) H1 (t := C) (ω := onz t0 n1 s2 h Γ0) (z := z) (by rw [l0]; exact oC) hω
    rw [l0] at q
    have q2 := Nat.mul_le_mul_right y1 (show xo Γ0.length C ≤ v.1 - xf (Γ0.length + 1) Γ0.length C by omega)
    omega
  have hp : xf (Γ0.length + 1) Γ0.length C ≤ v.1 := by omega
  refine ⟨xf (Γ0.length + 1) Γ0.length C, hp, ?_⟩
  generalize xf (Γ0.length + 1) Γ0.length C = p at *
  have vZ : ∀ z, nz t0 n1 s2 h (hzx h z (nz t0 n1 s2 h (onz t0 n1 s2 h Γ0) B) :: onz t0 n1 s2 h Γ0) C ≤ v.2 + (v.1 - p) * y1 + p * max z wB := by
    intro z
    have q := vC (hzx h z (nz t0 n1 s2 h (onz t0 n1 s2 h Γ0) B))
    have q2 : hzx h z (nz t0 n1 s2 h (onz t0 n1 s2 h Γ0) B) ≤ max z wB := by
      unfold hzx
      omega
    have q3 := Nat.mul_le_mul_left p q2
    omega
  have h0' : ∀ j, j < (tAll B Dm :: Γ0).length → vw (onz t0 n1 s2 h (tAll B Dm :: Γ0)) j ≤ max y1 va := by
    intro j hj
    show vw (h (nz t0 n1 s2 h (onz t0 n1 s2 h Γ0) (tAll B Dm)) :: onz t0 n1 s2 h Γ0) j ≤ _
    rw [vw_cons, l0]
    by_cases e : j = Γ0.length
    · rw [if_pos e]
      exact Nat.le_trans vD (Nat.le_max_right _ _)
    · rw [if_neg e]
      rw [List.length_cons] at hj
      exact Nat.le_trans (hω j (by rw [l0]; omega)) (Nat.le_max_left _ _)
  obtain ⟨e, he', e1, hw⟩ := onz_gr T hgr hW (Nat.le_trans x01 (Nat.le_max_left _ _)) h0' Δ1 (cxd_okc oD Δ1 hc) (by omega)
  obtain ⟨e', he2, g1, g2⟩ := fgm_le hWm hr2 hr2' he'
  have m1 := Nat.mul_le_mul_right (max y1 va) g1
  refine ⟨e', he2, ?_, fun j hj => ?_, vZ⟩
  · have := Nat.mul_le_mul_right (max y1 va) e1
    omega
  · have := hw j hj
    omega
end PmVv
section PmVw
variable {t0 fn s2 hv r0 r1 r2 r3 x0 hb : Nat} {n1 h : Nat → Nat} {P Q : List (List Nat)} {F G W : FrT} {X : List Nat} {B C Dm : Ty} {Γ0 : List Ty}
theorem sm_fin2 (hn : NC t0 n1 s2 h) (hm : ∀ y y', y ≤ y' → h y ≤ h y') (hh : ∀ y δ, h (y + δ) ≤ h y + δ) (T : TBs 58 t0 fn s2 hv r0 r1 r2 r3 x0 n1 h P Q F G X) (hx : PXk 58 P F X fn s2 r1 = true) (hFm : frm F = true) (h21 : r2 ≤ r1) (h32 : r3 ≤ r2) (H1 : ∀ y, h y ≤ hv + max 1 y) {f : Nat} {t S : Ty} {Δ1 : List Ty} {Δ : List (Nat × Ty × Nat)} {ob cd wB Bd y E0 p cv : Nat} (w : TWf f (cxs Δ1 Γ0 (tAll B C)).length (Δ.map (fun a => a.1)) t) (he : TE (cxs Δ1 Γ0 (tAll B C)) Δ) (cf : CFt f t) (nq : NQk f t 0) (hg : hasq f t = true → gqk f t = 0) (hm17 : mch t ≤ 17) (hb0 : ∀ b ∈ Γ0, nsch b = true ∨ flv b ≤ ob) (hb1 : ∀ b ∈ Δ1, nsch b = true ∨ flv b ≤ ob) (hdc : dch Δ ≤ cd) (hcd : 2 ≤ cd) (y01 : x0 ≤ y) (hw : ∀ j, j < (cxs Δ1 Γ0 (tAll B Dm)).length → vw (onz t0 n1 s2 h (cxs Δ1 Γ0 (tAll B Dm))) j ≤ y) (vZ : ∀ z, nz t0 n1 s2 h (hzx h z (nz t0 n1 s2 h (onz t0 n1 s2 h Γ0) B) :: onz t0 n1 s2 h Γ0) C ≤ E0 + p * max z wB) (R1 : smY1 P F X hv E0 p wB ob y cv cd (mch t) Bd = true) (hS : tyF f t (cxs Δ1 Γ0 (tAll B C)) Δ = .inr S) : nz t0 n1 s2 h (onz t0 n1 s2 h (cxs Δ1 Γ0 (tAll B Dm))) S ≤ Bd := by
  unfold smY1 at R1
  rw [Bool.and_eq_true, Bool.and_eq_true] at R1
  obtain ⟨lk, n2', n4'⟩ := R1
  have lk := Nat.le_of_ble_eq_true lk
  have n2' := Nat.le_of_ble_eq_true n2'
  have hm1 : mch t ≤ 56 := by omega
  generalize hEA : nz t0 n1 s2 h (onz t0 n1 s2 h Γ0) (tAll B C) = EA
  have hω2 : ∀ j, j < (onz t0 n1 s2 h (cxs Δ1 Γ0 (tAll B Dm))).length → vw (onz t0 n1 s2 h (cxs Δ1 Γ0 (tAll B Dm))) j ≤ y := fun j hj => hw j (by rw [onz_len] at hj; exact hj)
  have hSc : ∀ (A : Ty) (ω : List Nat), hd A = 2 → ok ω.length A = true → tch A + 2 ≤ mch t → (∀ j, j < ω.length → vw ω j ≤ y) → HSg t0 n1 s2 h (eby F hv y (mch t) E0 p wB ob) (max EA (mxl (Zx F y) (mch t + 1))) (max (flv (tAll B C)) (lmx fr1 (mch t - 2))) ω A := by
    intro A ω h2 o ht hw
    have e1 := Zx_le T o (by omega) y01 hw
    have e2 := mxl_ge (f := Zx F y) (n := mch t + 1) (s := tch A + 2) (by omega)
    have e3 := flv_lmx (k := mch t - 2) o (by omega) (by omega)
    rcases ok_cases o with rfl | ⟨j, hj, rfl⟩ | ⟨a, b, rfl, ha, hb⟩ | ⟨a, b, rfl, ha, hb⟩ | ⟨c, u, v, w, hc, rfl, h0, h1, h2'⟩
    · exact absurd h2 (by decide)
    · rw [hd_var] at h2; omega
    · rw [hd_fun] at h2; omega
    · refine ⟨a, b, rfl, by omega, by omega, fun z => ?_⟩
      rw [tch_all] at ht
      have pa := tch_pos ha
      have pc := tch_pos hb
      have q1 := Zx_le T ha (by omega) y01 hw
      have q2 := Zx_ms hFm (x := y) (s := tch a + 2) (s' := mch t - 5) (by omega) (by omega)
      have q3 := H1 (nz t0 n1 s2 h ω a)
      have q4 : nz t0 n1 s2 h (hzx h z (nz t0 n1 s2 h ω a) :: ω) b ≤ Zx F (max (max z y) (hv + max 1 (Zx F y (mch t - 5)))) (tch b + 2) := by
        refine Zx_le T (by rw [List.length_cons]; exact hb) (by omega) (by omega) (fun j hj => ?_)
        rw [vw_cons]
        by_cases e : j = ω.length
        · rw [if_pos e]
          unfold hzx
          omega
        · rw [if_neg e]
          have := hw j (by rw [List.length_cons] at hj; omega)
          omega
      have q5 := Zx_ms hFm (x := max (max z y) (hv + max 1 (Zx F y (mch t - 5)))) (s := tch b + 2) (s' := mch t - 5) (by omega) (by omega)
      unfold eby
      exact Nat.le_trans q4 (Nat.le_trans q5 (Nat.le_max_right _ _))
    · rw [hd_rec] at h2; omega
  have hA : ∀ (A : Ty), ok (onz t0 n1 s2 h (cxs Δ1 Γ0 (tAll B Dm))).length A = true → tch A + 2 ≤ mch t → (∀ ρ, ρ ≠ [] → vz t0 n1 s2 h (Eg (max y (Zx F y (mch t - 3))) (eby F hv y (mch t) E0 p wB ob) (max EA (mxl (Zx F y) (mch t + 1))) (max (flv (tAll B C)) (lmx fr1 (mch t - 2)))) A ρ (onz t0 n1 s2 h (cxs Δ1 Γ0 (tAll B Dm))) ≤ Eg (max y (Zx F y (mch t - 3))) (eby F hv y (mch t) E0 p wB ob) (max EA (mxl (Zx F y) (mch t + 1))) (max (flv (tAll B C)) (lmx fr1 (mch t - 2))) ρ) ∧ nz t0 n1 s2 h (onz t0 n1 s2 h (cxs Δ1 Γ0 (tAll B Dm))) A ≤ Zx F y (tch A + 2) := fun A o ht => ⟨arg_g eby_mono hm hh T y01 hm1 (fun s hs => Nat.le_trans (Zx_ms hFm (x := y) (s := s) (s' := mch t - 3) (by omega) (by omega)) (Nat.le_max_right _ _)) hSc _ A _ (Nat.le_refl _) o ht hω2, Zx_le T o (by omega) y01 hω2⟩
  have l1 : (onz t0 n1 s2 h (cxs Δ1 Γ0 (tAll B Dm))).length = (cxs Δ1 Γ0 (tAll B C)).length := by rw [onz_len, cxs_ll (tAll B Dm) (tAll B C)]
  have aq := AH_0 (m0 := mch t) hA f t [] (cxs Δ1 Γ0 (tAll B C)) _ w l1 hg (Nat.le_refl _)
  have hB := BEg_cxb (β' := tAll B Dm) (EP := max EA (mxl (Zx F y) (mch t + 1))) (pb := max (flv (tAll B C)) (lmx fr1 (mch t - 2))) (eb := eby F hv y (mch t) E0 p wB ob) hn (Nat.le_max_left y (Zx F y (mch t - 3))) ⟨B, C, rfl, Nat.le_trans (Nat.le_of_eq hEA) (Nat.le_max_left _ _), Nat.le_max_left _ _, fun z => Nat.le_trans (vZ z) (by unfold eby; exact Nat.le_trans (Nat.le_max_left _ _) (Nat.le_max_left _ _))⟩ (fun b hb => (hb0 b hb).imp id (fun c z => by have := Nat.mul_le_mul_right z c; unfold eby; omega)) Δ1 hw (fun b hb => (hb1 b hb).imp id (fun c z => by have := Nat.mul_le_mul_right z c; unfold eby; omega))
  have go := GH_free (t0 := t0) (n1 := n1) (s2 := s2) (h := h) (E := (Eg (max y (Zx F y (mch t - 3))) (eby F hv y (mch t) E0 p wB ob) (max EA (mxl (Zx F y) (mch t + 1))) (max (flv (tAll B C)) (lmx fr1 (mch t - 2))))) (Z := Zx F y) f t [] (onz t0 n1 s2 h (cxs Δ1 Γ0 (tAll B Dm))) (cxs Δ1 Γ0 (tAll B C)) Δ w he cf aq l1
  have he2 : HEk t0 n1 s2 h (Eg (max y (Zx F y (mch t - 3))) (eby F hv y (mch t) E0 p wB ob) (max EA (mxl (Zx F y) (mch t + 1))) (max (flv (tAll B C)) (lmx fr1 (mch t - 2)))) (cxs Δ1 Γ0 (tAll B C)) (onz t0 n1 s2 h (cxs Δ1 Γ0 (tAll B Dm))) := BEg.he eby_mono hm hh he.1 l1 hB
  have q1 := tyF_vz hm f t (cxs Δ1 Γ0 (tAll B C)) Δ S [] (onz t0 n1 s2 h (cxs Δ1 Γ0 (tAll B Dm))) w he he2 go hS
  rw [vz_no (tyF_ok f t (cxs Δ1 Γ0 (tAll B C)) Δ S w he hS).1] at q1
  have hwX : ∀ j, j < (onz t0 n1 s2 h (cxs Δ1 Γ0 (tAll B Dm))).length → vw (onz t0 n1 s2 h (cxs Δ1 Γ0 (tAll B Dm))) j ≤ X.getD cv 0 := fun j hj => Nat.le_trans (hω2 j hj) lk
  have q2 := (SH_le (E := (Eg (max y (Zx F y (mch t - 3))) (eby F hv y (mch t) E0 p wB ob) (max EA (mxl (Zx F y) (mch t + 1))) (max (flv (tAll B C)) (lmx fr1 (mch t - 2))))) (Z := Zx F y) (hd := hdg (max y (Zx F y (mch t - 3))) (eby F hv y (mch t) E0 p wB ob) (Zx F y)) (Eg_m eby_mono) Eg_n (Eg_1 eby_mono) hm T hx h21 h32 (fun s => Nat.le_max_left _ _) f t [] (onz t0 n1 s2 h (cxs Δ1 Γ0 (tAll B Dm))) (cxs Δ1 Γ0 (tAll B C)) Δ cv cd 0 w he (CF_CO f t 0 cf) nq (Nat.zero_le _) aq l1 hwX (Nat.zero_le _) (fun e => by cases e) (fun _ => rfl) hdc hcd n2').1 rfl
  have bg := q2.mono q1
  exact natL_le n4' hm17 bg
end PmVw
