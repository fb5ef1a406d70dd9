/-! TERMS WHERE A LONG SCHEME'S BODY IS SMALL OR GONE; pairs: all terms without a choice under an operation. -/
section PmWm
variable {t0 fn s2 hv r0 r1 r2 r3 x0 hb : Nat} {n1 h : Nat → Nat} {P Q : List (List Nat)} {F G W : FrT} {X : List Nat} {B C Dm : Ty} {Γ0 : List Ty}
theorem sm_fin4 (hn : NC t0 n1 s2 h) (hm : ∀ y y', y ≤ y' → h y ≤ h y') (hh : ∀ y δ, h (y + δ) ≤ h y + δ) (T : TBs 58 t0 fn s2 hv r0 r1 r2 r3 x0 n1 h P Q F G X) (hx : PXk 58 P F X fn s2 r1 = true) (hFm : frm F = true) (hgr : fgc F W hv = true) (hW : (1, 0) ∈ frg W 0) (hWm : fgm W = true) (h21 : r2 ≤ r1) (h32 : r3 ≤ r2) (H1 : ∀ y, h y ≤ hv + max 1 y) {f : Nat} {t S : Ty} {Δ1 : List Ty} {Δ : List (Nat × Ty × Nat)} {ob cd wB Bd y E0 p cv k : Nat} (w : TWf f (cxs Δ1 Γ0 (tAll B C)).length (Δ.map (fun a => a.1)) t) (he : TE (cxs Δ1 Γ0 (tAll B C)) Δ) (cf : CFt f t) (hg : hasq f t = true → g3k f t + 3 ≤ mch t ∧ (mch t ≤ 11 ∨ g3k f t = 0)) (hm3 : 3 ≤ mch t) (hm17 : mch t ≤ 17) (hb0 : ∀ b ∈ Γ0, nsch b = true ∨ flv b ≤ ob) (hb1 : ∀ b ∈ Δ1, nsch b = true ∨ flv b ≤ ob) (hdc : dch Δ ≤ cd) (hcd : 2 ≤ cd) (y01 : x0 ≤ y) (hw : ∀ j, j < (cxs Δ1 Γ0 (tAll B Dm)).length → vw (onz t0 n1 s2 h (cxs Δ1 Γ0 (tAll B Dm))) j ≤ y) (vZ : ∀ z, nz t0 n1 s2 h (hzx h z (nz t0 n1 s2 h (onz t0 n1 s2 h Γ0) B) :: onz t0 n1 s2 h Γ0) C ≤ E0 + p * max z wB) (hwB : h (nz t0 n1 s2 h (onz t0 n1 s2 h Γ0) B) ≤ wB) (hk : tch C ≤ k) (hk2 : k ≤ 50) (R1 : smZ1 P F W X hv E0 p wB ob k y cv cd (mch t) Bd = true) (hS : tyF f t (cxs Δ1 Γ0 (tAll B C)) Δ = .inr S) : nz t0 n1 s2 h (onz t0 n1 s2 h (cxs Δ1 Γ0 (tAll B Dm))) S ≤ Bd := gen_fin4 (β' := tAll B Dm) hn hm hh T hx hFm hgr hW hWm h21 h32 H1 w he (CF_CO f t 0 cf) hg hm3 hm17 hb0 hb1 hdc hcd y01 hw (fun E Z aq => GH_free (t0 := t0) (n1 := n1) (s2 := s2) (h := h) (E := E) (Z := Z) f t [] (onz t0 n1 s2 h (cxs Δ1 Γ0 (tAll B Dm))) (cxs Δ1 Γ0 (tAll B C)) Δ w he cf aq (by rw [onz_len, cxs_ll (tAll B Dm) (tAll B C)])) vZ hwB hk hk2 R1 hS
theorem gone_fin4 (hn : NC t0 n1 s2 h) (hm : ∀ y y', y ≤ y' → h y ≤ h y') (hh : ∀ y δ, h (y + δ) ≤ h y + δ) (T : TBs 58 t0 fn s2 hv r0 r1 r2 r3 x0 n1 h P Q F G X) (hx : PXk 58 P F X fn s2 r1 = true) (hFm : frm F = true) (hgr : fgc F W hv = true) (hW : (1, 0) ∈ frg W 0) (hWm : fgm W = true) (h21 : r2 ≤ r1) (h32 : r3 ≤ r2) (H1 : ∀ y, h y ≤ hv + max 1 y) {f : Nat} {t S : Ty} {Δ1 : List Ty} {Δ : List (Nat × Ty × Nat)} {ob cd wB Bd y E0 p cv k : Nat} (w : TWf f (cxs Δ1 Γ0 (tAll B C)).length (Δ.map (fun a => a.1)) t) (he : TE (cxs Δ1 Γ0 (tAll B C)) Δ) (co : COk f t 0) (nC : noh hb C = true) (nh : NHt hb f t) (na : NAt f t) (hc : noac (cxs Δ1 Γ0 (tAll B C))) (s : SGc hb B C tTop Γ0 Δ1) (s' : SGc hb B C Dm Γ0 Δ1) (hd' : ∀ a ∈ Δ, noh hb a.2.1 = true ∧ noal a.2.1 = true) (hg : hasq f t = true → g3k f t + 3 ≤ mch t ∧ (mch t ≤ 11 ∨ g3k f t = 0)) (hm3 : 3 ≤ mch t) (hm17 : mch t ≤ 17) (hb0 : ∀ b ∈ Γ0, nsch b = true ∨ flv b ≤ ob) (hb1 : ∀ b ∈ Δ1, nsch b = true ∨ flv b ≤ ob) (hdc : dch Δ ≤ cd) (hcd : 2 ≤ cd) (y01 : x0 ≤ y) (hw : ∀ j, j < (cxs Δ1 Γ0 (tAll B Dm)).length → vw (onz t0 n1 s2 h (cxs Δ1 Γ0 (tAll B Dm))) j ≤ y) (vZ : ∀ z, nz t0 n1 s2 h (hzx h z (nz t0 n1 s2 h (onz t0 n1 s2 h Γ0) B) :: onz t0 n1 s2 h Γ0) C ≤ E0 + p * max z wB) (hwB : h (nz t0 n1 s2 h (onz t0 n1 s2 h Γ0) B) ≤ wB) (hk : tch C ≤ k) (hk2 : k ≤ 50) (R1 : smZ1 P F W X hv E0 p wB ob k y cv cd (mch t) Bd = true) (hS : tyF f t (cxs Δ1 Γ0 (tAll B C)) Δ = .inr S) : nz t0 n1 s2 h (onz t0 n1 s2 h (cxs Δ1 Γ0 (tAll B Dm))) S ≤ Bd := gen_fin4 (β' := tAll B Dm) hn hm hh T hx hFm hgr hW hWm h21 h32 H1 w he co hg hm3 hm17 hb0 hb1 hdc hcd y01 hw (fun E Z aq => GH_gone2 (E := E) (Z := Z) hn nC f t [] (onz t0 n1 s2 h (cxs Δ1 Γ0 (tAll B Dm))) Δ1 Δ w he co aq (onz_cv hn s'.o2) nh na hc s s' hd') vZ hwB hk hk2 R1 hS
end PmWm
section PmWn
variable {f : Nat} {t x y C Dm : Ty} {Γ0 Δ1 : List Ty} {Δ : List (Nat × Ty × Nat)}
theorem jwz_get {L : LnT} {XR W : FrT} {X : List Nat} {va k q1 q2 ob p : Nat} {v e : Nat × Nat} (h : jwz L XR W X va k q1 q2 ob = true) (hv' : v ∈ frg XR k) (hp : p ≤ v.1) (he : e ∈ frg W q2) : ∃ s ∈ lng L (9 + k + q1 + q2), e.2 + e.1 * max (max 1 (X.getD q1 0)) va ≤ s.1 ∧ v.2 + (v.1 - p) * max 1 (X.getD q1 0) ≤ s.2.2.1 ∧ p ≤ s.2.2.2.1 ∧ ob ≤ s.2.2.2.2.1 ∧ k ≤ s.2.2.2.2.2 := by
  unfold jwz at h
  have q := List.all_eq_true.mp (rng_all (List.all_eq_true.mp h v hv') (i := p) (by omega)) e he
  rw [List.any_eq_true] at q
  obtain ⟨s, hs, q⟩ := q
  rw [Bool.and_eq_true, Bool.and_eq_true, Bool.and_eq_true, Bool.and_eq_true] at q
  exact ⟨s, hs, Nat.le_of_ble_eq_true q.1, Nat.le_of_ble_eq_true q.2.1, Nat.le_of_ble_eq_true q.2.2.1, Nat.le_of_ble_eq_true q.2.2.2.1, Nat.le_of_ble_eq_true q.2.2.2.2⟩
theorem jwa_get {L : LnT} {XR W : FrT} {X : List Nat} {va k q1 q2 : Nat} (h : jwa L XR W X va = true) (k1 : 18 ≤ k) (z1 : q5 q1 = true) (z2 : q5 q2 = true) (hc : 9 + k + q1 + q2 ≤ 47) : jwz L XR W X va k q1 q2 (zob true q1 q2) = true := by
  unfold jwa at h
  have q0 := rng_all (rng_all h (i := k - 18) (by omega)) (i := q1) (by omega)
  rw [z1, Bool.not_true, Bool.false_or] at q0
  have q := rng_all q0 (i := q2) (by omega)
  rw [z2, Bool.not_true, Bool.false_or, show 18 + (k - 18) = k by omega, Bool.or_eq_true] at q
  rcases q with q | q
  · exact (blt_no (by omega) q).elim
  · exact q
theorem jwc_get {L : LnT} {T : List (List Nat)} {P : List (List Nat)} {F W : FrT} {X : List Nat} {hv wB c m : Nat} {s : Nat × Nat × Nat × Nat × Nat × Nat} (h : jwc L T P F W X hv wB = true) (hc : c < 48) (hs : s ∈ lng L c) (hm3 : 3 ≤ m) (hm : m ≤ 15) (h5 : c + m + 5 ≤ 55) : smZ1 P F W X hv s.2.2.1 s.2.2.2.1 wB s.2.2.2.2.1 s.2.2.2.2.2 s.1 s.2.1 (55 - c - m) m (bhg T c m) = true := by
  unfold jwc at h
  have q := rng_all (List.all_eq_true.mp (rng_all h (i := c) hc) s hs) (i := m) (by omega)
  rw [Bool.or_eq_true, Bool.or_eq_true] at q
  rcases q with q | q | q
  · exact (blt_no hm3 q).elim
  · exact (blt_no h5 q).elim
  · exact q
theorem jwm_get {T : List (List Nat)} {R : Nat} (h : jwm T R = true) (c m : Nat) : bhg T c m ≤ R := by
  unfold bhg
  rw [List.getD_eq_getElem?_getD, List.getD_eq_getElem?_getD]
  cases e : T[c]? with
  | none => exact Nat.zero_le _
  | some l =>
    have hl : l ∈ T := List.mem_of_getElem? e
    cases e2 : l[m]? with
    | none =>
      show (l[m]?).getD 0 ≤ R
      rw [e2]; exact Nat.zero_le _
    | some x =>
      show (l[m]?).getD 0 ≤ R
      rw [e2]
      unfold jwm at h
      exact Nat.le_of_ble_eq_true (List.all_eq_true.mp (List.all_eq_true.mp h l hl) x (List.mem_of_getElem? e2))
/-- a term without a choice, the long scheme's body small -/
theorem longw_v (w : TWf f (cxs Δ1 Γ0 (tAll tTop C)).length (Δ.map (fun a => a.1)) t) (he : TE (cxs Δ1 Γ0 (tAll tTop C)) Δ) (cf : CFt f t) (hs : smq f t) (oD : ok (Γ0.length + 1) Dm = true) (vD : ∀ b, vlr b 1 (mz b 1 Γ0 (tAll tTop Dm)) ≤ 7) (vG : gz Γ0 (tAll tTop Dm) ≤ 3) (k18 : 18 ≤ tch C) (hb : cch (cxs Δ1 Γ0 (tAll tTop C)) + dch Δ + mch t ≤ 55) (h5 : cch (cxs Δ1 Γ0 (tAll tTop C)) + mch t + 5 ≤ 55) (h47 : cch (cxs Δ1 Γ0 (tAll tTop C)) ≤ 47) : SmV Dm tTop C Γ0 Δ1 Δ f t (bhg uw1 (cch (cxs Δ1 Γ0 (tAll tTop C))) (mch t)) (bhg uwq (cch (cxs Δ1 Γ0 (tAll tTop C))) (mch t)) := by
  obtain ⟨co, hm3, h15, hg⟩ := hs
  obtain ⟨oc0, oA⟩ := okc_low Δ1 he.1
  have oC := (ok_all.mp oA).2
  have z5 := cch_q5 oc0
  have z6 := cxs_q5 he.1
  have ec : cch (cxs Δ1 Γ0 (tAll tTop C)) = 9 + tch C + cch Γ0 + cch Δ1 := by
    rw [cch_cx, tch_all, tch_top]
    omega
  rw [ec] at hb h5 h47 ⊢
  refine fun S hS => ⟨fun b => ?_, ?_⟩
  · have wb : vlr b 1 (nz 0 (fun _ => 1 + 1) (2 + 1) (vlr b 1) (onz 0 (fun _ => 1 + 1) (2 + 1) (vlr b 1) Γ0) tTop) ≤ 2 := by rw [nz_top]; exact vlr_one b 0
    obtain ⟨v, hv, x1, x2⟩ := xr_form (t0 := 0) (n1 := fun _ => 1 + 1) (s2 := 3) (hv := 1) xr1_ok (tbs1 b).2.2.2.1 (tbs1 b).2.2.2.2.1 _ C (Γ0.length + 1) (Nat.le_refl _) oC (by omega)
    obtain ⟨p, hp, e, he', g1, g2, g3⟩ := sm_ctx (wB := 2) (v := v) (va := 7) (Dm := Dm) (tbs1 b) fg1_ok (by decide) fg1_m (vlr_one b) he.1 oD (vD b) x1 x2 wb (Nat.le_refl _) (by omega) (Nat.le_refl _) (by omega)
    obtain ⟨s, hs, k1, k2, k3, k4, k5⟩ := jwz_get (jwa_get jw1_a k18 z5 z6 h47) hv hp he'
    have R := jwc_get jw1_ok (by omega) hs hm3 h15 (by omega)
    have o := ob_long he.1 (by omega) (by omega) k4
    exact sm_fin4 (NC_rows b 1) (vlr_mono b 1) (vlr_lip b 1) (tbs1 b) px1_ok fr1_m fg1_ok (by decide) fg1_m (Nat.le_refl _) (Nat.le_refl _) (vlr_one b) w he cf hg hm3 (by omega) o.1 o.2 (by omega) (by omega) (Nat.le_trans g1 k1) (fun j hj => Nat.le_trans (g2 j hj) k1) (fun z => Nat.le_trans (g3 z) (Nat.add_le_add k2 (Nat.mul_le_mul_right _ k3))) wb k5 (lnk jw1_k hs) R hS
  · have wb : (fun x => x) (nz 1 ngc 1 (fun x => x) (onz 1 ngc 1 (fun x => x) Γ0) tTop) ≤ 1 := by rw [nz_top]; exact Nat.le_refl _
    obtain ⟨v, hv, x1, x2⟩ := xr_form (t0 := 1) (n1 := ngc) (s2 := 1) (hv := 0) xrq_ok tbsq.2.2.2.1 tbsq.2.2.2.2.1 _ C (Γ0.length + 1) (Nat.le_refl _) oC (by omega)
    obtain ⟨p, hp, e, he', g1, g2, g3⟩ := sm_ctx (wB := 1) (v := v) (va := 3) (Dm := Dm) tbsq fgq_ok (by decide) fgq_m (fun y => by show y ≤ 0 + max 1 y; omega) he.1 oD vG x1 x2 wb (Nat.le_refl _) (by omega) (Nat.le_refl _) (by omega)
    obtain ⟨s, hs, k1, k2, k3, k4, k5⟩ := jwz_get (jwa_get jwq_a k18 z5 z6 h47) hv hp he'
    have R := jwc_get jwq_ok (by omega) hs hm3 h15 (by omega)
    have o := ob_long he.1 (by omega) (by omega) k4
    exact sm_fin4 NC_goals (fun y y' hy => hy) (fun y δ => Nat.le_refl _) tbsq pxq_ok frq_m fgq_ok (by decide) fgq_m (by decide) (by decide) (fun y => by show y ≤ 0 + max 1 y; omega) w he cf hg hm3 (by omega) o.1 o.2 (by omega) (by omega) (Nat.le_trans g1 k1) (fun j hj => Nat.le_trans (g2 j hj) k1) (fun z => Nat.le_trans (g3 z) (Nat.add_le_add k2 (Nat.mul_le_mul_right _ k3))) wb k5 (lnk jwq_k hs) R hS
/-- a term with choices where no other scheme has a bound Top -/
theorem gone_lw (w : TWf f (cxs Δ1 Γ0 (tAll tTop C)).length (Δ.map (fun a => a.1)) t) (he : TE (cxs Δ1 Γ0 (tAll tTop C)) Δ) (nC : noh 0 C = true) (nh : NHt 0 f t) (na : NAt f t) (hc : noac (cxs Δ1 Γ0 (tAll tTop C))) (sg : SGc 0 tTop C tTop Γ0 Δ1) (hd' : ∀ a ∈ Δ, noh 0 a.2.1 = true ∧ noal a.2.1 = true) (hs : smq f t) (oD : ok (Γ0.length + 1) Dm = true) (vD : ∀ b, vlr b 1 (mz b 1 Γ0 (tAll tTop Dm)) ≤ 7) (vG : gz Γ0 (tAll tTop Dm) ≤ 3) (k18 : 18 ≤ tch C) (hb : cch (cxs Δ1 Γ0 (tAll tTop C)) + dch Δ + mch t ≤ 55) (h5 : cch (cxs Δ1 Γ0 (tAll tTop C)) + mch t + 5 ≤ 55) (h47 : cch (cxs Δ1 Γ0 (tAll tTop C)) ≤ 47) : SmV Dm tTop C Γ0 Δ1 Δ f t (bhg uw1 (cch (cxs Δ1 Γ0 (tAll tTop C))) (mch t)) (bhg uwq (cch (cxs Δ1 Γ0 (tAll tTop C))) (mch t)) := by
  obtain ⟨co, hm3, h15, hg⟩ := hs
  obtain ⟨oc0, oA⟩ := okc_low Δ1 he.1
  have oC := (ok_all.mp oA).2
  have z5 := cch_q5 oc0
  have z6 := cxs_q5 he.1
  have ec : cch (cxs Δ1 Γ0 (tAll tTop C)) = 9 + tch C + cch Γ0 + cch Δ1 := by
    rw [cch_cx, tch_all, tch_top]
    omega
  rw [ec] at hb h5 h47 ⊢
  refine fun S hS => ⟨fun b => ?_, ?_⟩
  · have wb : vlr b 1 (nz 0 (fun _ => 1 + 1) (2 + 1) (vlr b 1) (onz 0 (fun _ => 1 + 1) (2 + 1) (vlr b 1) Γ0) tTop) ≤ 2 := by rw [nz_top]; exact vlr_one b 0
    obtain ⟨v, hv, x1, x2⟩ := xr_form (t0 := 0) (n1 := fun _ => 1 + 1) (s2 := 3) (hv := 1) xr1_ok (tbs1 b).2.2.2.1 (tbs1 b).2.2.2.2.1 _ C (Γ0.length + 1) (Nat.le_refl _) oC (by omega)
    obtain ⟨p, hp, e, he', g1, g2, g3⟩ := sm_ctx (wB := 2) (v := v) (va := 7) (Dm := Dm) (tbs1 b) fg1_ok (by decide) fg1_m (vlr_one b) he.1 oD (vD b) x1 x2 wb (Nat.le_refl _) (by omega) (Nat.le_refl _) (by omega)
    obtain ⟨s, hs, k1, k2, k3, k4, k5⟩ := jwz_get (jwa_get jw1_a k18 z5 z6 h47) hv hp he'
    have R := jwc_get jw1_ok (by omega) hs hm3 h15 (by omega)
    have o := ob_long he.1 (by omega) (by omega) k4
    exact gone_fin4 (NC_rows b 1) (vlr_mono b 1) (vlr_lip b 1) (tbs1 b) px1_ok fr1_m fg1_ok (by decide) fg1_m (Nat.le_refl _) (Nat.le_refl _) (vlr_one b) w he co nC nh na hc sg ⟨sg.1, sg.2.1, sg.o1, cxd_okc oD Δ1 he.1, sg.nc⟩ hd' hg hm3 (by omega) o.1 o.2 (by omega) (by omega) (Nat.le_trans g1 k1) (fun j hj => Nat.le_trans (g2 j hj) k1) (fun z => Nat.le_trans (g3 z) (Nat.add_le_add k2 (Nat.mul_le_mul_right _ k3))) wb k5 (lnk jw1_k hs) R hS
  · have wb : (fun x => x) (nz 1 ngc 1 (fun x => x) (onz 1 ngc 1 (fun x => x) Γ0) tTop) ≤ 1 := by rw [nz_top]; exact Nat.le_refl _
    obtain ⟨v, hv, x1, x2⟩ := xr_form (t0 := 1) (n1 := ngc) (s2 := 1) (hv := 0) xrq_ok tbsq.2.2.2.1 tbsq.2.2.2.2.1 _ C (Γ0.length + 1) (Nat.le_refl _) oC (by omega)
    obtain ⟨p, hp, e, he', g1, g2, g3⟩ := sm_ctx (wB := 1) (v := v) (va := 3) (Dm := Dm) tbsq fgq_ok (by decide) fgq_m (fun y => by show y ≤ 0 + max 1 y; omega) he.1 oD vG x1 x2 wb (Nat.le_refl _) (by omega) (Nat.le_refl _) (by omega)
    obtain ⟨s, hs, k1, k2, k3, k4, k5⟩ := jwz_get (jwa_get jwq_a k18 z5 z6 h47) hv hp he'
    have R := jwc_get jwq_ok (by omega) hs hm3 h15 (by omega)
    have o := ob_long he.1 (by omega) (by omega) k4
    exact gone_fin4 NC_goals (fun y y' hy => hy) (fun y δ => Nat.le_refl _) tbsq pxq_ok frq_m fgq_ok (by decide) fgq_m (by decide) (by decide) (fun y => by show y ≤ 0 + max 1 y; omega) w he co nC nh na hc sg ⟨sg.1, sg.2.1, sg.o1, cxd_okc oD Δ1 he.1, sg.nc⟩ hd' hg hm3 (by omega) o.1 o.2 (by omega) (by omega) (Nat.le_trans g1 k1) (fun j hj => Nat.le_trans (g2 j hj) k1) (fun z => Nat.le_trans (g3 z) (Nat.add_le_add k2 (Nat.mul_le_mul_right _ k3))) wb k5 (lnk jwq_k hs) R hS
/-- a term without a choice, or with choices where no other scheme has a bound Top -/
def SMw (C : Ty) (Γ0 Δ1 : List Ty) (Δ : List (Nat × Ty × Nat)) (f : Nat) (t : Ty) : Prop := smq f t ∧ (CFt f t ∨ (noh 0 C = true ∧ NHt 0 f t ∧ SGc 0 tTop C tTop Γ0 Δ1 ∧ ∀ a ∈ Δ, noh 0 a.2.1 = true))
theorem SMw.v (w : TWf f (cxs Δ1 Γ0 (tAll tTop C)).length (Δ.map (fun a => a.1)) t) (he : TE (cxs Δ1 Γ0 (tAll tTop C)) Δ) (z : SMw C Γ0 Δ1 Δ f t) (na : NAt f t) (hc : noac (cxs Δ1 Γ0 (tAll tTop C))) (hd' : ∀ a ∈ Δ, noal a.2.1 = true) (oD : ok (Γ0.length + 1) Dm = true) (vD : ∀ b, vlr b 1 (mz b 1 Γ0 (tAll tTop Dm)) ≤ 7) (vG : gz Γ0 (tAll tTop Dm) ≤ 3) (k18 : 18 ≤ tch C) (hb : cch (cxs Δ1 Γ0 (tAll tTop C)) + dch Δ + mch t ≤ 55) (h5 : cch (cxs Δ1 Γ0 (tAll tTop C)) + mch t + 5 ≤ 55) (h47 : cch (cxs Δ1 Γ0 (tAll tTop C)) ≤ 47) : SmV Dm tTop C Γ0 Δ1 Δ f t (bhg uw1 (cch (cxs Δ1 Γ0 (tAll tTop C))) (mch t)) (bhg uwq (cch (cxs Δ1 Γ0 (tAll tTop C))) (mch t)) := by
  obtain ⟨hs, cf | ⟨nC, nh, sg, nd⟩⟩ := z
  · exact longw_v w he cf hs oD vD vG k18 hb h5 h47
  · exact gone_lw w he nC nh na hc sg (fun a ha => ⟨nd a ha, hd' a ha⟩) hs oD vD vG k18 hb h5 h47
end PmWn
