/-! TERMS WHERE A LONG SCHEME'S BODY IS SMALL OR GONE; pairs. -/
section PmVx
variable {f : Nat} {t x y C Dm : Ty} {Γ0 Δ1 : List Ty} {Δ : List (Nat × Ty × Nat)}
theorem lhz_get {L : LmT} {XR W : FrT} {X : List Nat} {va k q1 q2 ob p : Nat} {v e : Nat × Nat} (h : lhz L XR W X va k q1 q2 ob = true) (hv' : v ∈ frg XR k) (hp : p ≤ v.1) (he : e ∈ frg W q2) : ∃ s ∈ lmg L (9 + k + q1 + q2), e.2 + e.1 * max (max 1 (X.getD q1 0)) va ≤ s.1 ∧ v.2 + (v.1 - p) * max 1 (X.getD q1 0) ≤ s.2.2.1 ∧ p ≤ s.2.2.2.1 ∧ ob ≤ s.2.2.2.2 := by
  unfold lhz at h
  have q := List.all_eq_true.mp (rng_all (List.all_eq_true.mp h v hv') (i := p) (by omega)) e he
  rw [List.any_eq_true] at q
  obtain ⟨s, hs, q⟩ := q
  rw [Bool.and_eq_true, Bool.and_eq_true, Bool.and_eq_true] at q
  exact ⟨s, hs, Nat.le_of_ble_eq_true q.1, Nat.le_of_ble_eq_true q.2.1, Nat.le_of_ble_eq_true q.2.2.1, Nat.le_of_ble_eq_true q.2.2.2⟩
theorem lha_get {L : LmT} {XR W : FrT} {X : List Nat} {va k q1 q2 : Nat} (h : lha L XR W X va = true) (k1 : 18 ≤ k) (hc : 9 + k + q1 + q2 ≤ 47) : lhz L XR W X va k q1 q2 (zob true q1 q2) = true := by
  unfold lha at h
  have q := rng_all (rng_all (rng_all h (i := k - 18) (by omega)) (i := q1) (by omega)) (i := q2) (by omega)
  rw [show 18 + (k - 18) = k by omega, Bool.or_eq_true] at q
  rcases q with q | q
  · exact (blt_no (by omega) q).elim
  · exact q
theorem lhc_get {L : LmT} {T : List (List Nat)} {P : List (List Nat)} {F : FrT} {X : List Nat} {hv wB c m : Nat} {s : Nat × Nat × Nat × Nat × Nat} (h : lhc L T P F X hv wB = true) (hc : c < 49) (hs : s ∈ lmg L c) (hm : m ≤ 17) (h5 : c + m + 5 ≤ 57) : smY1 P F X hv s.2.2.1 s.2.2.2.1 wB s.2.2.2.2 s.1 s.2.1 (57 - c - m) m (bhg T c m) = true := by
  unfold lhc at h
  have q := rng_all (List.all_eq_true.mp (rng_all h (i := c) hc) s hs) (i := m) (by omega)
  rw [Bool.or_eq_true] at q
  rcases q with q | q
  · exact (blt_no h5 q).elim
  · exact q
theorem lhs_get {T : List (List Nat)} {R c m n : Nat} (h : lhs T R = true) (hc : c < 49) (hm : m ≤ 17) (hn : n ≤ 17) (m1 : 1 ≤ m) (n1 : 1 ≤ n) (h5 : c + 5 + m + n ≤ 58) : bhg T c m + bhg T c n ≤ R := by
  unfold lhs at h
  have q := rng_all (rng_all (rng_all h (i := c) hc) (i := m) (by omega)) (i := n) (by omega)
  rw [Bool.or_eq_true, Bool.or_eq_true, Bool.or_eq_true] at q
  rcases q with q | q | q | q
  · exact (blt_no h5 q).elim
  · have := Nat.eq_of_beq_eq_true q; omega
  · have := Nat.eq_of_beq_eq_true q; omega
  · exact Nat.le_of_ble_eq_true q
theorem ob_long (hc : okc (cxs Δ1 Γ0 (tAll tTop C))) (h0 : cch Γ0 ≤ 56) (h1 : cch Δ1 ≤ 56) {s : Nat} (hs : zob true (cch Γ0) (cch Δ1) ≤ s) : (∀ b ∈ Γ0, nsch b = true ∨ flv b ≤ s) ∧ ∀ b ∈ Δ1, nsch b = true ∨ flv b ≤ s := by
  obtain ⟨oc0, -⟩ := okc_low Δ1 hc
  have hs : max (lmx fr1 (cch Γ0 - 4)) (lmx fr1 (cch Δ1 - 4)) ≤ s := hs
  refine ⟨fun b hb => Or.inr ?_, fun b hb => Or.inr ?_⟩
  · obtain ⟨d, h1, h2⟩ := okc_mch oc0 hb
    have := flv_lmx (k := cch Γ0 - 4) h1 (by omega) (by omega)
    omega
  · obtain ⟨d, h1, h2⟩ := okc_cxs hc hb
    have := flv_lmx (k := cch Δ1 - 4) h1 (by omega) (by omega)
    omega
/-- a term without a choice, the long scheme's body small -/
theorem long_v (w : TWf f (cxs Δ1 Γ0 (tAll tTop C)).length (Δ.map (fun a => a.1)) t) (he : TE (cxs Δ1 Γ0 (tAll tTop C)) Δ) (cf : CFt f t) (hs : smp f t) (oD : ok (Γ0.length + 1) Dm = true) (vD : ∀ b, vlr b 1 (mz b 1 Γ0 (tAll tTop Dm)) ≤ 7) (vG : gz Γ0 (tAll tTop Dm) ≤ 3) (k18 : 18 ≤ tch C) (hb : cch (cxs Δ1 Γ0 (tAll tTop C)) + dch Δ + mch t ≤ 57) (h5 : cch (cxs Δ1 Γ0 (tAll tTop C)) + mch t + 5 ≤ 57) (h47 : cch (cxs Δ1 Γ0 (tAll tTop C)) ≤ 47) : SmV Dm tTop C Γ0 Δ1 Δ f t (bhg bh1 (cch (cxs Δ1 Γ0 (tAll tTop C))) (mch t)) (bhg bhq (cch (cxs Δ1 Γ0 (tAll tTop C))) (mch t)) := by
  obtain ⟨co, nq, hg, h17⟩ := hs
  obtain ⟨oc0, oA⟩ := okc_low Δ1 he.1
  have oC := (ok_all.mp oA).2
  have ec : cch (cxs Δ1 Γ0 (tAll tTop C)) = 9 + tch C + cch Γ0 + cch Δ1 := by
    rw [cch_cx, tch_all, tch_top]
    omega
  rw [ec] at hb h5 h47 ⊢
  refine fun S hS => ⟨fun b => ?_, ?_⟩
  · obtain ⟨v, hv, x1, x2⟩ := xr_form (t0 := 0) (n1 := fun _ => 1 + 1) (s2 := 3) (hv := 1) xr1_ok (tbs1 b).2.2.2.1 (tbs1 b).2.2.2.2.1 _ C (Γ0.length + 1) (Nat.le_refl _) oC (by omega)
    obtain ⟨p, hp, e, he', g1, g2, g3⟩ := sm_ctx (wB := 2) (v := v) (va := 7) (Dm := Dm) (tbs1 b) fg1_ok (by decide) fg1_m (vlr_one b) he.1 oD (vD b) x1 x2 (by rw [nz_top]; exact vlr_one b 0) (Nat.le_refl _) (by omega) (Nat.le_refl _) (by omega)
    obtain ⟨s, hs, k1, k2, k3, k4⟩ := lhz_get (lha_get lh1_a k18 h47) hv hp he'
    have R := lhc_get lh1_ok (by omega) hs h17 (by omega)
    have o := ob_long he.1 (by omega) (by omega) k4
    exact sm_fin2 (NC_rows b 1) (vlr_mono b 1) (vlr_lip b 1) (tbs1 b) px1_ok fr1_m (Nat.le_refl _) (Nat.le_refl _) (vlr_one b) w he cf nq hg h17 o.1 o.2 (by omega) (by omega) (Nat.le_trans g1 k1) (fun j hj => Nat.le_trans (g2 j hj) k1) (fun z => Nat.le_trans (g3 z) (Nat.add_le_add k2 (Nat.mul_le_mul_right _ k3))) R hS
  · obtain ⟨v, hv, x1, x2⟩ := xr_form (t0 := 1) (n1 := ngc) (s2 := 1) (hv := 0) xrq_ok tbsq.2.2.2.1 tbsq.2.2.2.2.1 _ C (Γ0.length + 1) (Nat.le_refl _) oC (by omega)
    obtain ⟨p, hp, e, he', g1, g2, g3⟩ := sm_ctx (wB := 1) (v := v) (va := 3) (Dm := Dm) tbsq fgq_ok (by decide) fgq_m (fun y => by show y ≤ 0 + max 1 y; omega) he.1 oD vG x1 x2 (by rw [nz_top]; exact Nat.le_refl _) (Nat.le_refl _) (by omega) (Nat.le_refl _) (by omega)
    obtain ⟨s, hs, k1, k2, k3, k4⟩ := lhz_get (lha_get lhq_a k18 h47) hv hp he'
    have R := lhc_get lhq_ok (by omega) hs h17 (by omega)
    have o := ob_long he.1 (by omega) (by omega) k4
    exact sm_fin2 NC_goals (fun y y' hy => hy) (fun y δ => Nat.le_refl _) tbsq pxq_ok frq_m (by decide) (by decide) (fun y => by show y ≤ 0 + max 1 y; omega) w he cf nq hg h17 o.1 o.2 (by omega) (by omega) (Nat.le_trans g1 k1) (fun j hj => Nat.le_trans (g2 j hj) k1) (fun z => Nat.le_trans (g3 z) (Nat.add_le_add k2 (Nat.mul_le_mul_right _ k3))) R hS
end PmVx
