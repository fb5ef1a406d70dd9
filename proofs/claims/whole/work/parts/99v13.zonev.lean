/-! TERMS IN THE ZONE, by nature. -/
theorem cch_cx {Γ0 : List Ty} {β : Ty} : ∀ Δ1 : List Ty, cch (cxs Δ1 Γ0 β) = cch Δ1 + (tch β + 4) + cch Γ0
  | [] => by
    show (tch β + 4) + cch Γ0 = 0 + (tch β + 4) + cch Γ0
    omega
  | a :: Δ1 => by
    have := cch_cx (Γ0 := Γ0) (β := β) Δ1
    show (tch a + 4) + cch (cxs Δ1 Γ0 β) = (tch a + 4) + cch Δ1 + (tch β + 4) + cch Γ0
    omega
theorem okc_mch : ∀ {Γ : List Ty} {b : Ty}, okc Γ → b ∈ Γ → ∃ d, ok d b = true ∧ tch b + 4 ≤ cch Γ
  | a :: Γ, b, hc, hb => by
    rcases List.mem_cons.mp hb with e | e
    · refine ⟨Γ.length, by rw [e]; exact hc.1, ?_⟩
      show tch b + 4 ≤ (tch a + 4) + cch Γ
      rw [e]; omega
    · obtain ⟨d, h1, h2⟩ := okc_mch hc.2 e
      refine ⟨d, h1, ?_⟩
      show tch b + 4 ≤ (tch a + 4) + cch Γ
      omega
theorem okc_cxs {Γ0 : List Ty} {β : Ty} : ∀ {Δ1 : List Ty} {b : Ty}, okc (cxs Δ1 Γ0 β) → b ∈ Δ1 → ∃ d, ok d b = true ∧ tch b + 4 ≤ cch Δ1
  | a :: Δ1, b, hc, hb => by
    rcases List.mem_cons.mp hb with e | e
    · refine ⟨(cxs Δ1 Γ0 β).length, by rw [e]; exact hc.1, ?_⟩
      show tch b + 4 ≤ (tch a + 4) + cch Δ1
      rw [e]; omega
    · obtain ⟨d, h1, h2⟩ := okc_cxs (Γ0 := Γ0) (β := β) hc.2 e
      refine ⟨d, h1, ?_⟩
      show tch b + 4 ≤ (tch a + 4) + cch Δ1
      omega
/-- a term that is simple: no choice under an operation, at most one instance waiting, no instance under a binder -/
def smp (f : Nat) (t : Ty) : Prop := COk f t 0 ∧ NQk f t 0 ∧ (hasq f t = true → gqk f t = 0) ∧ mch t ≤ 17
section PmVs
variable {L : LmT} {XR W : FrT} {X : List Nat} {hv s2 wB k q1 q2 : Nat} {o : Bool}
theorem lma_get (h : lma L XR W X hv s2 wB o = true) (hz : zn o k q1 q2 = true) (k1 : 1 ≤ k) (h1 : q1 < 40) (h2 : q2 < 39) (hc : 9 + k + q1 + q2 ≤ 49) : lmz L XR W X hv s2 wB k q1 q2 (zob o q1 q2) = true := by
  have hz' := hz
  unfold zn at hz'
  rw [Bool.and_eq_true, Bool.and_eq_true] at hz'
  have a1 := Nat.le_of_ble_eq_true hz'.1.1
  have b1 : q1 < (if o then 17 else 40) ∧ q2 < (if o then 17 else 39) := by
    cases o with
    | false => exact ⟨h1, h2⟩
    | true =>
      have q := hz'.2
      rw [Bool.not_true, Bool.false_or, Bool.and_eq_true] at q
      have q3 := Nat.le_of_ble_eq_true q.1
      have q4 := Nat.le_of_ble_eq_true q.2
      exact ⟨show q1 < 17 by omega, show q2 < 17 by omega⟩
  unfold lma at h
  have q := rng_all (rng_all (rng_all h (i := k) (by omega)) (i := q1) b1.1) (i := q2) b1.2
  rw [Bool.or_eq_true, Bool.or_eq_true, Bool.or_eq_true] at q
  rcases q with q | q | q | q
  · exact (blt_no hc q).elim
  · rw [hz] at q; cases q
  · have := Nat.eq_of_beq_eq_true q
    omega
  · exact q
theorem lmz_get {ob p : Nat} {v e : Nat × Nat} (h : lmz L XR W X hv s2 wB k q1 q2 ob = true) (hv' : v ∈ frg XR k) (hp : p ≤ v.1) (he : e ∈ frg W q2) : ∃ s ∈ lmg L (9 + k + q1 + q2), e.2 + e.1 * max (max 1 (X.getD q1 0)) (hv + (s2 + (v.2 + (v.1 - p) * max 1 (X.getD q1 0) + p * wB))) ≤ s.1 ∧ v.2 + (v.1 - p) * max 1 (X.getD q1 0) ≤ s.2.2.1 ∧ p ≤ s.2.2.2.1 ∧ ob ≤ s.2.2.2.2 := by
  unfold lmz at h
  have q := List.all_eq_true.mp (rng_all (List.all_eq_true.mp h v hv') (i := p) (by omega)) e he
  rw [List.any_eq_true] at q
  obtain ⟨s, hs, q⟩ := q
  rw [Bool.and_eq_true, Bool.and_eq_true, Bool.and_eq_true] at q
  exact ⟨s, hs, Nat.le_of_ble_eq_true q.1, Nat.le_of_ble_eq_true q.2.1, Nat.le_of_ble_eq_true q.2.2.1, Nat.le_of_ble_eq_true q.2.2.2⟩
theorem lmc_get {P : List (List Nat)} {F : FrT} {Bd c m : Nat} {s : Nat × Nat × Nat × Nat × Nat} (h : lmc L P F X hv wB Bd = true) (hc : c < 50) (hs : s ∈ lmg L c) (hm : m ≤ 17) (h5 : c + 5 + 2 * m ≤ 58) : smY1 P F X hv s.2.2.1 s.2.2.2.1 wB s.2.2.2.2 s.1 s.2.1 (58 - 2 * m - c) m Bd = true := by
  unfold lmc at h
  have q := rng_all (List.all_eq_true.mp (rng_all h (i := c) hc) s hs) (i := m) (by omega)
  rw [Bool.or_eq_true] at q
  rcases q with q | q
  · exact (blt_no h5 q).elim
  · exact q
end PmVs
section PmVt
variable {f : Nat} {t C : Ty} {Γ0 Δ1 : List Ty} {Δ : List (Nat × Ty × Nat)} {o : Bool}
theorem zone_v (w : TWf f (cxs Δ1 Γ0 (tAll tTop C)).length (Δ.map (fun a => a.1)) t) (he : TE (cxs Δ1 Γ0 (tAll tTop C)) Δ) (hs : smp f t) (hz : zn o (tch C) (cch Γ0) (cch Δ1) = true) (ho : o = false → (∀ b ∈ Γ0, nsch b = true) ∧ ∀ b ∈ Δ1, nsch b = true) (hb : cch (cxs Δ1 Γ0 (tAll tTop C)) + dch Δ + 2 * mch t ≤ 58) (h5 : cch (cxs Δ1 Γ0 (tAll tTop C)) + 5 + 2 * mch t ≤ 58) (h49 : cch (cxs Δ1 Γ0 (tAll tTop C)) ≤ 48) : NtV (cxs Δ1 Γ0 (tAll tTop C)) Δ f t 830 597 := by
  obtain ⟨co, nq, hg, h17⟩ := hs
  obtain ⟨oc0, oA⟩ := okc_low Δ1 he.1
  have oC := (ok_all.mp oA).2
  have kp := tch_pos oC
  have ec : cch (cxs Δ1 Γ0 (tAll tTop C)) = 9 + tch C + cch Γ0 + cch Δ1 := by
    rw [cch_cx, tch_all, tch_top]
    omega
  rw [ec] at hb h5 h49
  have hz' := hz
  unfold zn at hz'
  rw [Bool.and_eq_true, Bool.and_eq_true] at hz'
  have k21 := Nat.le_of_ble_eq_true hz'.1.1
  have hob : ∀ s : Nat, zob o (cch Γ0) (cch Δ1) ≤ s → (∀ b ∈ Γ0, nsch b = true ∨ flv b ≤ s) ∧ ∀ b ∈ Δ1, nsch b = true ∨ flv b ≤ s := by
    intro s hs
    cases o with
    | false => exact ⟨fun b hb => Or.inl ((ho rfl).1 b hb), fun b hb => Or.inl ((ho rfl).2 b hb)⟩
    | true =>
      have hs : max (lmx fr1 (cch Γ0 - 4)) (lmx fr1 (cch Δ1 - 4)) ≤ s := hs
      refine ⟨fun b hb => Or.inr ?_, fun b hb => Or.inr ?_⟩
      · obtain ⟨d, h1, h2⟩ := okc_mch oc0 hb
        have := flv_lmx (k := cch Γ0 - 4) h1 (by omega) (by omega)
        omega
      · obtain ⟨d, h1, h2⟩ := okc_cxs he.1 hb
        have := flv_lmx (k := cch Δ1 - 4) h1 (by omega) (by omega)
        omega
  refine fun S hS => ⟨fun b => ?_, ?_⟩
  · obtain ⟨v, hv, x1, x2⟩ := xr_form (t0 := 0) (n1 := fun _ => 1 + 1) (s2 := 3) (hv := 1) xr1_ok (tbs1 b).2.2.2.1 (tbs1 b).2.2.2.2.1 _ C (Γ0.length + 1) (Nat.le_refl _) oC (by omega)
    obtain ⟨p, hp, e, he', g1, g2, g3⟩ := nat_ctx (wB := 2) (v := v) (tbs1 b) fg1_ok (by decide) fg1_m (vlr_one b) (by decide) he.1 x1 x2 (by rw [nz_top]; exact vlr_one b 0) (Nat.le_refl _) (by omega) (Nat.le_refl _) (by omega)
    have z1 : lmz lm1 xr1 fg1 fx1 1 3 2 (tch C) (cch Γ0) (cch Δ1) (zob o (cch Γ0) (cch Δ1)) = true := by
      cases o with
      | false => exact lma_get lm1_a hz kp (by omega) (by omega) (by omega)
      | true => exact lma_get lm1_b hz kp (by omega) (by omega) (by omega)
    obtain ⟨s, hs, k1, k2, k3, k4⟩ := lmz_get z1 hv hp he'
    have R := lmc_get lm1_ok (by omega) hs h17 (by omega)
    exact nat_fin2 (NC_rows b 1) (vlr_mono b 1) (vlr_lip b 1) (tbs1 b) px1_ok fr1_m (Nat.le_refl _) (Nat.le_refl _) (vlr_one b) w he co nq hg h17 (hob _ k4).1 (hob _ k4).2 (by omega) (by omega) (Nat.le_trans g1 k1) (fun j hj => Nat.le_trans (g2 j hj) k1) (fun z => Nat.le_trans (g3 z) (Nat.add_le_add k2 (Nat.mul_le_mul_right _ k3))) R hS
  · obtain ⟨v, hv, x1, x2⟩ := xr_form (t0 := 1) (n1 := ngc) (s2 := 1) (hv := 0) xrq_ok tbsq.2.2.2.1 tbsq.2.2.2.2.1 _ C (Γ0.length + 1) (Nat.le_refl _) oC (by omega)
    obtain ⟨p, hp, e, he', g1, g2, g3⟩ := nat_ctx (wB := 1) (v := v) tbsq fgq_ok (by decide) fgq_m (fun y => by show y ≤ 0 + max 1 y; omega) (by decide) he.1 x1 x2 (by rw [nz_top]; exact Nat.le_refl _) (Nat.le_refl _) (by omega) (Nat.le_refl _) (by omega)
    have z1 : lmz lmq xrq fgq fxq 0 1 1 (tch C) (cch Γ0) (cch Δ1) (zob o (cch Γ0) (cch Δ1)) = true := by
      cases o with
      | false => exact lma_get lmq_a hz kp (by omega) (by omega) (by omega)
      | true => exact lma_get lmq_b hz kp (by omega) (by omega) (by omega)
    obtain ⟨s, hs, k1, k2, k3, k4⟩ := lmz_get z1 hv hp he'
    have R := lmc_get lmq_ok (by omega) hs h17 (by omega)
    exact nat_fin2 NC_goals (fun y y' hy => hy) (fun y δ => Nat.le_refl _) tbsq pxq_ok frq_m (by decide) (by decide) (fun y => by show y ≤ 0 + max 1 y; omega) w he co nq hg h17 (hob _ k4).1 (hob _ k4).2 (by omega) (by omega) (Nat.le_trans g1 k1) (fun j hj => Nat.le_trans (g2 j hj) k1) (fun z => Nat.le_trans (g3 z) (Nat.add_le_add k2 (Nat.mul_le_mul_right _ k3))) R hS
end PmVt
