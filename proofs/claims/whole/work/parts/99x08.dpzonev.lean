/-! THE ZONE, by nature: any term without a choice under an operation. -/
theorem lnd_get {un : Bool} {L : LnT} {F W : FrT} {hv fn s2 r0 r1 r2 r3 wB Bd a b m0 m1 c m : Nat} (h : lnd un L F W hv fn s2 r0 r1 r2 r3 wB Bd a b m0 m1 = true) (ha : a ≤ c) (hb : c < b) (h0 : m0 ≤ m) (h1 : m < m1) (hc : c + 2 * m ≤ 58) {s : Nat × Nat × Nat × Nat × Nat × Nat} (hs : s ∈ lng L c) : (5 ≤ 58 - 2 * m - c → dpD un F W 0 hv fn s2 r0 r1 r2 r3 s.2.2.1 s.2.2.2.1 wB s.2.2.2.2.1 s.2.2.2.2.2 s.1 (58 - 2 * m - c) m ≤ Bd) ∧ dpD un F W 5 hv fn s2 r0 r1 r2 r3 s.2.2.1 s.2.2.2.1 wB s.2.2.2.2.1 s.2.2.2.2.2 s.1 0 m ≤ Bd := by
  unfold lnd at h
  have q := rng_all h (i := c) hb
  rw [Bool.or_eq_true] at q
  rcases q with q | q
  · exact (blt_no ha q).elim
  have q := rng_all (List.all_eq_true.mp q s hs) (i := m) h1
  rw [Bool.or_eq_true, Bool.or_eq_true] at q
  rcases q with q | q | q
  · exact (blt_no h0 q).elim
  · exact (blt_no hc q).elim
  rw [Bool.and_eq_true, Bool.or_eq_true] at q
  refine ⟨fun h5 => ?_, Nat.le_of_ble_eq_true q.2⟩
  rcases q.1 with e | e
  · exact (blt_no h5 e).elim
  · exact Nat.le_of_ble_eq_true e
theorem lnz_e1 {W : FrT} (h : fg1s W = true) {r : Nat} (hr : r ≤ 38) {e : Nat × Nat} (he : e ∈ frg W r) : 1 ≤ e.1 := by
  unfold fg1s at h
  have q := rng_all h (i := r) (by omega)
  rw [Bool.and_eq_true] at q
  exact Nat.le_of_ble_eq_true (List.all_eq_true.mp q.2 e he)
theorem ln1_all {c m : Nat} (h20 : 20 ≤ c) (h47 : c ≤ 47) (hc : c + 2 * m ≤ 58) {s : Nat × Nat × Nat × Nat × Nat × Nat} (hs : s ∈ lng ln1 c) : (5 ≤ 58 - 2 * m - c → dpD false fr1 fg1 0 1 2 3 2 2 2 2 s.2.2.1 s.2.2.2.1 2 s.2.2.2.2.1 s.2.2.2.2.2 s.1 (58 - 2 * m - c) m ≤ 830) ∧ dpD false fr1 fg1 5 1 2 3 2 2 2 2 s.2.2.1 s.2.2.2.1 2 s.2.2.2.2.1 s.2.2.2.2.2 s.1 0 m ≤ 830 := by
  by_cases c30 : c < 30
  · skip
    by_cases q25 : c < 25
    · skip
      by_cases q22 : c < 22
      · skip
        by_cases q21 : c < 21
        · skip
          have e : c = 20 := by omega
          subst e
          by_cases m15 : m < 16
          · exact lnd_get ln1_d20 (Nat.le_refl _) (by decide) (Nat.zero_le _) m15 hc hs
          by_cases p16 : m = 16
          · subst p16; exact lnd_get ln1_l20_16 (Nat.le_refl _) (by decide) (Nat.le_refl _) (by decide) hc hs
          by_cases p17 : m = 17
          · subst p17; exact lnd_get ln1_l20_17 (Nat.le_refl _) (by decide) (Nat.le_refl _) (by decide) hc hs
          by_cases p18 : m = 18
          · subst p18; exact lnd_get ln1_l20_18 (Nat.le_refl _) (by decide) (Nat.le_refl _) (by decide) hc hs
          have p19 : m = 19 := by omega
          subst p19; exact lnd_get ln1_l20_19 (Nat.le_refl _) (by decide) (Nat.le_refl _) (by decide) hc hs
        · skip
          have e : c = 21 := by omega
          subst e
          by_cases m15 : m < 16
          · exact lnd_get ln1_d21 (Nat.le_refl _) (by decide) (Nat.zero_le _) m15 hc hs
          by_cases p16 : m = 16
          · subst p16; exact lnd_get ln1_l21_16 (Nat.le_refl _) (by decide) (Nat.le_refl _) (by decide) hc hs
          by_cases p17 : m = 17
          · subst p17; exact lnd_get ln1_l21_17 (Nat.le_refl _) (by decide) (Nat.le_refl _) (by decide) hc hs
          have p18 : m = 18 := by omega
          subst p18; exact lnd_get ln1_l21_18 (Nat.le_refl _) (by decide) (Nat.le_refl _) (by decide) hc hs
      · skip
        by_cases q23 : c < 23
        · skip
          have e : c = 22 := by omega
          subst e
          by_cases m15 : m < 16
          · exact lnd_get ln1_d22 (Nat.le_refl _) (by decide) (Nat.zero_le _) m15 hc hs
          by_cases p16 : m = 16
          · subst p16; exact lnd_get ln1_l22_16 (Nat.le_refl _) (by decide) (Nat.le_refl _) (by decide) hc hs
          by_cases p17 : m = 17
          · subst p17; exact lnd_get ln1_l22_17 (Nat.le_refl _) (by decide) (Nat.le_refl _) (by decide) hc hs
          have p18 : m = 18 := by omega
          subst p18; exact lnd_get ln1_l22_18 (Nat.le_refl _) (by decide) (Nat.le_refl _) (by decide) hc hs
        · skip
          by_cases q24 : c < 24
          · skip
            have e : c = 23 := by omega
            subst e
            by_cases m15 : m < 16
            · exact lnd_get ln1_d23 (Nat.le_refl _) (by decide) (Nat.zero_le _) m15 hc hs
            by_cases p16 : m = 16
            · subst p16; exact lnd_get ln1_l23_16 (Nat.le_refl _) (by decide) (Nat.le_refl _) (by decide) hc hs
            have p17 : m = 17 := by omega
            subst p17; exact lnd_get ln1_l23_17 (Nat.le_refl _) (by decide) (Nat.le_refl _) (by decide) hc hs
          · skip
            have e : c = 24 := by omega
            subst e
            by_cases m15 : m < 16
            · exact lnd_get ln1_d24 (Nat.le_refl _) (by decide) (Nat.zero_le _) m15 hc hs
            by_cases p16 : m = 16
            · subst p16; exact lnd_get ln1_l24_16 (Nat.le_refl _) (by decide) (Nat.le_refl _) (by decide) hc hs
            have p17 : m = 17 := by omega
            subst p17; exact lnd_get ln1_l24_17 (Nat.le_refl _) (by decide) (Nat.le_refl _) (by decide) hc hs
    · skip
      by_cases q27 : c < 27
      · skip
        by_cases q26 : c < 26
        · skip
          have e : c = 25 := by omega
          subst e
          by_cases m15 : m < 16
          · exact lnd_get ln1_d25 (Nat.le_refl _) (by decide) (Nat.zero_le _) m15 hc hs
          have p16 : m = 16 := by omega
          subst p16; exact lnd_get ln1_l25_16 (Nat.le_refl _) (by decide) (Nat.le_refl _) (by decide) hc hs
        · skip
          have e : c = 26 := by omega
          subst e
          by_cases m15 : m < 16
          · exact lnd_get ln1_d26 (Nat.le_refl _) (by decide) (Nat.zero_le _) m15 hc hs
          have p16 : m = 16 := by omega
          subst p16; exact lnd_get ln1_l26_16 (Nat.le_refl _) (by decide) (Nat.le_refl _) (by decide) hc hs
      · skip
        by_cases q28 : c < 28
        · skip
          have e : c = 27 := by omega
          subst e
          exact lnd_get ln1_d27 (Nat.le_refl _) (by decide) (Nat.zero_le _) (by omega) hc hs
        · skip
          by_cases q29 : c < 29
          · skip
            have e : c = 28 := by omega
            subst e
            exact lnd_get ln1_d28 (Nat.le_refl _) (by decide) (Nat.zero_le _) (by omega) hc hs
          · skip
            have e : c = 29 := by omega
            subst e
            exact lnd_get ln1_d29 (Nat.le_refl _) (by decide) (Nat.zero_le _) (by omega) hc hs
  · by_cases c36 : c < 36
    · exact lnd_get ln1_d30 (by omega) c36 (Nat.zero_le _) (by omega) hc hs
    · exact lnd_get ln1_d36 (by omega) (by omega) (Nat.zero_le _) (by omega) hc hs
theorem lnq_all {c m : Nat} (h20 : 20 ≤ c) (h47 : c ≤ 47) (hc : c + 2 * m ≤ 58) {s : Nat × Nat × Nat × Nat × Nat × Nat} (hs : s ∈ lng lnq c) : (5 ≤ 58 - 2 * m - c → dpD false frq fgq 0 0 1 1 1 3 2 1 s.2.2.1 s.2.2.2.1 1 s.2.2.2.2.1 s.2.2.2.2.2 s.1 (58 - 2 * m - c) m ≤ 597) ∧ dpD false frq fgq 5 0 1 1 1 3 2 1 s.2.2.1 s.2.2.2.1 1 s.2.2.2.2.1 s.2.2.2.2.2 s.1 0 m ≤ 597 := by
  by_cases c30 : c < 30
  · skip
    by_cases q25 : c < 25
    · skip
      by_cases q22 : c < 22
      · skip
        by_cases q21 : c < 21
        · skip
          have e : c = 20 := by omega
          subst e
          by_cases m15 : m < 16
          · exact lnd_get lnq_d20 (Nat.le_refl _) (by decide) (Nat.zero_le _) m15 hc hs
          by_cases p16 : m = 16
          · subst p16; exact lnd_get lnq_l20_16 (Nat.le_refl _) (by decide) (Nat.le_refl _) (by decide) hc hs
          by_cases p17 : m = 17
          · subst p17; exact lnd_get lnq_l20_17 (Nat.le_refl _) (by decide) (Nat.le_refl _) (by decide) hc hs
          by_cases p18 : m = 18
          · subst p18; exact lnd_get lnq_l20_18 (Nat.le_refl _) (by decide) (Nat.le_refl _) (by decide) hc hs
          have p19 : m = 19 := by omega
          subst p19; exact lnd_get lnq_l20_19 (Nat.le_refl _) (by decide) (Nat.le_refl _) (by decide) hc hs
        · skip
          have e : c = 21 := by omega
          subst e
          by_cases m15 : m < 16
          · exact lnd_get lnq_d21 (Nat.le_refl _) (by decide) (Nat.zero_le _) m15 hc hs
          by_cases p16 : m = 16
          · subst p16; exact lnd_get lnq_l21_16 (Nat.le_refl _) (by decide) (Nat.le_refl _) (by decide) hc hs
          by_cases p17 : m = 17
          · subst p17; exact lnd_get lnq_l21_17 (Nat.le_refl _) (by decide) (Nat.le_refl _) (by decide) hc hs
          have p18 : m = 18 := by omega
          subst p18; exact lnd_get lnq_l21_18 (Nat.le_refl _) (by decide) (Nat.le_refl _) (by decide) hc hs
      · skip
        by_cases q23 : c < 23
        · skip
          have e : c = 22 := by omega
          subst e
          by_cases m15 : m < 16
          · exact lnd_get lnq_d22 (Nat.le_refl _) (by decide) (Nat.zero_le _) m15 hc hs
          by_cases p16 : m = 16
          · subst p16; exact lnd_get lnq_l22_16 (Nat.le_refl _) (by decide) (Nat.le_refl _) (by decide) hc hs
          by_cases p17 : m = 17
          · subst p17; exact lnd_get lnq_l22_17 (Nat.le_refl _) (by decide) (Nat.le_refl _) (by decide) hc hs
          have p18 : m = 18 := by omega
          subst p18; exact lnd_get lnq_l22_18 (Nat.le_refl _) (by decide) (Nat.le_refl _) (by decide) hc hs
        · skip
          by_cases q24 : c < 24
          · skip
            have e : c = 23 := by omega
            subst e
            by_cases m15 : m < 16
            · exact lnd_get lnq_d23 (Nat.le_refl _) (by decide) (Nat.zero_le _) m15 hc hs
            by_cases p16 : m = 16
            · subst p16; exact lnd_get lnq_l23_16 (Nat.le_refl _) (by decide) (Nat.le_refl _) (by decide) hc hs
            have p17 : m = 17 := by omega
            subst p17; exact lnd_get lnq_l23_17 (Nat.le_refl _) (by decide) (Nat.le_refl _) (by decide) hc hs
          · skip
            have e : c = 24 := by omega
            subst e
            by_cases m15 : m < 16
            · exact lnd_get lnq_d24 (Nat.le_refl _) (by decide) (Nat.zero_le _) m15 hc hs
            by_cases p16 : m = 16
            · subst p16; exact lnd_get lnq_l24_16 (Nat.le_refl _) (by decide) (Nat.le_refl _) (by decide) hc hs
            have p17 : m = 17 := by omega
            subst p17; exact lnd_get lnq_l24_17 (Nat.le_refl _) (by decide) (Nat.le_refl _) (by decide) hc hs
    · skip
      by_cases q27 : c < 27
      · skip
        by_cases q26 : c < 26
        · skip
          have e : c = 25 := by omega
          subst e
          by_cases m15 : m < 16
          · exact lnd_get lnq_d25 (Nat.le_refl _) (by decide) (Nat.zero_le _) m15 hc hs
          have p16 : m = 16 := by omega
          subst p16; exact lnd_get lnq_l25_16 (Nat.le_refl _) (by decide) (Nat.le_refl _) (by decide) hc hs
        · skip
          have e : c = 26 := by omega
          subst e
          by_cases m15 : m < 16
          · exact lnd_get lnq_d26 (Nat.le_refl _) (by decide) (Nat.zero_le _) m15 hc hs
          have p16 : m = 16 := by omega
          subst p16; exact lnd_get lnq_l26_16 (Nat.le_refl _) (by decide) (Nat.le_refl _) (by decide) hc hs
      · skip
        by_cases q28 : c < 28
        · skip
          have e : c = 27 := by omega
          subst e
          exact lnd_get lnq_d27 (Nat.le_refl _) (by decide) (Nat.zero_le _) (by omega) hc hs
        · skip
          by_cases q29 : c < 29
          · skip
            have e : c = 28 := by omega
            subst e
            exact lnd_get lnq_d28 (Nat.le_refl _) (by decide) (Nat.zero_le _) (by omega) hc hs
          · skip
            have e : c = 29 := by omega
            subst e
            exact lnd_get lnq_d29 (Nat.le_refl _) (by decide) (Nat.zero_le _) (by omega) hc hs
  · by_cases c36 : c < 36
    · exact lnd_get lnq_d30 (by omega) c36 (Nat.zero_le _) (by omega) hc hs
    · exact lnd_get lnq_d36 (by omega) (by omega) (Nat.zero_le _) (by omega) hc hs
section PmX8
variable {f : Nat} {t C : Ty} {Γ0 Δ1 : List Ty} {Δ : List (Nat × Ty × Nat)} {o : Bool}
theorem dch_five : ∀ {Δ : List (Nat × Ty × Nat)} {Γ : List Ty}, TE Γ Δ → Δ ≠ [] → 5 ≤ dch Δ
  | [], _, _, e => absurd rfl e
  | a :: Δ, Γ, he, _ => by
    have := tch_pos (he.2.2 a (List.mem_cons_self ..)).2.1
    show 5 ≤ (tch a.2.1 + 4) + dch Δ
    omega
theorem zone_x (w : TWf f (cxs Δ1 Γ0 (tAll tTop C)).length (Δ.map (fun a => a.1)) t) (he : TE (cxs Δ1 Γ0 (tAll tTop C)) Δ) (co : COk f t 0) (hz : znw o (tch C) (cch Γ0) (cch Δ1) = true) (ho : (∀ b ∈ Γ0, nsch b = true ∨ (o = true ∧ tch b ≤ tch C + 5)) ∧ ∀ b ∈ Δ1, nsch b = true ∨ (o = true ∧ tch b ≤ tch C + 5)) (hb : cch (cxs Δ1 Γ0 (tAll tTop C)) + dch Δ + 2 * mch t ≤ 58) (h20 : 20 ≤ cch (cxs Δ1 Γ0 (tAll tTop C))) (h49 : cch (cxs Δ1 Γ0 (tAll tTop C)) ≤ 47) : NtV (cxs Δ1 Γ0 (tAll tTop C)) Δ f t 830 597 := by
  obtain ⟨oc0, oA⟩ := okc_low Δ1 he.1
  have oC := (ok_all.mp oA).2
  have kp := tch_pos oC
  have z5 := cch_q5 oc0
  have z6 := cxs_q5 he.1
  have ec : cch (cxs Δ1 Γ0 (tAll tTop C)) = 9 + tch C + cch Γ0 + cch Δ1 := by
    rw [cch_cx, tch_all, tch_top]
    omega
  rw [ec] at hb h49 h20
  have hz' := hz
  unfold znw at hz'
  rw [Bool.and_eq_true] at hz'
  have k21 := Nat.le_of_ble_eq_true hz'.1
  have hob : ∀ s : Nat, zow o (tch C) (cch Γ0) (cch Δ1) ≤ s → (∀ b ∈ Γ0, nsch b = true ∨ flv b ≤ s) ∧ ∀ b ∈ Δ1, nsch b = true ∨ flv b ≤ s := by
    intro s hs
    cases o with
    | false =>
      refine ⟨fun b hb => Or.inl ?_, fun b hb => Or.inl ?_⟩
      · rcases ho.1 b hb with e | ⟨e, -⟩
        · exact e
        · cases e
      · rcases ho.2 b hb with e | ⟨e, -⟩
        · exact e
        · cases e
    | true =>
      have hs : max (lmx fr1 (min (cch Γ0 - 4) (tch C + 5))) (lmx fr1 (min (cch Δ1 - 4) (tch C + 5))) ≤ s := hs
      refine ⟨fun b hb => ?_, fun b hb => ?_⟩
      · rcases ho.1 b hb with e | ⟨-, e⟩
        · exact Or.inl e
        · obtain ⟨d, h1, h2⟩ := okc_mch oc0 hb
          have := flv_lmx (k := min (cch Γ0 - 4) (tch C + 5)) h1 (by omega) (by omega)
          exact Or.inr (by omega)
      · rcases ho.2 b hb with e | ⟨-, e⟩
        · exact Or.inl e
        · obtain ⟨d, h1, h2⟩ := okc_cxs he.1 hb
          have := flv_lmx (k := min (cch Δ1 - 4) (tch C + 5)) h1 (by omega) (by omega)
          exact Or.inr (by omega)
  have m30 : mch t ≤ 30 := by omega
  have q38 : cch Δ1 ≤ 38 := by omega
  have c2m : 9 + tch C + cch Γ0 + cch Δ1 + 2 * mch t ≤ 58 := by omega
  have hcd : 58 - 2 * mch t - (9 + tch C + cch Γ0 + cch Δ1) ≤ 56 := by omega
  have hdd : dch Δ ≤ 58 - 2 * mch t - (9 + tch C + cch Γ0 + cch Δ1) := by omega
  have d5' : Δ ≠ [] → 5 ≤ 58 - 2 * mch t - (9 + tch C + cch Γ0 + cch Δ1) := fun e => by have := dch_five he e; omega
  refine fun S hS => ⟨fun b => ?_, ?_⟩
  · have wb : vlr b 1 (nz 0 (fun _ => 1 + 1) (2 + 1) (vlr b 1) (onz 0 (fun _ => 1 + 1) (2 + 1) (vlr b 1) Γ0) tTop) ≤ 2 := by rw [nz_top]; exact vlr_one b 0
    have kb : ∀ s ∈ lng ln1 (9 + tch C + cch Γ0 + cch Δ1), s.2.2.2.2.2 ≤ 50 := fun s hs => lnk ln1_k hs
    obtain ⟨v, hv, x1, x2⟩ := xr_form (t0 := 0) (n1 := fun _ => 1 + 1) (s2 := 3) (hv := 1) xr1_ok (tbs1 b).2.2.2.1 (tbs1 b).2.2.2.2.1 _ C (Γ0.length + 1) (Nat.le_refl _) oC (by omega)
    obtain ⟨p, hp, e, he', g1, g2, g3⟩ := nat_ctx (wB := 2) (v := v) (tbs1 b) fg1_ok (by decide) fg1_m (vlr_one b) (by decide) he.1 x1 x2 (by rw [nz_top]; exact vlr_one b 0) (Nat.le_refl _) (by omega) (Nat.le_refl _) (by omega)
    have z1 : lnz ln1 xr1 fg1 fx1 1 3 2 (tch C) (cch Γ0) (cch Δ1) (zow o (tch C) (cch Γ0) (cch Δ1)) = true := by
      cases o with
      | false => 
        by_cases c1 : tch C < 10
        · exact lna_get ln1_a0 (Nat.zero_le _) c1 hz kp z5 z6 (by omega)
        · by_cases c2 : tch C < 16
          · exact lna_get ln1_a1 (by omega) c2 hz kp z5 z6 (by omega)
          · exact lna_get ln1_a2 (by omega) (by omega) hz kp z5 z6 (by omega)
      | true => 
        by_cases c1 : tch C < 10
        · exact lna_get ln1_b0 (Nat.zero_le _) c1 hz kp z5 z6 (by omega)
        · by_cases c2 : tch C < 16
          · exact lna_get ln1_b1 (by omega) c2 hz kp z5 z6 (by omega)
          · exact lna_get ln1_b2 (by omega) (by omega) hz kp z5 z6 (by omega)
    obtain ⟨s, hs, k1, k2, k3, k4, k5⟩ := lnz_get z1 hv hp he'
    have wy : 2 ≤ s.1 := by
      refine Nat.le_trans ?_ k1
      have e1 : 1 ≤ e.1 := lnz_e1 fg1s_1 q38 he'
      have := Nat.mul_le_mul_right (max (max 1 (fx1.getD (cch Γ0) 0)) (1 + (3 + (v.2 + (v.1 - p) * max 1 (fx1.getD (cch Γ0) 0) + p * 2)))) e1
      omega
    obtain ⟨R0, R5⟩ := ln1_all (m := mch t) h20 h49 c2m hs
    by_cases cΔ : Δ = []
    · exact gen_fin5 (β' := tAll tTop C) (un := false) (a5 := 5) (cd := 0) (wB := 2) (E0 := s.2.2.1) (p := s.2.2.2.1) (ob := s.2.2.2.2.1) (k := s.2.2.2.2.2) (y := s.1) (NC_rows b 1) (vlr_mono b 1) (vlr_lip b 1) (tbs1 b) fr1_m fg1_ok fg1_m fg1s_1 (by decide) (vlr_one b) w he (Or.inr co) m30 (hob _ k4).1 (hob _ k4).2 (by rw [cΔ]; exact Nat.le_refl _) (Nat.zero_le _) (Nat.le_refl _) (fun e => absurd cΔ e) (Nat.le_trans g1 k1) (fun j hj => Nat.le_trans (g2 j hj) k1) (fun E Z aq _ => GH_nat (E := E) (Z := Z) (NC_rows b 1) (vlr_mono b 1) f t [] _ _ Δ w he co aq (onz_cv (NC_rows b 1) he.1)) (fun z => Nat.le_trans (g3 z) (Nat.add_le_add k2 (Nat.mul_le_mul_right _ k3))) wb wy k5 (kb _ hs) R5 hS
    · exact gen_fin5 (β' := tAll tTop C) (un := false) (a5 := 0) (cd := 58 - 2 * mch t - (9 + tch C + cch Γ0 + cch Δ1)) (wB := 2) (E0 := s.2.2.1) (p := s.2.2.2.1) (ob := s.2.2.2.2.1) (k := s.2.2.2.2.2) (y := s.1) (NC_rows b 1) (vlr_mono b 1) (vlr_lip b 1) (tbs1 b) fr1_m fg1_ok fg1_m fg1s_1 (by decide) (vlr_one b) w he (Or.inr co) m30 (hob _ k4).1 (hob _ k4).2 hdd hcd (Nat.zero_le _) (fun _ => rfl) (Nat.le_trans g1 k1) (fun j hj => Nat.le_trans (g2 j hj) k1) (fun E Z aq _ => GH_nat (E := E) (Z := Z) (NC_rows b 1) (vlr_mono b 1) f t [] _ _ Δ w he co aq (onz_cv (NC_rows b 1) he.1)) (fun z => Nat.le_trans (g3 z) (Nat.add_le_add k2 (Nat.mul_le_mul_right _ k3))) wb wy k5 (kb _ hs) (R0 (d5' cΔ)) hS
  · have wb : (fun x => x) (nz 1 ngc 1 (fun x => x) (onz 1 ngc 1 (fun x => x) Γ0) tTop) ≤ 1 := by rw [nz_top]; exact Nat.le_refl _
    have kb : ∀ s ∈ lng lnq (9 + tch C + cch Γ0 + cch Δ1), s.2.2.2.2.2 ≤ 50 := fun s hs => lnk lnq_k hs
    obtain ⟨v, hv, x1, x2⟩ := xr_form (t0 := 1) (n1 := ngc) (s2 := 1) (hv := 0) xrq_ok tbsq.2.2.2.1 tbsq.2.2.2.2.1 _ C (Γ0.length + 1) (Nat.le_refl _) oC (by omega)
    obtain ⟨p, hp, e, he', g1, g2, g3⟩ := nat_ctx (wB := 1) (v := v) tbsq fgq_ok (by decide) fgq_m (fun y => by show y ≤ 0 + max 1 y; omega) (by decide) he.1 x1 x2 (by rw [nz_top]; exact Nat.le_refl _) (Nat.le_refl _) (by omega) (Nat.le_refl _) (by omega)
    have z1 : lnz lnq xrq fgq fxq 0 1 1 (tch C) (cch Γ0) (cch Δ1) (zow o (tch C) (cch Γ0) (cch Δ1)) = true := by
      cases o with
      | false => 
        by_cases c1 : tch C < 10
        · exact lna_get lnq_a0 (Nat.zero_le _) c1 hz kp z5 z6 (by omega)
        · by_cases c2 : tch C < 16
          · exact lna_get lnq_a1 (by omega) c2 hz kp z5 z6 (by omega)
          · exact lna_get lnq_a2 (by omega) (by omega) hz kp z5 z6 (by omega)
      | true => 
        by_cases c1 : tch C < 10
        · exact lna_get lnq_b0 (Nat.zero_le _) c1 hz kp z5 z6 (by omega)
        · by_cases c2 : tch C < 16
          · exact lna_get lnq_b1 (by omega) c2 hz kp z5 z6 (by omega)
          · exact lna_get lnq_b2 (by omega) (by omega) hz kp z5 z6 (by omega)
    obtain ⟨s, hs, k1, k2, k3, k4, k5⟩ := lnz_get z1 hv hp he'
    have wy : 1 ≤ s.1 := by
      refine Nat.le_trans ?_ k1
      have e1 : 1 ≤ e.1 := lnz_e1 fg1s_q q38 he'
      have := Nat.mul_le_mul_right (max (max 1 (fxq.getD (cch Γ0) 0)) (0 + (1 + (v.2 + (v.1 - p) * max 1 (fxq.getD (cch Γ0) 0) + p * 1)))) e1
      omega
    obtain ⟨R0, R5⟩ := lnq_all (m := mch t) h20 h49 c2m hs
    by_cases cΔ : Δ = []
    · exact gen_fin5 (β' := tAll tTop C) (un := false) (a5 := 5) (cd := 0) (wB := 1) (E0 := s.2.2.1) (p := s.2.2.2.1) (ob := s.2.2.2.2.1) (k := s.2.2.2.2.2) (y := s.1) NC_goals (fun y y' hy => hy) (fun y δ => Nat.le_refl _) tbsq frq_m fgq_ok fgq_m fg1s_q (by decide) (fun y => by show y ≤ 0 + max 1 y; omega) w he (Or.inr co) m30 (hob _ k4).1 (hob _ k4).2 (by rw [cΔ]; exact Nat.le_refl _) (Nat.zero_le _) (Nat.le_refl _) (fun e => absurd cΔ e) (Nat.le_trans g1 k1) (fun j hj => Nat.le_trans (g2 j hj) k1) (fun E Z aq _ => GH_nat (E := E) (Z := Z) NC_goals (fun y y' hy => hy) f t [] _ _ Δ w he co aq (onz_cv NC_goals he.1)) (fun z => Nat.le_trans (g3 z) (Nat.add_le_add k2 (Nat.mul_le_mul_right _ k3))) wb wy k5 (kb _ hs) R5 hS
    · exact gen_fin5 (β' := tAll tTop C) (un := false) (a5 := 0) (cd := 58 - 2 * mch t - (9 + tch C + cch Γ0 + cch Δ1)) (wB := 1) (E0 := s.2.2.1) (p := s.2.2.2.1) (ob := s.2.2.2.2.1) (k := s.2.2.2.2.2) (y := s.1) NC_goals (fun y y' hy => hy) (fun y δ => Nat.le_refl _) tbsq frq_m fgq_ok fgq_m fg1s_q (by decide) (fun y => by show y ≤ 0 + max 1 y; omega) w he (Or.inr co) m30 (hob _ k4).1 (hob _ k4).2 hdd hcd (Nat.zero_le _) (fun _ => rfl) (Nat.le_trans g1 k1) (fun j hj => Nat.le_trans (g2 j hj) k1) (fun E Z aq _ => GH_nat (E := E) (Z := Z) NC_goals (fun y y' hy => hy) f t [] _ _ Δ w he co aq (onz_cv NC_goals he.1)) (fun z => Nat.le_trans (g3 z) (Nat.add_le_add k2 (Nat.mul_le_mul_right _ k3))) wb wy k5 (kb _ hs) (R0 (d5' cΔ)) hS
/-- pairs in the zone -/
theorem pair_zonex {x y : Ty} (x1 : TWf f (cxs Δ1 Γ0 (tAll tTop C)).length (Δ.map (fun a => a.1)) x) (x2 : TWf f (cxs Δ1 Γ0 (tAll tTop C)).length (Δ.map (fun a => a.1)) y) (he : TE (cxs Δ1 Γ0 (tAll tTop C)) Δ) (y1 : NAt f x) (y2 : NAt f y) (hv : noac (cxs Δ1 Γ0 (tAll tTop C))) (hd' : ∀ a ∈ Δ, noal a.2.1 = true) (hs : (mch x ≤ mch y ∧ COk f x 0) ∨ (mch y ≤ mch x ∧ COk f y 0)) (hz : znw o (tch C) (cch Γ0) (cch Δ1) = true) (ho : (∀ b ∈ Γ0, nsch b = true ∨ (o = true ∧ tch b ≤ tch C + 5)) ∧ ∀ b ∈ Δ1, nsch b = true ∨ (o = true ∧ tch b ≤ tch C + 5)) (hb : cch (cxs Δ1 Γ0 (tAll tTop C)) + dch Δ + (2 + (mch x + mch y)) ≤ 60) (h20 : 20 ≤ cch (cxs Δ1 Γ0 (tAll tTop C))) (h48 : cch (cxs Δ1 Γ0 (tAll tTop C)) ≤ 47) : PRn f x y (cxs Δ1 Γ0 (tAll tTop C)) Δ := by
  refine pair_ntv x1 x2 he y1 y2 hv hd' (by omega) ?_
  rcases hs with ⟨m, hs⟩ | ⟨m, hs⟩
  · exact Or.inl (zone_x x1 he hs hz ho (by omega) h20 h48)
  · exact Or.inr (zone_x x2 he hs hz ho (by omega) h20 h48)
end PmX8
