/-! THE ZONE WHERE THE LOWER BOUNDS ARE WORTH NO MORE THAN THOSE OF FEWER CHARACTERS. -/
section PmWB
variable {t0 fn s2 hv r0 r1 r2 r3 x0 : Nat} {n1 h : Nat → Nat} {P Q : List (List Nat)} {F G W : FrT} {X : List Nat} {B C : Ty} {Γ0 : List Ty}
/-- as nat_ctx, the values of the lower bounds given -/
theorem nat_ctxv (T : TBs 58 t0 fn s2 hv r0 r1 r2 r3 x0 n1 h P Q F G X) (H1 : ∀ y, h y ≤ hv + max 1 y) (s21 : 1 ≤ s2) {Δ1 : List Ty} {wB q1 q2 : Nat} {v : Nat × Nat} (hc : okc (cxs Δ1 Γ0 (tAll B C))) (hv1 : xt (Γ0.length + 1) C ≤ v.1) (hv2 : xa t0 n1 s2 hv (Γ0.length + 1) C ≤ v.2) (hwB : h (nz t0 n1 s2 h (onz t0 n1 s2 h Γ0) B) ≤ wB) (hr : ∀ j, j < Γ0.length → vw (onz t0 n1 s2 h Γ0) j ≤ X.getD q1 0) (hr2 : ∀ y, x0 ≤ y → (∀ j, j < (tAll B C :: Γ0).length → vw (onz t0 n1 s2 h (tAll B C :: Γ0)) j ≤ y) → ∃ e ∈ frg W q2, 1 ≤ e.1 ∧ ∀ j, j < (cxs Δ1 Γ0 (tAll B C)).length → vw (onz t0 n1 s2 h (cxs Δ1 Γ0 (tAll B C))) j ≤ e.2 + e.1 * y) : ∃ p, p ≤ v.1 ∧ ∃ e ∈ frg W q2, x0 ≤ e.2 + e.1 * max (max x0 (X.getD q1 0)) (hv + (s2 + (v.2 + (v.1 - p) * max x0 (X.getD q1 0) + p * wB))) ∧ (∀ j, j < (cxs Δ1 Γ0 (tAll B C)).length → vw (onz t0 n1 s2 h (cxs Δ1 Γ0 (tAll B C))) j ≤ e.2 + e.1 * max (max x0 (X.getD q1 0)) (hv + (s2 + (v.2 + (v.1 - p) * max x0 (X.getD q1 0) + p * wB)))) ∧ ∀ z, nz t0 n1 s2 h (hzx h z (nz t0 n1 s2 h (onz t0 n1 s2 h Γ0) B) :: onz t0 n1 s2 h Γ0) C ≤ v.2 + (v.1 - p) * max x0 (X.getD q1 0) + p * max z wB := by
  obtain ⟨oc0, oA⟩ := okc_low Δ1 hc
  have oB := (ok_all.mp oA).1
  have oC := (ok_all.mp oA).2
  have l0 := onz_len t0 n1 s2 h Γ0
  have hω : ∀ j, j < (onz t0 n1 s2 h Γ0).length → vw (onz t0 n1 s2 h Γ0) j ≤ max x0 (X.getD q1 0) := fun j hj => Nat.le_trans (hr j (by rw [l0] at hj; exact hj)) (Nat.le_max_right _ _)
  have x01 : x0 ≤ max x0 (X.getD q1 0) := Nat.le_max_left _ _
  generalize max x0 (X.getD q1 0) = y1 at *
  rw [xt_xo] at hv1
  have vC : ∀ z, nz t0 n1 s2 h (z :: onz t0 n1 s2 h Γ0) C ≤ v.2 + (v.1 - xf (Γ0.length + 1) Γ0.length C) * y1 + xf (Γ0.length + 1) Γ0.length C * z := by
    intro z
    have q := nz_xo (t0 := t0) (n1 := n1) (s2 := s2) H1 (t := C) (ω := onz t0 n1 s2 h Γ0) (z := z) (by rw [l0]; exact oC) hω
    rw [l0] at q
    have q2 := Nat.mul_le_mul_right y1 (show xo Γ0.length C ≤ v.1 - xf (Γ0.length + 1) Γ0.length C by omega)
    omega
  have hp : xf (Γ0.length + 1) Γ0.length C ≤ v.1 := by omega
  refine ⟨xf (Γ0.length + 1) Γ0.length C, hp, ?_⟩
  generalize xf (Γ0.length + 1) Γ0.length C = p at *
  have vA : nz t0 n1 s2 h (onz t0 n1 s2 h Γ0) (tAll B C) ≤ s2 + (v.2 + (v.1 - p) * y1 + p * wB) := by
    rw [nz_all]
    have q := vC (h (nz t0 n1 s2 h (onz t0 n1 s2 h Γ0) B))
    have q2 := Nat.mul_le_mul_left p hwB
    omega
  have vZ : ∀ z, nz t0 n1 s2 h (hzx h z (nz t0 n1 s2 h (onz t0 n1 s2 h Γ0) B) :: onz t0 n1 s2 h Γ0) C ≤ v.2 + (v.1 - p) * y1 + p * max z wB := by
    intro z
    have q := vC (hzx h z (nz t0 n1 s2 h (onz t0 n1 s2 h Γ0) B))
    have q2 : hzx h z (nz t0 n1 s2 h (onz t0 n1 s2 h Γ0) B) ≤ max z wB := by
      unfold hzx
      omega
    have q3 := Nat.mul_le_mul_left p q2
    omega
  have EA1 : 1 ≤ s2 + (v.2 + (v.1 - p) * y1 + p * wB) := by omega
  generalize s2 + (v.2 + (v.1 - p) * y1 + p * wB) = EA at *
  have h0' : ∀ j, j < (tAll B C :: Γ0).length → vw (onz t0 n1 s2 h (tAll B C :: Γ0)) j ≤ max y1 (hv + EA) := by
    intro j hj
    show vw (h (nz t0 n1 s2 h (onz t0 n1 s2 h Γ0) (tAll B C)) :: onz t0 n1 s2 h Γ0) j ≤ _
    rw [vw_cons, l0]
    by_cases e : j = Γ0.length
    · rw [if_pos e]
      have := H1 (nz t0 n1 s2 h (onz t0 n1 s2 h Γ0) (tAll B C))
      omega
    · rw [if_neg e]
      rw [List.length_cons] at hj
      exact Nat.le_trans (hω j (by rw [l0]; omega)) (Nat.le_max_left _ _)
  obtain ⟨e, he', e1, hw⟩ := hr2 _ (Nat.le_trans x01 (Nat.le_max_left _ _)) h0'
  refine ⟨e, he', ?_, hw, vZ⟩
  have := Nat.mul_le_mul_right (max y1 (hv + EA)) e1
  omega
end PmWB
section PmWC
variable {f : Nat} {t C : Ty} {Γ0 Δ1 : List Ty} {Δ : List (Nat × Ty × Nat)} {o : Bool} {q1 : Nat}
theorem zone_v2 (w : TWf f (cxs Δ1 Γ0 (tAll tTop C)).length (Δ.map (fun a => a.1)) t) (he : TE (cxs Δ1 Γ0 (tAll tTop C)) Δ) (hs : smq f t) (hz : znw o (tch C) q1 (cch Δ1) = true) (ho : (∀ b ∈ Γ0, nsch b = true ∨ (o = true ∧ tch b ≤ tch C + 5)) ∧ ∀ b ∈ Δ1, nsch b = true ∨ (o = true ∧ tch b ≤ tch C + 5)) (hq : q1 ≤ cch Γ0) (hq5 : q5 q1 = true) (hw1 : ∀ b j, j < Γ0.length → vw (onz 0 (fun _ => 1 + 1) (2 + 1) (vlr b 1) Γ0) j ≤ fx1.getD q1 0) (hwq : ∀ j, j < Γ0.length → vw (onz 1 ngc 1 (fun x => x) Γ0) j ≤ fxq.getD q1 0) (hf0 : ∀ b ∈ Γ0, flv b ≤ lmx fr1 (min (q1 - 4) (tch C + 5))) (hb : cch (cxs Δ1 Γ0 (tAll tTop C)) + dch Δ + 2 * mch t ≤ 58) (h5 : cch (cxs Δ1 Γ0 (tAll tTop C)) + 5 + 2 * mch t ≤ 58) (h49 : cch (cxs Δ1 Γ0 (tAll tTop C)) ≤ 47) : NtV (cxs Δ1 Γ0 (tAll tTop C)) Δ f t 830 597 := by
  obtain ⟨co, hm3, h15, hg⟩ := hs
  obtain ⟨oc0, oA⟩ := okc_low Δ1 he.1
  have oC := (ok_all.mp oA).2
  have kp := tch_pos oC
  have z5 := hq5
  have z6 := cxs_q5 he.1
  have ec : cch (cxs Δ1 Γ0 (tAll tTop C)) = 9 + tch C + cch Γ0 + cch Δ1 := by
    rw [cch_cx, tch_all, tch_top]
    omega
  rw [ec] at hb h5 h49
  have hz' := hz
  unfold znw at hz'
  rw [Bool.and_eq_true] at hz'
  have k21 := Nat.le_of_ble_eq_true hz'.1
  have hob : ∀ s : Nat, zow o (tch C) q1 (cch Δ1) ≤ s → (∀ b ∈ Γ0, nsch b = true ∨ flv b ≤ s) ∧ ∀ b ∈ Δ1, nsch b = true ∨ flv b ≤ s := by
    intro s hs
    cases o with
    | false =>
      refine ⟨fun b hb => Or.inl ?_, fun b hb => Or.inl ?_⟩
      · rcases ho.1 b hb with e | ⟨e, -⟩
        · exact e
        · cases e
      · rcases ho.2 b hb with e | ⟨e, -⟩
        · exact e
        · cases e
    | true =>
      have hs : max (lmx fr1 (min (q1 - 4) (tch C + 5))) (lmx fr1 (min (cch Δ1 - 4) (tch C + 5))) ≤ s := hs
      refine ⟨fun b hb => ?_, fun b hb => ?_⟩
      · rcases ho.1 b hb with e | ⟨-, e⟩
        · exact Or.inl e
        · have := hf0 b hb
          exact Or.inr (by omega)
      · rcases ho.2 b hb with e | ⟨-, e⟩
        · exact Or.inl e
        · obtain ⟨d, h1, h2⟩ := okc_cxs he.1 hb
          have := flv_lmx (k := min (cch Δ1 - 4) (tch C + 5)) h1 (by omega) (by omega)
          exact Or.inr (by omega)
  refine fun S hS => ⟨fun b => ?_, ?_⟩
  · have wb : vlr b 1 (nz 0 (fun _ => 1 + 1) (2 + 1) (vlr b 1) (onz 0 (fun _ => 1 + 1) (2 + 1) (vlr b 1) Γ0) tTop) ≤ 2 := by rw [nz_top]; exact vlr_one b 0
    have kb : ∀ s ∈ lng ln1 (9 + tch C + q1 + cch Δ1), s.2.2.2.2.2 ≤ 50 := fun s hs => lnk ln1_k hs
    obtain ⟨v, hv, x1, x2⟩ := xr_form (t0 := 0) (n1 := fun _ => 1 + 1) (s2 := 3) (hv := 1) xr1_ok (tbs1 b).2.2.2.1 (tbs1 b).2.2.2.2.1 _ C (Γ0.length + 1) (Nat.le_refl _) oC (by omega)
    obtain ⟨p, hp, e, he', g1, g2, g3⟩ := nat_ctxv (wB := 2) (v := v) (q1 := q1) (q2 := cch Δ1) (W := fg1) (tbs1 b) (vlr_one b) (by decide) he.1 x1 x2 (by rw [nz_top]; exact vlr_one b 0) (hw1 b) (fun y hy h0 => onz_gr (tbs1 b) fg1_ok (by decide) hy h0 Δ1 he.1 (by omega))
    have z1 : lnz ln1 xr1 fg1 fx1 1 3 2 (tch C) q1 (cch Δ1) (zow o (tch C) q1 (cch Δ1)) = true := by
      cases o with
      | false => 
        by_cases c1 : tch C < 10
        · exact lna_get ln1_a0 (Nat.zero_le _) c1 hz kp z5 z6 (by omega)
        · by_cases c2 : tch C < 16
          · exact lna_get ln1_a1 (by omega) c2 hz kp z5 z6 (by omega)
          · exact lna_get ln1_a2 (by omega) (by omega) hz kp z5 z6 (by omega)
      | true => 
        by_cases c1 : tch C < 10
        · exact lna_get ln1_b0 (Nat.zero_le _) c1 hz kp z5 z6 (by omega)
        · by_cases c2 : tch C < 16
          · exact lna_get ln1_b1 (by omega) c2 hz kp z5 z6 (by omega)
          · exact lna_get ln1_b2 (by omega) (by omega) hz kp z5 z6 (by omega)
    obtain ⟨s, hs, k1, k2, k3, k4, k5⟩ := lnz_get z1 hv hp he'
    have R := lnc_get ln1_ok (by omega) (Nat.zero_le _) hs hm3 h15 (by omega)
    exact nat_fin4 (NC_rows b 1) (vlr_mono b 1) (vlr_lip b 1) (tbs1 b) px1_ok fr1_m fg1_ok (by decide) fg1_m (Nat.le_refl _) (Nat.le_refl _) (vlr_one b) w he co hg hm3 (by omega) (hob _ k4).1 (hob _ k4).2 (by omega) (by omega) (Nat.le_trans g1 k1) (fun j hj => Nat.le_trans (g2 j hj) k1) (fun z => Nat.le_trans (g3 z) (Nat.add_le_add k2 (Nat.mul_le_mul_right _ k3))) wb k5 (kb _ hs) R hS
  · have wb : (fun x => x) (nz 1 ngc 1 (fun x => x) (onz 1 ngc 1 (fun x => x) Γ0) tTop) ≤ 1 := by rw [nz_top]; exact Nat.le_refl _
    have kb : ∀ s ∈ lng lnq (9 + tch C + q1 + cch Δ1), s.2.2.2.2.2 ≤ 50 := fun s hs => lnk lnq_k hs
    obtain ⟨v, hv, x1, x2⟩ := xr_form (t0 := 1) (n1 := ngc) (s2 := 1) (hv := 0) xrq_ok tbsq.2.2.2.1 tbsq.2.2.2.2.1 _ C (Γ0.length + 1) (Nat.le_refl _) oC (by omega)
    obtain ⟨p, hp, e, he', g1, g2, g3⟩ := nat_ctxv (wB := 1) (v := v) (q1 := q1) (q2 := cch Δ1) (W := fgq) tbsq (fun y => by show y ≤ 0 + max 1 y; omega) (by decide) he.1 x1 x2 (by rw [nz_top]; exact Nat.le_refl _) hwq (fun y hy h0 => onz_gr tbsq fgq_ok (by decide) hy h0 Δ1 he.1 (by omega))
    have z1 : lnz lnq xrq fgq fxq 0 1 1 (tch C) q1 (cch Δ1) (zow o (tch C) q1 (cch Δ1)) = true := by
      cases o with
      | false => 
        by_cases c1 : tch C < 10
        · exact lna_get lnq_a0 (Nat.zero_le _) c1 hz kp z5 z6 (by omega)
        · by_cases c2 : tch C < 16
          · exact lna_get lnq_a1 (by omega) c2 hz kp z5 z6 (by omega)
          · exact lna_get lnq_a2 (by omega) (by omega) hz kp z5 z6 (by omega)
      | true => 
        by_cases c1 : tch C < 10
        · exact lna_get lnq_b0 (Nat.zero_le _) c1 hz kp z5 z6 (by omega)
        · by_cases c2 : tch C < 16
          · exact lna_get lnq_b1 (by omega) c2 hz kp z5 z6 (by omega)
          · exact lna_get lnq_b2 (by omega) (by omega) hz kp z5 z6 (by omega)
    obtain ⟨s, hs, k1, k2, k3, k4, k5⟩ := lnz_get z1 hv hp he'
    have R := lnc_get lnq_ok (by omega) (Nat.zero_le _) hs hm3 h15 (by omega)
    exact nat_fin4 NC_goals (fun y y' hy => hy) (fun y δ => Nat.le_refl _) tbsq pxq_ok frq_m fgq_ok (by decide) fgq_m (by decide) (by decide) (fun y => by show y ≤ 0 + max 1 y; omega) w he co hg hm3 (by omega) (hob _ k4).1 (hob _ k4).2 (by omega) (by omega) (Nat.le_trans g1 k1) (fun j hj => Nat.le_trans (g2 j hj) k1) (fun z => Nat.le_trans (g3 z) (Nat.add_le_add k2 (Nat.mul_le_mul_right _ k3))) wb k5 (kb _ hs) R hS
/-- pairs in the zone -/
theorem pair_zonev2 {x y : Ty} (x1 : TWf f (cxs Δ1 Γ0 (tAll tTop C)).length (Δ.map (fun a => a.1)) x) (x2 : TWf f (cxs Δ1 Γ0 (tAll tTop C)).length (Δ.map (fun a => a.1)) y) (he : TE (cxs Δ1 Γ0 (tAll tTop C)) Δ) (y1 : NAt f x) (y2 : NAt f y) (hv : noac (cxs Δ1 Γ0 (tAll tTop C))) (hd' : ∀ a ∈ Δ, noal a.2.1 = true) (hs : (mch x ≤ mch y ∧ smq f x) ∨ (mch y ≤ mch x ∧ smq f y)) (hz : znw o (tch C) q1 (cch Δ1) = true) (ho : (∀ b ∈ Γ0, nsch b = true ∨ (o = true ∧ tch b ≤ tch C + 5)) ∧ ∀ b ∈ Δ1, nsch b = true ∨ (o = true ∧ tch b ≤ tch C + 5)) (hq : q1 ≤ cch Γ0) (hq5 : q5 q1 = true) (hw1 : ∀ b j, j < Γ0.length → vw (onz 0 (fun _ => 1 + 1) (2 + 1) (vlr b 1) Γ0) j ≤ fx1.getD q1 0) (hwq : ∀ j, j < Γ0.length → vw (onz 1 ngc 1 (fun x => x) Γ0) j ≤ fxq.getD q1 0) (hf0 : ∀ b ∈ Γ0, flv b ≤ lmx fr1 (min (q1 - 4) (tch C + 5))) (h5 : 5 ≤ dch Δ) (hb : cch (cxs Δ1 Γ0 (tAll tTop C)) + dch Δ + (2 + (mch x + mch y)) ≤ 60) (h48 : cch (cxs Δ1 Γ0 (tAll tTop C)) ≤ 47) : PRn f x y (cxs Δ1 Γ0 (tAll tTop C)) Δ := by
  refine pair_ntv x1 x2 he y1 y2 hv hd' (by omega) ?_
  rcases hs with ⟨m, hs⟩ | ⟨m, hs⟩
  · exact Or.inl (zone_v2 x1 he hs hz ho hq hq5 hw1 hwq hf0 (by omega) (by omega) h48)
  · exact Or.inr (zone_v2 x2 he hs hz ho hq hq5 hw1 hwq hf0 (by omega) (by omega) h48)
end PmWC
/-- one lower bound, a scheme with bound Top in it -/
theorem low_flag {Γ0 : List Ty} (oc : okc Γ0) (hq : cch Γ0 ≤ 12) (hf : ∃ b ∈ Γ0, noh 0 b = false) : (∀ b j, j < Γ0.length → vw (onz 0 (fun _ => 1 + 1) (2 + 1) (vlr b 1) Γ0) j ≤ fx1.getD 10 0) ∧ (∀ j, j < Γ0.length → vw (onz 1 ngc 1 (fun x => x) Γ0) j ≤ fxq.getD 10 0) ∧ ∀ b ∈ Γ0, ok 0 b = true ∧ tch b ≤ 8 := by
  match Γ0, oc, hq, hf with
  | [], _, _, hf =>
    obtain ⟨b, hb, -⟩ := hf
    cases hb
  | [a], oc, hq, hf =>
    obtain ⟨b, hb, e⟩ := hf
    rcases List.mem_cons.mp hb with rfl | hb
    · have hq : (tch b + 4) + 0 ≤ 12 := hq
      have o : ok 0 b = true := oc.1
      refine ⟨fun d j hj => ?_, fun j hj => ?_, fun c hc => ?_⟩
      · obtain ⟨p, hp, x1, x2⟩ := fk_any1 o (by omega) (nph b e)
        have q := nz_xt (t0 := 0) (n1 := fun _ => 1 + 1) (s2 := 2 + 1) (hv := 1) (vlr_one d) (t := b) (ω := []) (x := 0) o (fun j hj => absurd hj (Nat.not_lt_zero _))
        have k : ∀ i, i < 9 → ∀ p ∈ frg xfa1 i, p.2 ≤ 5 := by decide +kernel
        have k5 := k (tch b) (by omega) p hp
        have q3 := vlr_one d (nz 0 (fun _ => 1 + 1) (2 + 1) (vlr d 1) [] b)
        have x2 : xa 0 (fun _ => 1 + 1) (2 + 1) 1 0 b ≤ p.2 := x2
        have q : nz 0 (fun _ => 1 + 1) (2 + 1) (vlr d 1) [] b ≤ xa 0 (fun _ => 1 + 1) (2 + 1) 1 0 b + xt 0 b * 0 := q
        have j0 : j = 0 := by
          have : j < 1 := hj
          omega
        rw [j0]
        show vw [vlr d 1 (nz 0 (fun _ => 1 + 1) (2 + 1) (vlr d 1) [] b)] 0 ≤ _
        rw [vw_cons, List.length_nil, if_pos rfl]
        have f : fx1.getD 10 0 = 6 := by decide +kernel
        omega
      · obtain ⟨p, hp, x1, x2⟩ := fk_anyq o (by omega) (nph b e)
        have q := nz_xt (t0 := 1) (n1 := ngc) (s2 := 1) (hv := 0) (h := fun x => x) (fun y => by show y ≤ 0 + max 1 y; omega) (t := b) (ω := []) (x := 0) o (fun j hj => absurd hj (Nat.not_lt_zero _))
        have k : ∀ i, i < 9 → ∀ p ∈ frg xfaq i, p.2 ≤ 2 := by decide +kernel
        have k5 := k (tch b) (by omega) p hp
        have x2 : xa 1 ngc 1 0 0 b ≤ p.2 := x2
        have q : nz 1 ngc 1 (fun x => x) [] b ≤ xa 1 ngc 1 0 0 b + xt 0 b * 0 := q
        have j0 : j = 0 := by
          have : j < 1 := hj
          omega
        rw [j0]
        show vw [nz 1 ngc 1 (fun x => x) [] b] 0 ≤ _
        rw [vw_cons, List.length_nil, if_pos rfl]
        have f : fxq.getD 10 0 = 4 := by decide +kernel
        omega
      · rcases List.mem_cons.mp hc with rfl | hc
        · exact ⟨o, by omega⟩
        · cases hc
    · cases hb
  | a :: c :: r, oc, hq, hf =>
    exfalso
    have hq : (tch a + 4) + ((tch c + 4) + cch r) ≤ 12 := hq
    have a1 := tch_pos oc.1
    have a2 := tch_pos oc.2.1
    obtain ⟨b, hb, e⟩ := hf
    obtain ⟨d, o, q⟩ := okc_mch oc hb
    have a3 := noh_six o e
    rcases List.mem_cons.mp hb with rfl | hb
    · omega
    · rcases List.mem_cons.mp hb with rfl | hb
      · omega
      · obtain ⟨d, o, q⟩ := okc_mch oc.2.2 hb
        omega
section PmWD
variable {f : Nat} {x y C : Ty} {Γ0 Δ1 : List Ty} {Δ : List (Nat × Ty × Nat)}
/-- the lower bounds hold a scheme with bound Top, eleven or twelve characters -/
theorem pair_k2b (x1 : TWf f (cxs Δ1 Γ0 (tAll tTop C)).length (Δ.map (fun a => a.1)) x) (x2 : TWf f (cxs Δ1 Γ0 (tAll tTop C)).length (Δ.map (fun a => a.1)) y) (he : TE (cxs Δ1 Γ0 (tAll tTop C)) Δ) (y1 : NAt f x) (y2 : NAt f y) (hv : noac (cxs Δ1 Γ0 (tAll tTop C))) (hd1 : ∀ a ∈ Δ, noal a.2.1 = true) (hs : (mch x ≤ mch y ∧ smq f x) ∨ (mch y ≤ mch x ∧ smq f y)) (k18 : 18 ≤ tch C) (hf : ∃ b ∈ Γ0, noh 0 b = false) (h10 : 10 ≤ cch Γ0) (h12 : cch Γ0 ≤ 12) (hz : znw true (tch C) 10 (cch Δ1) = true) (ho : ∀ b ∈ Δ1, nsch b = true ∨ tch b ≤ tch C + 5) (h5 : 5 ≤ dch Δ) (hb : cch (cxs Δ1 Γ0 (tAll tTop C)) + dch Δ + (2 + (mch x + mch y)) ≤ 60) (h47 : cch (cxs Δ1 Γ0 (tAll tTop C)) ≤ 47) : PRn f x y (cxs Δ1 Γ0 (tAll tTop C)) Δ := by
  obtain ⟨oc0, oA⟩ := okc_low Δ1 he.1
  obtain ⟨w1, wq, hl⟩ := low_flag oc0 h12 hf
  refine pair_zonev2 (o := true) (q1 := 10) x1 x2 he y1 y2 hv hd1 hs hz ⟨fun b hb => Or.inr ⟨rfl, ?_⟩, fun b hb => (ho b hb).imp id (fun h => ⟨rfl, h⟩)⟩ h10 (by decide) w1 wq (fun b hb => ?_) h5 hb h47
  · have := (hl b hb).2
    omega
  · have q := flv_lmx (hl b hb).1 (hl b hb).2 (by decide)
    rw [show min (10 - 4) (tch C + 5) = 6 by omega]
    have e : lmx fr1 8 ≤ lmx fr1 6 := by decide +kernel
    exact Nat.le_trans q e
end PmWD
