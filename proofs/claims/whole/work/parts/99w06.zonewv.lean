/-! TERMS IN THE ZONE, by nature: all terms without a choice under an operation. -/
theorem cch_q5 : ∀ {Γ : List Ty}, okc Γ → q5 (cch Γ) = true
  | [], _ => rfl
  | a :: Γ, hc => by
    have := tch_pos hc.1
    unfold q5
    rw [Bool.or_eq_true]
    exact Or.inr (Nat.ble_eq_true_of_le (by show 5 ≤ (tch a + 4) + cch Γ; omega))
theorem cxs_q5 {Γ0 : List Ty} {β : Ty} : ∀ {Δ1 : List Ty}, okc (cxs Δ1 Γ0 β) → q5 (cch Δ1) = true
  | [], _ => rfl
  | a :: Δ1, hc => by
    have := tch_pos (show ok (cxs Δ1 Γ0 β).length a = true from hc.1)
    unfold q5
    rw [Bool.or_eq_true]
    exact Or.inr (Nat.ble_eq_true_of_le (by show 5 ≤ (tch a + 4) + cch Δ1; omega))
/-- no choice under an operation; binders of types around instances only where the term is short -/
def smq (f : Nat) (t : Ty) : Prop := COk f t 0 ∧ 3 ≤ mch t ∧ mch t ≤ 15 ∧ (hasq f t = true → g3k f t + 3 ≤ mch t ∧ (mch t ≤ 11 ∨ g3k f t = 0))
def lnkb (L : LnT) : Bool := L.all (fun l => l.all (fun s => Nat.ble s.2.2.2.2.2 50))
theorem ln1_k : lnkb ln1 = true := by decide +kernel
theorem lnq_k : lnkb lnq = true := by decide +kernel
theorem lnk {L : LnT} (h : lnkb L = true) {c : Nat} {s : Nat × Nat × Nat × Nat × Nat × Nat} (hs : s ∈ lng L c) : s.2.2.2.2.2 ≤ 50 := by
  unfold lng at hs
  rw [List.getD_eq_getElem?_getD] at hs
  cases e : L[c]? with
  | none =>
    rw [e] at hs
    cases hs
  | some l =>
    rw [e] at hs
    have hl : l ∈ L := List.mem_of_getElem? e
    unfold lnkb at h
    exact Nat.le_of_ble_eq_true (List.all_eq_true.mp (List.all_eq_true.mp h l hl) s hs)
section PmWg
variable {L : LnT} {XR W : FrT} {X : List Nat} {hv s2 wB k q1 q2 : Nat} {o : Bool}
theorem lna_get {a b : Nat} (h : lna L XR W X hv s2 wB o a b = true) (ka : a ≤ k) (kb : k < b) (hz : znw o k q1 q2 = true) (k1 : 1 ≤ k) (z1 : q5 q1 = true) (z2 : q5 q2 = true) (hc : 9 + k + q1 + q2 ≤ 47) : lnz L XR W X hv s2 wB k q1 q2 (zow o k q1 q2) = true := by
  have hz' := hz
  unfold znw at hz'
  rw [Bool.and_eq_true] at hz'
  have a1 := Nat.le_of_ble_eq_true hz'.1
  unfold lna at h
  have qk := rng_all h (i := k) kb
  rw [Bool.or_eq_true] at qk
  rcases qk with qk | qk
  · exact (blt_no ka qk).elim
  have q0 := rng_all qk (i := q1) (by omega)
  rw [z1, Bool.not_true, Bool.false_or] at q0
  have q := rng_all q0 (i := q2) (by omega)
  rw [z2, Bool.not_true, Bool.false_or, Bool.or_eq_true, Bool.or_eq_true, Bool.or_eq_true] at q
  rcases q with q | q | q | q
  · exact (blt_no hc q).elim
  · rw [hz] at q; cases q
  · have := Nat.eq_of_beq_eq_true q
    omega
  · exact q
theorem lnz_get {ob p : Nat} {v e : Nat × Nat} (h : lnz L XR W X hv s2 wB k q1 q2 ob = true) (hv' : v ∈ frg XR k) (hp : p ≤ v.1) (he : e ∈ frg W q2) : ∃ s ∈ lng L (9 + k + q1 + q2), e.2 + e.1 * max (max 1 (X.getD q1 0)) (hv + (s2 + (v.2 + (v.1 - p) * max 1 (X.getD q1 0) + p * wB))) ≤ s.1 ∧ v.2 + (v.1 - p) * max 1 (X.getD q1 0) ≤ s.2.2.1 ∧ p ≤ s.2.2.2.1 ∧ ob ≤ s.2.2.2.2.1 ∧ k ≤ s.2.2.2.2.2 := by
  unfold lnz at h
  have q := List.all_eq_true.mp (rng_all (List.all_eq_true.mp h v hv') (i := p) (by omega)) e he
  rw [List.any_eq_true] at q
  obtain ⟨s, hs, q⟩ := q
  rw [Bool.and_eq_true, Bool.and_eq_true, Bool.and_eq_true, Bool.and_eq_true] at q
  exact ⟨s, hs, Nat.le_of_ble_eq_true q.1, Nat.le_of_ble_eq_true q.2.1, Nat.le_of_ble_eq_true q.2.2.1, Nat.le_of_ble_eq_true q.2.2.2.1, Nat.le_of_ble_eq_true q.2.2.2.2⟩
theorem lnc_get {P : List (List Nat)} {F : FrT} {Bd c m a b : Nat} {s : Nat × Nat × Nat × Nat × Nat × Nat} (h : lnc L P F W X hv wB Bd a b = true) (hc : c < b) (ha : a ≤ c) (hs : s ∈ lng L c) (hm3 : 3 ≤ m) (hm : m ≤ 15) (h5 : c + 5 + 2 * m ≤ 58) : smZ1 P F W X hv s.2.2.1 s.2.2.2.1 wB s.2.2.2.2.1 s.2.2.2.2.2 s.1 s.2.1 (58 - 2 * m - c) m Bd = true := by
  unfold lnc at h
  have q0 := rng_all h (i := c) hc
  rw [Bool.or_eq_true] at q0
  rcases q0 with q0 | q0
  · exact (blt_no ha q0).elim
  have q := rng_all (List.all_eq_true.mp q0 s hs) (i := m) (by omega)
  rw [Bool.or_eq_true, Bool.or_eq_true] at q
  rcases q with q | q | q
  · exact (blt_no hm3 q).elim
  · exact (blt_no h5 q).elim
  · exact q
end PmWg
section PmWh
variable {f : Nat} {t C : Ty} {Γ0 Δ1 : List Ty} {Δ : List (Nat × Ty × Nat)} {o : Bool}
theorem zone_w (w : TWf f (cxs Δ1 Γ0 (tAll tTop C)).length (Δ.map (fun a => a.1)) t) (he : TE (cxs Δ1 Γ0 (tAll tTop C)) Δ) (hs : smq f t) (hz : znw o (tch C) (cch Γ0) (cch Δ1) = true) (ho : (∀ b ∈ Γ0, nsch b = true ∨ (o = true ∧ tch b ≤ tch C + 5)) ∧ ∀ b ∈ Δ1, nsch b = true ∨ (o = true ∧ tch b ≤ tch C + 5)) (hb : cch (cxs Δ1 Γ0 (tAll tTop C)) + dch Δ + 2 * mch t ≤ 58) (h5 : cch (cxs Δ1 Γ0 (tAll tTop C)) + 5 + 2 * mch t ≤ 58) (h49 : cch (cxs Δ1 Γ0 (tAll tTop C)) ≤ 47) : NtV (cxs Δ1 Γ0 (tAll tTop C)) Δ f t 830 597 := by
  obtain ⟨co, hm3, h15, hg⟩ := hs
  obtain ⟨oc0, oA⟩ := okc_low Δ1 he.1
  have oC := (ok_all.mp oA).2
  have kp := tch_pos oC
  have z5 := cch_q5 oc0
  have z6 := cxs_q5 he.1
  have ec : cch (cxs Δ1 Γ0 (tAll tTop C)) = 9 + tch C + cch Γ0 + cch Δ1 := by
    rw [cch_cx, tch_all, tch_top]
    omega
  rw [ec] at hb h5 h49
  have hz' := hz
  unfold znw at hz'
  rw [Bool.and_eq_true] at hz'
  have k21 := Nat.le_of_ble_eq_true hz'.1
  have hob : ∀ s : Nat, zow o (tch C) (cch Γ0) (cch Δ1) ≤ s → (∀ b ∈ Γ0, nsch b = true ∨ flv b ≤ s) ∧ ∀ b ∈ Δ1, nsch b = true ∨ flv b ≤ s := by
    intro s hs
    cases o with
    | false =>
      refine ⟨fun b hb => Or.inl ?_, fun b hb => Or.inl ?_⟩
      · rcases ho.1 b hb with e | ⟨e, -⟩
        · exact e
        · cases e
      · rcases ho.2 b hb with e | ⟨e, -⟩
        · exact e
        · cases e
    | true =>
      have hs : max (lmx fr1 (min (cch Γ0 - 4) (tch C + 5))) (lmx fr1 (min (cch Δ1 - 4) (tch C + 5))) ≤ s := hs
      refine ⟨fun b hb => ?_, fun b hb => ?_⟩
      · rcases ho.1 b hb with e | ⟨-, e⟩
        · exact Or.inl e
        · obtain ⟨d, h1, h2⟩ := okc_mch oc0 hb
          have := flv_lmx (k := min (cch Γ0 - 4) (tch C + 5)) h1 (by omega) (by omega)
          exact Or.inr (by omega)
      · rcases ho.2 b hb with e | ⟨-, e⟩
        · exact Or.inl e
        · obtain ⟨d, h1, h2⟩ := okc_cxs he.1 hb
          have := flv_lmx (k := min (cch Δ1 - 4) (tch C + 5)) h1 (by omega) (by omega)
          exact Or.inr (by omega)
  refine fun S hS => ⟨fun b => ?_, ?_⟩
  · have wb : vlr b 1 (nz 0 (fun _ => 1 + 1) (2 + 1) (vlr b 1) (onz 0 (fun _ => 1 + 1) (2 + 1) (vlr b 1) Γ0) tTop) ≤ 2 := by rw [nz_top]; exact vlr_one b 0
    have kb : ∀ s ∈ lng ln1 (9 + tch C + cch Γ0 + cch Δ1), s.2.2.2.2.2 ≤ 50 := fun s hs => lnk ln1_k hs
    obtain ⟨v, hv, x1, x2⟩ := xr_form (t0 := 0) (n1 := fun _ => 1 + 1) (s2 := 3) (hv := 1) xr1_ok (tbs1 b).2.2.2.1 (tbs1 b).2.2.2.2.1 _ C (Γ0.length + 1) (Nat.le_refl _) oC (by omega)
    obtain ⟨p, hp, e, he', g1, g2, g3⟩ := nat_ctx (wB := 2) (v := v) (tbs1 b) fg1_ok (by decide) fg1_m (vlr_one b) (by decide) he.1 x1 x2 (by rw [nz_top]; exact vlr_one b 0) (Nat.le_refl _) (by omega) (Nat.le_refl _) (by omega)
    have z1 : lnz ln1 xr1 fg1 fx1 1 3 2 (tch C) (cch Γ0) (cch Δ1) (zow o (tch C) (cch Γ0) (cch Δ1)) = true := by
      cases o with
      | false => 
        by_cases c1 : tch C < 10
        · exact lna_get ln1_a0 (Nat.zero_le _) c1 hz kp z5 z6 (by omega)
        · by_cases c2 : tch C < 16
          · exact lna_get ln1_a1 (by omega) c2 hz kp z5 z6 (by omega)
          · exact lna_get ln1_a2 (by omega) (by omega) hz kp z5 z6 (by omega)
      | true => 
        by_cases c1 : tch C < 10
        · exact lna_get ln1_b0 (Nat.zero_le _) c1 hz kp z5 z6 (by omega)
        · by_cases c2 : tch C < 16
          · exact lna_get ln1_b1 (by omega) c2 hz kp z5 z6 (by omega)
          · exact lna_get ln1_b2 (by omega) (by omega) hz kp z5 z6 (by omega)
    obtain ⟨s, hs, k1, k2, k3, k4, k5⟩ := lnz_get z1 hv hp he'
    have R := lnc_get ln1_ok (by omega) (Nat.zero_le _) hs hm3 h15 (by omega)
    exact nat_fin4 (NC_rows b 1) (vlr_mono b 1) (vlr_lip b 1) (tbs1 b) px1_ok fr1_m fg1_ok (by decide) fg1_m (Nat.le_refl _) (Nat.le_refl _) (vlr_one b) w he co hg hm3 (by omega) (hob _ k4).1 (hob _ k4).2 (by omega) (by omega) (Nat.le_trans g1 k1) (fun j hj => Nat.le_trans (g2 j hj) k1) (fun z => Nat.le_trans (g3 z) (Nat.add_le_add k2 (Nat.mul_le_mul_right _ k3))) wb k5 (kb _ hs) R hS
  · have wb : (fun x => x) (nz 1 ngc 1 (fun x => x) (onz 1 ngc 1 (fun x => x) Γ0) tTop) ≤ 1 := by rw [nz_top]; exact Nat.le_refl _
    have kb : ∀ s ∈ lng lnq (9 + tch C + cch Γ0 + cch Δ1), s.2.2.2.2.2 ≤ 50 := fun s hs => lnk lnq_k hs
    obtain ⟨v, hv, x1, x2⟩ := xr_form (t0 := 1) (n1 := ngc) (s2 := 1) (hv := 0) xrq_ok tbsq.2.2.2.1 tbsq.2.2.2.2.1 _ C (Γ0.length + 1) (Nat.le_refl _) oC (by omega)
    obtain ⟨p, hp, e, he', g1, g2, g3⟩ := nat_ctx (wB := 1) (v := v) tbsq fgq_ok (by decide) fgq_m (fun y => by show y ≤ 0 + max 1 y; omega) (by decide) he.1 x1 x2 (by rw [nz_top]; exact Nat.le_refl _) (Nat.le_refl _) (by omega) (Nat.le_refl _) (by omega)
    have z1 : lnz lnq xrq fgq fxq 0 1 1 (tch C) (cch Γ0) (cch Δ1) (zow o (tch C) (cch Γ0) (cch Δ1)) = true := by
      cases o with
      | false => 
        by_cases c1 : tch C < 10
        · exact lna_get lnq_a0 (Nat.zero_le _) c1 hz kp z5 z6 (by omega)
        · by_cases c2 : tch C < 16
          · exact lna_get lnq_a1 (by omega) c2 hz kp z5 z6 (by omega)
          · exact lna_get lnq_a2 (by omega) (by omega) hz kp z5 z6 (by omega)
      | true => 
        by_cases c1 : tch C < 10
        · exact lna_get lnq_b0 (Nat.zero_le _) c1 hz kp z5 z6 (by omega)
        · by_cases c2 : tch C < 16
          · exact lna_get lnq_b1 (by omega) c2 hz kp z5 z6 (by omega)
          · exact lna_get lnq_b2 (by omega) (by omega) hz kp z5 z6 (by omega)
    obtain ⟨s, hs, k1, k2, k3, k4, k5⟩ := lnz_get z1 hv hp he'
    have R := lnc_get lnq_ok (by omega) (Nat.zero_le _) hs hm3 h15 (by omega)
    exact nat_fin4 NC_goals (fun y y' hy => hy) (fun y δ => Nat.le_refl _) tbsq pxq_ok frq_m fgq_ok (by decide) fgq_m (by decide) (by decide) (fun y => by show y ≤ 0 + max 1 y; omega) w he co hg hm3 (by omega) (hob _ k4).1 (hob _ k4).2 (by omega) (by omega) (Nat.le_trans g1 k1) (fun j hj => Nat.le_trans (g2 j hj) k1) (fun z => Nat.le_trans (g3 z) (Nat.add_le_add k2 (Nat.mul_le_mul_right _ k3))) wb k5 (kb _ hs) R hS
/-- pairs in the zone -/
theorem pair_zonew {x y : Ty} (x1 : TWf f (cxs Δ1 Γ0 (tAll tTop C)).length (Δ.map (fun a => a.1)) x) (x2 : TWf f (cxs Δ1 Γ0 (tAll tTop C)).length (Δ.map (fun a => a.1)) y) (he : TE (cxs Δ1 Γ0 (tAll tTop C)) Δ) (y1 : NAt f x) (y2 : NAt f y) (hv : noac (cxs Δ1 Γ0 (tAll tTop C))) (hd' : ∀ a ∈ Δ, noal a.2.1 = true) (hs : (mch x ≤ mch y ∧ smq f x) ∨ (mch y ≤ mch x ∧ smq f y)) (hz : znw o (tch C) (cch Γ0) (cch Δ1) = true) (ho : (∀ b ∈ Γ0, nsch b = true ∨ (o = true ∧ tch b ≤ tch C + 5)) ∧ ∀ b ∈ Δ1, nsch b = true ∨ (o = true ∧ tch b ≤ tch C + 5)) (h5 : 5 ≤ dch Δ) (hb : cch (cxs Δ1 Γ0 (tAll tTop C)) + dch Δ + (2 + (mch x + mch y)) ≤ 60) (h48 : cch (cxs Δ1 Γ0 (tAll tTop C)) ≤ 47) : PRn f x y (cxs Δ1 Γ0 (tAll tTop C)) Δ := by
  refine pair_ntv x1 x2 he y1 y2 hv hd' (by omega) ?_
  rcases hs with ⟨m, hs⟩ | ⟨m, hs⟩
  · exact Or.inl (zone_w x1 he hs hz ho (by omega) (by omega) h48)
  · exact Or.inr (zone_w x2 he hs hz ho (by omega) (by omega) h48)
end PmWh
