/-! NATURE, the long scheme's bound another than Top: terms and pairs. -/
section PmWq
variable {L : LbT} {XR W : FrT} {X : List Nat} {hv s2 k s q2 : Nat} {o : Bool}
theorem lba_get {a b : Nat} (h : lba L XR W X hv s2 o a b = true) (ka : a ≤ k) (kb : k < b) (hz : zbw o k s q2 = true) (k1 : 1 ≤ k) (z1 : 2 ≤ s) (z2 : q5 q2 = true) (hc : 8 + k + s + q2 ≤ 47) : lbz L XR W X hv s2 k s q2 (zbo o k s q2) = true := by
  have hz' := hz
  unfold zbw at hz'
  rw [Bool.and_eq_true] at hz'
  have a1 := Nat.le_of_ble_eq_true hz'.1
  unfold lba at h
  have qk := rng_all h (i := k) kb
  rw [Bool.or_eq_true] at qk
  rcases qk with qk | qk
  · exact (blt_no ka qk).elim
  have q0 := rng_all qk (i := s) (by omega)
  rw [Bool.or_eq_true] at q0
  rcases q0 with q0 | q0
  · exact (blt_no z1 q0).elim
  have q := rng_all q0 (i := q2) (by omega)
  rw [z2, Bool.not_true, Bool.false_or, Bool.or_eq_true, Bool.or_eq_true, Bool.or_eq_true] at q
  rcases q with q | q | q | q
  · exact (blt_no hc q).elim
  · rw [hz] at q; cases q
  · have := Nat.eq_of_beq_eq_true q
    omega
  · exact q
theorem lbz_get {ob p : Nat} {v e : Nat × Nat} (h : lbz L XR W X hv s2 k s q2 ob = true) (hv' : v ∈ frg XR k) (hp : p ≤ v.1) (he : e ∈ frg W q2) : ∃ t ∈ lbg L (8 + k + s + q2), max (X.getD (s + 4) 0) (e.2 + e.1 * max (max 1 (X.getD (s - 2) 0)) (hv + (s2 + (v.2 + (v.1 - p) * max 1 (X.getD (s - 2) 0) + p * X.getD (s + 4) 0)))) ≤ t.1 ∧ v.2 + (v.1 - p) * max 1 (X.getD (s - 2) 0) ≤ t.2.2.1 ∧ p ≤ t.2.2.2.1 ∧ ob ≤ t.2.2.2.2.1 ∧ k ≤ t.2.2.2.2.2.1 ∧ X.getD (s + 4) 0 ≤ t.2.2.2.2.2.2 := by
  unfold lbz at h
  have q := List.all_eq_true.mp (rng_all (List.all_eq_true.mp h v hv') (i := p) (by omega)) e he
  rw [List.any_eq_true] at q
  obtain ⟨t, ht, q⟩ := q
  rw [Bool.and_eq_true, Bool.and_eq_true, Bool.and_eq_true, Bool.and_eq_true, Bool.and_eq_true] at q
  exact ⟨t, ht, Nat.le_of_ble_eq_true q.1, Nat.le_of_ble_eq_true q.2.1, Nat.le_of_ble_eq_true q.2.2.1, Nat.le_of_ble_eq_true q.2.2.2.1, Nat.le_of_ble_eq_true q.2.2.2.2.1, Nat.le_of_ble_eq_true q.2.2.2.2.2⟩
theorem lbc_get {P : List (List Nat)} {F : FrT} {Bd c m a b : Nat} {s : Nat × Nat × Nat × Nat × Nat × Nat × Nat} (h : lbc L P F W X hv Bd a b = true) (hc : c < b) (ha : a ≤ c) (hs : s ∈ lbg L c) (hm3 : 3 ≤ m) (hm : m ≤ 15) (h5 : c + 5 + 2 * m ≤ 58) : smZ1 P F W X hv s.2.2.1 s.2.2.2.1 s.2.2.2.2.2.2 s.2.2.2.2.1 s.2.2.2.2.2.1 s.1 s.2.1 (58 - 2 * m - c) m Bd = true := by
  unfold lbc at h
  have q0 := rng_all h (i := c) hc
  rw [Bool.or_eq_true] at q0
  rcases q0 with q0 | q0
  · exact (blt_no ha q0).elim
  have q := rng_all (List.all_eq_true.mp q0 s hs) (i := m) (by omega)
  rw [Bool.or_eq_true, Bool.or_eq_true] at q
  rcases q with q | q | q
  · exact (blt_no hm3 q).elim
  · exact (blt_no h5 q).elim
  · exact q
theorem lbk {L : LbT} (h : lbkb L = true) {c : Nat} {s : Nat × Nat × Nat × Nat × Nat × Nat × Nat} (hs : s ∈ lbg L c) : s.2.2.2.2.2.1 ≤ 50 := by
  unfold lbg at hs
  rw [List.getD_eq_getElem?_getD] at hs
  cases e : L[c]? with
  | none =>
    rw [e] at hs
    cases hs
  | some l =>
    rw [e] at hs
    have hl : l ∈ L := List.mem_of_getElem? e
    unfold lbkb at h
    exact Nat.le_of_ble_eq_true (List.all_eq_true.mp (List.all_eq_true.mp h l hl) s hs)
end PmWq
theorem tch_two {d : Nat} {B : Ty} (o : ok d B = true) (h0 : hd B ≠ 0) (h1 : hd B < 16) : 2 ≤ tch B := by
  rcases ok_cases o with rfl | ⟨j, hj, rfl⟩ | ⟨a, b, rfl, ha, hb⟩ | ⟨a, b, rfl, ha, hb⟩ | ⟨c, u, v, w, hc, rfl, -, -, -⟩
  · exact absurd hd_top h0
  · rw [hd_var] at h1; omega
  · rw [tch_fun]; omega
  · rw [tch_all]; omega
  · rw [tch_rec]
    have key : ∀ m, m < 8 → 2 ≤ rch m := by decide
    have := key c hc
    omega
section PmWr
variable {f : Nat} {t x y B C : Ty} {Γ0 Δ1 : List Ty} {Δ : List (Nat × Ty × Nat)} {o : Bool}
theorem zone_b (hB0 : hd B ≠ 0) (hB1 : hd B < 16) (w : TWf f (cxs Δ1 Γ0 (tAll B C)).length (Δ.map (fun a => a.1)) t) (he : TE (cxs Δ1 Γ0 (tAll B C)) Δ) (hs : smq f t) (hz : zbw o (tch C) (tch B + cch Γ0) (cch Δ1) = true) (ho : (∀ b ∈ Γ0, nsch b = true ∨ (o = true ∧ tch b ≤ tch (tAll B C))) ∧ ∀ b ∈ Δ1, nsch b = true ∨ (o = true ∧ tch b ≤ tch (tAll B C))) (hb : cch (cxs Δ1 Γ0 (tAll B C)) + dch Δ + 2 * mch t ≤ 58) (h5 : cch (cxs Δ1 Γ0 (tAll B C)) + 5 + 2 * mch t ≤ 58) (h47 : cch (cxs Δ1 Γ0 (tAll B C)) ≤ 47) : NtV (cxs Δ1 Γ0 (tAll B C)) Δ f t 830 597 := by
  obtain ⟨co, hm3, h15, hg⟩ := hs
  obtain ⟨oc0, oA⟩ := okc_low Δ1 he.1
  have oB := (ok_all.mp oA).1
  have oC := (ok_all.mp oA).2
  have kp := tch_pos oC
  have tB := tch_two oB hB0 hB1
  have s2' : 2 ≤ tch B + cch Γ0 := by omega
  have z6 := cxs_q5 he.1
  have ec : cch (cxs Δ1 Γ0 (tAll B C)) = 8 + tch C + (tch B + cch Γ0) + cch Δ1 := by
    rw [cch_cx, tch_all]
    omega
  rw [ec] at hb h5 h47
  have hz' := hz
  unfold zbw at hz'
  rw [Bool.and_eq_true] at hz'
  have k36 := Nat.le_of_ble_eq_true hz'.1
  have hob : ∀ s : Nat, zbo o (tch C) (tch B + cch Γ0) (cch Δ1) ≤ s → (∀ b ∈ Γ0, nsch b = true ∨ flv b ≤ s) ∧ ∀ b ∈ Δ1, nsch b = true ∨ flv b ≤ s := by
    intro s hs
    cases o with
    | false =>
      refine ⟨fun b hb => Or.inl ?_, fun b hb => Or.inl ?_⟩
      · rcases ho.1 b hb with e | ⟨e, -⟩
        · exact e
        · cases e
      · rcases ho.2 b hb with e | ⟨e, -⟩
        · exact e
        · cases e
    | true =>
      have hs : max (lmx fr1 (min (tch B + cch Γ0 - 6) (tch C + (tch B + cch Γ0) + 4))) (lmx fr1 (min (cch Δ1 - 4) (tch C + (tch B + cch Γ0) + 4))) ≤ s := hs
      refine ⟨fun b hb => ?_, fun b hb => ?_⟩
      · rcases ho.1 b hb with e | ⟨-, e⟩
        · exact Or.inl e
        · obtain ⟨d, h1, h2⟩ := okc_mch oc0 hb
          rw [tch_all] at e
          have := flv_lmx (k := min (tch B + cch Γ0 - 6) (tch C + (tch B + cch Γ0) + 4)) h1 (by omega) (by omega)
          exact Or.inr (by omega)
      · rcases ho.2 b hb with e | ⟨-, e⟩
        · exact Or.inl e
        · obtain ⟨d, h1, h2⟩ := okc_cxs he.1 hb
          rw [tch_all] at e
          have := flv_lmx (k := min (cch Δ1 - 4) (tch C + (tch B + cch Γ0) + 4)) h1 (by omega) (by omega)
          exact Or.inr (by omega)
  refine fun S hS => ⟨fun b => ?_, ?_⟩
  · have wb : vlr b 1 (nz 0 (fun _ => 1 + 1) (2 + 1) (vlr b 1) (onz 0 (fun _ => 1 + 1) (2 + 1) (vlr b 1) Γ0) B) ≤ fx1.getD (tch B + cch Γ0 + 4) 0 := by
      have q := onz_chars (n1 := fun _ => 1 + 1) (tbs1 b).1 (tbs1 b).2.1 (tbs1 b).2.2.1 (tbs1 b).2.2.2.1 (tbs1 b).2.2.2.2.1 (B :: Γ0) ⟨oB, oc0⟩ (by show (tch B + 4) + cch Γ0 ≤ 56; omega) Γ0.length (by rw [List.length_cons]; omega)
      have e : cch (B :: Γ0) = tch B + cch Γ0 + 4 := by
        show (tch B + 4) + cch Γ0 = _
        omega
      rw [e] at q
      refine Nat.le_trans (Nat.le_of_eq ?_) q
      show _ = vw (vlr b 1 (nz 0 (fun _ => 1 + 1) (2 + 1) (vlr b 1) (onz 0 (fun _ => 1 + 1) (2 + 1) (vlr b 1) Γ0) B) :: _) Γ0.length
      rw [vw_cons, onz_len, if_pos rfl]
    obtain ⟨v, hv, x1, x2⟩ := xr_form (t0 := 0) (n1 := fun _ => 1 + 1) (s2 := 3) (hv := 1) xr1_ok (tbs1 b).2.2.2.1 (tbs1 b).2.2.2.2.1 _ C (Γ0.length + 1) (Nat.le_refl _) oC (by omega)
    obtain ⟨p, hp, e, he', g1, g2, g3⟩ := nat_ctx (wB := fx1.getD (tch B + cch Γ0 + 4) 0) (q1 := tch B + cch Γ0 - 2) (q2 := cch Δ1) (v := v) (tbs1 b) fg1_ok (by decide) fg1_m (vlr_one b) (by decide) he.1 x1 x2 wb (by omega) (by omega) (Nat.le_refl _) (by omega)
    have z1 : lbz lb1 xr1 fg1 fx1 1 3 (tch C) (tch B + cch Γ0) (cch Δ1) (zbo o (tch C) (tch B + cch Γ0) (cch Δ1)) = true := by
      cases o with
      | false => 
        by_cases c1 : tch C < 7
        · exact lba_get lb1_a0 (Nat.zero_le _) c1 hz kp s2' z6 h47
        · by_cases c2 : tch C < 13
          · exact lba_get lb1_a1 (by omega) c2 hz kp s2' z6 h47
          · by_cases c3 : tch C < 20
            · exact lba_get lb1_a2 (by omega) c3 hz kp s2' z6 h47
            · exact lba_get lb1_a3 (by omega) (by omega) hz kp s2' z6 h47
      | true => 
        by_cases c1 : tch C < 7
        · exact lba_get lb1_b0 (Nat.zero_le _) c1 hz kp s2' z6 h47
        · by_cases c2 : tch C < 13
          · exact lba_get lb1_b1 (by omega) c2 hz kp s2' z6 h47
          · by_cases c3 : tch C < 20
            · exact lba_get lb1_b2 (by omega) c3 hz kp s2' z6 h47
            · exact lba_get lb1_b3 (by omega) (by omega) hz kp s2' z6 h47
    obtain ⟨s, hs, k1, k2, k3, k4, k5, k6⟩ := lbz_get z1 hv hp he'
    have k7 := Nat.le_trans (Nat.le_max_right _ _) k1
    have R : smZ1 pp1 fr1 fg1 fx1 1 s.2.2.1 s.2.2.2.1 s.2.2.2.2.2.2 s.2.2.2.2.1 s.2.2.2.2.2.1 s.1 s.2.1 (58 - 2 * mch t - (8 + tch C + (tch B + cch Γ0) + cch Δ1)) (mch t) 830 = true := by
      by_cases c1 : 8 + tch C + (tch B + cch Γ0) + cch Δ1 < 34
      · exact lbc_get lb1_ok0 c1 (Nat.zero_le _) hs hm3 h15 (by omega)
      · by_cases c2 : 8 + tch C + (tch B + cch Γ0) + cch Δ1 < 41
        · exact lbc_get lb1_ok1 c2 (by omega) hs hm3 h15 (by omega)
        · exact lbc_get lb1_ok2 (by omega) (by omega) hs hm3 h15 (by omega)
    exact nat_fin4 (NC_rows b 1) (vlr_mono b 1) (vlr_lip b 1) (tbs1 b) px1_ok fr1_m fg1_ok (by decide) fg1_m (Nat.le_refl _) (Nat.le_refl _) (vlr_one b) w he co hg hm3 (by omega) (hob _ k4).1 (hob _ k4).2 (by omega) (by omega) (Nat.le_trans g1 k7) (fun j hj => Nat.le_trans (g2 j hj) k7) (fun z => Nat.le_trans (g3 z) (Nat.add_le_add k2 (Nat.mul_le_mul k3 (by omega)))) (Nat.le_trans wb k6) k5 (lbk lb1_k hs) R hS
  · have wb : (fun x => x) (nz 1 ngc 1 (fun x => x) (onz 1 ngc 1 (fun x => x) Γ0) B) ≤ fxq.getD (tch B + cch Γ0 + 4) 0 := by
      have q := onz_chars (n1 := ngc) tbsq.1 tbsq.2.1 tbsq.2.2.1 tbsq.2.2.2.1 tbsq.2.2.2.2.1 (B :: Γ0) ⟨oB, oc0⟩ (by show (tch B + 4) + cch Γ0 ≤ 56; omega) Γ0.length (by rw [List.length_cons]; omega)
      have e : cch (B :: Γ0) = tch B + cch Γ0 + 4 := by
        show (tch B + 4) + cch Γ0 = _
        omega
      rw [e] at q
      refine Nat.le_trans (Nat.le_of_eq ?_) q
      show _ = vw ((fun x => x) (nz 1 ngc 1 (fun x => x) (onz 1 ngc 1 (fun x => x) Γ0) B) :: _) Γ0.length
      rw [vw_cons, onz_len, if_pos rfl]
    obtain ⟨v, hv, x1, x2⟩ := xr_form (t0 := 1) (n1 := ngc) (s2 := 1) (hv := 0) xrq_ok tbsq.2.2.2.1 tbsq.2.2.2.2.1 _ C (Γ0.length + 1) (Nat.le_refl _) oC (by omega)
    obtain ⟨p, hp, e, he', g1, g2, g3⟩ := nat_ctx (wB := fxq.getD (tch B + cch Γ0 + 4) 0) (q1 := tch B + cch Γ0 - 2) (q2 := cch Δ1) (v := v) tbsq fgq_ok (by decide) fgq_m (fun y => by show y ≤ 0 + max 1 y; omega) (by decide) he.1 x1 x2 wb (by omega) (by omega) (Nat.le_refl _) (by omega)
    have z1 : lbz lbq xrq fgq fxq 0 1 (tch C) (tch B + cch Γ0) (cch Δ1) (zbo o (tch C) (tch B + cch Γ0) (cch Δ1)) = true := by
      cases o with
      | false => 
        by_cases c1 : tch C < 7
        · exact lba_get lbq_a0 (Nat.zero_le _) c1 hz kp s2' z6 h47
        · by_cases c2 : tch C < 13
          · exact lba_get lbq_a1 (by omega) c2 hz kp s2' z6 h47
          · by_cases c3 : tch C < 20
            · exact lba_get lbq_a2 (by omega) c3 hz kp s2' z6 h47
            · exact lba_get lbq_a3 (by omega) (by omega) hz kp s2' z6 h47
      | true => 
        by_cases c1 : tch C < 7
        · exact lba_get lbq_b0 (Nat.zero_le _) c1 hz kp s2' z6 h47
        · by_cases c2 : tch C < 13
          · exact lba_get lbq_b1 (by omega) c2 hz kp s2' z6 h47
          · by_cases c3 : tch C < 20
            · exact lba_get lbq_b2 (by omega) c3 hz kp s2' z6 h47
            · exact lba_get lbq_b3 (by omega) (by omega) hz kp s2' z6 h47
    obtain ⟨s, hs, k1, k2, k3, k4, k5, k6⟩ := lbz_get z1 hv hp he'
    have k7 := Nat.le_trans (Nat.le_max_right _ _) k1
    have R : smZ1 ppq frq fgq fxq 0 s.2.2.1 s.2.2.2.1 s.2.2.2.2.2.2 s.2.2.2.2.1 s.2.2.2.2.2.1 s.1 s.2.1 (58 - 2 * mch t - (8 + tch C + (tch B + cch Γ0) + cch Δ1)) (mch t) 597 = true := by
      by_cases c1 : 8 + tch C + (tch B + cch Γ0) + cch Δ1 < 34
      · exact lbc_get lbq_ok0 c1 (Nat.zero_le _) hs hm3 h15 (by omega)
      · by_cases c2 : 8 + tch C + (tch B + cch Γ0) + cch Δ1 < 41
        · exact lbc_get lbq_ok1 c2 (by omega) hs hm3 h15 (by omega)
        · exact lbc_get lbq_ok2 (by omega) (by omega) hs hm3 h15 (by omega)
    exact nat_fin4 NC_goals (fun y y' hy => hy) (fun y δ => Nat.le_refl _) tbsq pxq_ok frq_m fgq_ok (by decide) fgq_m (by decide) (by decide) (fun y => by show y ≤ 0 + max 1 y; omega) w he co hg hm3 (by omega) (hob _ k4).1 (hob _ k4).2 (by omega) (by omega) (Nat.le_trans g1 k7) (fun j hj => Nat.le_trans (g2 j hj) k7) (fun z => Nat.le_trans (g3 z) (Nat.add_le_add k2 (Nat.mul_le_mul k3 (by omega)))) (Nat.le_trans wb k6) k5 (lbk lbq_k hs) R hS
/-- pairs -/
theorem pair_zoneb (hB0 : hd B ≠ 0) (hB1 : hd B < 16) (x1 : TWf f (cxs Δ1 Γ0 (tAll B C)).length (Δ.map (fun a => a.1)) x) (x2 : TWf f (cxs Δ1 Γ0 (tAll B C)).length (Δ.map (fun a => a.1)) y) (he : TE (cxs Δ1 Γ0 (tAll B C)) Δ) (y1 : NAt f x) (y2 : NAt f y) (hv : noac (cxs Δ1 Γ0 (tAll B C))) (hd' : ∀ a ∈ Δ, noal a.2.1 = true) (hs : (mch x ≤ mch y ∧ smq f x) ∨ (mch y ≤ mch x ∧ smq f y)) (hz : zbw o (tch C) (tch B + cch Γ0) (cch Δ1) = true) (ho : (∀ b ∈ Γ0, nsch b = true ∨ (o = true ∧ tch b ≤ tch (tAll B C))) ∧ ∀ b ∈ Δ1, nsch b = true ∨ (o = true ∧ tch b ≤ tch (tAll B C))) (h5 : 5 ≤ dch Δ) (hb : cch (cxs Δ1 Γ0 (tAll B C)) + dch Δ + (2 + (mch x + mch y)) ≤ 60) (h47 : cch (cxs Δ1 Γ0 (tAll B C)) ≤ 47) : PRn f x y (cxs Δ1 Γ0 (tAll B C)) Δ := by
  refine pair_ntv x1 x2 he y1 y2 hv hd' (by omega) ?_
  rcases hs with ⟨m, hs⟩ | ⟨m, hs⟩
  · exact Or.inl (zone_b hB0 hB1 x1 he hs hz ho (by omega) (by omega) h47)
  · exact Or.inr (zone_b hB0 hB1 x2 he hs hz ho (by omega) (by omega) h47)
end PmWr
