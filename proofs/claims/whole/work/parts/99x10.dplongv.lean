/-! A LONG SCHEME, ITS BODY SMALL OR GONE: any term without a choice under an operation. -/
theorem jxd_get {L : LnT} {T0 T5 : List (List Nat)} {F W : FrT} {hv fn s2 r0 r1 r2 r3 wB c m1 m : Nat} (h : jxd L T0 T5 F W hv fn s2 r0 r1 r2 r3 wB c m1 = true) (hm : m < m1) (hc : c + m ≤ 55) {s : Nat × Nat × Nat × Nat × Nat × Nat} (hs : s ∈ lng L c) : (5 ≤ 55 - c - m → dpD false F W 0 hv fn s2 r0 r1 r2 r3 s.2.2.1 s.2.2.2.1 wB s.2.2.2.2.1 s.2.2.2.2.2 s.1 (55 - c - m) m ≤ bhg T0 c m) ∧ dpD false F W 5 hv fn s2 r0 r1 r2 r3 s.2.2.1 s.2.2.2.1 wB s.2.2.2.2.1 s.2.2.2.2.2 s.1 0 m ≤ bhg T5 c m := by
  unfold jxd at h
  have q := rng_all (List.all_eq_true.mp h s hs) (i := m) hm
  rw [Bool.or_eq_true] at q
  rcases q with q | q
  · exact (blt_no hc q).elim
  rw [Bool.and_eq_true, Bool.or_eq_true] at q
  refine ⟨fun h5 => ?_, Nat.le_of_ble_eq_true q.2⟩
  rcases q.1 with e | e
  · exact (blt_no h5 e).elim
  · exact Nat.le_of_ble_eq_true e
theorem jxs_get {T0 T5 : List (List Nat)} {R c m n : Nat} (h : jxs T0 T5 R = true) (hc : c < 48) (hm : m < 16) (hn : n < 16) : (c + 5 + m + n ≤ 58 → bhg T0 c m + bhg T0 c n ≤ R) ∧ (c + m + n ≤ 58 → bhg T5 c m + bhg T5 c n ≤ R) := by
  unfold jxs at h
  have q := rng_all (rng_all (rng_all h (i := c) hc) (i := m) hm) (i := n) hn
  rw [Bool.and_eq_true, Bool.or_eq_true, Bool.or_eq_true] at q
  refine ⟨fun e => ?_, fun e => ?_⟩
  · rcases q.1 with k | k
    · exact (blt_no e k).elim
    · exact Nat.le_of_ble_eq_true k
  · rcases q.2 with k | k
    · exact (blt_no e k).elim
    · exact Nat.le_of_ble_eq_true k
theorem jx1_all {c m : Nat} (h27 : 27 ≤ c) (h47 : c ≤ 47) (m15 : m < 16) (hc : c + m ≤ 55) {s : Nat × Nat × Nat × Nat × Nat × Nat} (hs : s ∈ lng jw1 c) : (5 ≤ 55 - c - m → dpD false fr1 fg1 0 1 2 3 2 2 2 2 s.2.2.1 s.2.2.2.1 2 s.2.2.2.2.1 s.2.2.2.2.2 s.1 (55 - c - m) m ≤ bhg ux1 c m) ∧ dpD false fr1 fg1 5 1 2 3 2 2 2 2 s.2.2.1 s.2.2.2.1 2 s.2.2.2.2.1 s.2.2.2.2.2 s.1 0 m ≤ bhg uy1 c m := by
  by_cases q37 : c < 37
  · skip
    by_cases q32 : c < 32
    · skip
      by_cases q29 : c < 29
      · skip
        by_cases q28 : c < 28
        · skip
          have e : c = 27 := by omega
          subst e
          exact jxd_get jw1_x27 m15 hc hs
        · skip
          have e : c = 28 := by omega
          subst e
          exact jxd_get jw1_x28 m15 hc hs
      · skip
        by_cases q30 : c < 30
        · skip
          have e : c = 29 := by omega
          subst e
          exact jxd_get jw1_x29 m15 hc hs
        · skip
          by_cases q31 : c < 31
          · skip
            have e : c = 30 := by omega
            subst e
            exact jxd_get jw1_x30 m15 hc hs
          · skip
            have e : c = 31 := by omega
            subst e
            exact jxd_get jw1_x31 m15 hc hs
    · skip
      by_cases q34 : c < 34
      · skip
        by_cases q33 : c < 33
        · skip
          have e : c = 32 := by omega
          subst e
          exact jxd_get jw1_x32 m15 hc hs
        · skip
          have e : c = 33 := by omega
          subst e
          exact jxd_get jw1_x33 m15 hc hs
      · skip
        by_cases q35 : c < 35
        · skip
          have e : c = 34 := by omega
          subst e
          exact jxd_get jw1_x34 m15 hc hs
        · skip
          by_cases q36 : c < 36
          · skip
            have e : c = 35 := by omega
            subst e
            exact jxd_get jw1_x35 m15 hc hs
          · skip
            have e : c = 36 := by omega
            subst e
            exact jxd_get jw1_x36 m15 hc hs
  · skip
    by_cases q42 : c < 42
    · skip
      by_cases q39 : c < 39
      · skip
        by_cases q38 : c < 38
        · skip
          have e : c = 37 := by omega
          subst e
          exact jxd_get jw1_x37 m15 hc hs
        · skip
          have e : c = 38 := by omega
          subst e
          exact jxd_get jw1_x38 m15 hc hs
      · skip
        by_cases q40 : c < 40
        · skip
          have e : c = 39 := by omega
          subst e
          exact jxd_get jw1_x39 m15 hc hs
        · skip
          by_cases q41 : c < 41
          · skip
            have e : c = 40 := by omega
            subst e
            exact jxd_get jw1_x40 m15 hc hs
          · skip
            have e : c = 41 := by omega
            subst e
            exact jxd_get jw1_x41 m15 hc hs
    · skip
      by_cases q45 : c < 45
      · skip
        by_cases q43 : c < 43
        · skip
          have e : c = 42 := by omega
          subst e
          exact jxd_get jw1_x42 m15 hc hs
        · skip
          by_cases q44 : c < 44
          · skip
            have e : c = 43 := by omega
            subst e
            exact jxd_get jw1_x43 m15 hc hs
          · skip
            have e : c = 44 := by omega
            subst e
            exact jxd_get jw1_x44 m15 hc hs
      · skip
        by_cases q46 : c < 46
        · skip
          have e : c = 45 := by omega
          subst e
          exact jxd_get jw1_x45 m15 hc hs
        · skip
          by_cases q47 : c < 47
          · skip
            have e : c = 46 := by omega
            subst e
            exact jxd_get jw1_x46 m15 hc hs
          · skip
            have e : c = 47 := by omega
            subst e
            exact jxd_get jw1_x47 m15 hc hs
theorem jxq_all {c m : Nat} (h27 : 27 ≤ c) (h47 : c ≤ 47) (m15 : m < 16) (hc : c + m ≤ 55) {s : Nat × Nat × Nat × Nat × Nat × Nat} (hs : s ∈ lng jwq c) : (5 ≤ 55 - c - m → dpD false frq fgq 0 0 1 1 1 3 2 1 s.2.2.1 s.2.2.2.1 1 s.2.2.2.2.1 s.2.2.2.2.2 s.1 (55 - c - m) m ≤ bhg uxq c m) ∧ dpD false frq fgq 5 0 1 1 1 3 2 1 s.2.2.1 s.2.2.2.1 1 s.2.2.2.2.1 s.2.2.2.2.2 s.1 0 m ≤ bhg uyq c m := by
  by_cases q37 : c < 37
  · skip
    by_cases q32 : c < 32
    · skip
      by_cases q29 : c < 29
      · skip
        by_cases q28 : c < 28
        · skip
          have e : c = 27 := by omega
          subst e
          exact jxd_get jwq_x27 m15 hc hs
        · skip
          have e : c = 28 := by omega
          subst e
          exact jxd_get jwq_x28 m15 hc hs
      · skip
        by_cases q30 : c < 30
        · skip
          have e : c = 29 := by omega
          subst e
          exact jxd_get jwq_x29 m15 hc hs
        · skip
          by_cases q31 : c < 31
          · skip
            have e : c = 30 := by omega
            subst e
            exact jxd_get jwq_x30 m15 hc hs
          · skip
            have e : c = 31 := by omega
            subst e
            exact jxd_get jwq_x31 m15 hc hs
    · skip
      by_cases q34 : c < 34
      · skip
        by_cases q33 : c < 33
        · skip
          have e : c = 32 := by omega
          subst e
          exact jxd_get jwq_x32 m15 hc hs
        · skip
          have e : c = 33 := by omega
          subst e
          exact jxd_get jwq_x33 m15 hc hs
      · skip
        by_cases q35 : c < 35
        · skip
          have e : c = 34 := by omega
          subst e
          exact jxd_get jwq_x34 m15 hc hs
        · skip
          by_cases q36 : c < 36
          · skip
            have e : c = 35 := by omega
            subst e
            exact jxd_get jwq_x35 m15 hc hs
          · skip
            have e : c = 36 := by omega
            subst e
            exact jxd_get jwq_x36 m15 hc hs
  · skip
    by_cases q42 : c < 42
    · skip
      by_cases q39 : c < 39
      · skip
        by_cases q38 : c < 38
        · skip
          have e : c = 37 := by omega
          subst e
          exact jxd_get jwq_x37 m15 hc hs
        · skip
          have e : c = 38 := by omega
          subst e
          exact jxd_get jwq_x38 m15 hc hs
      · skip
        by_cases q40 : c < 40
        · skip
          have e : c = 39 := by omega
          subst e
          exact jxd_get jwq_x39 m15 hc hs
        · skip
          by_cases q41 : c < 41
          · skip
            have e : c = 40 := by omega
            subst e
            exact jxd_get jwq_x40 m15 hc hs
          · skip
            have e : c = 41 := by omega
            subst e
            exact jxd_get jwq_x41 m15 hc hs
    · skip
      by_cases q45 : c < 45
      · skip
        by_cases q43 : c < 43
        · skip
          have e : c = 42 := by omega
          subst e
          exact jxd_get jwq_x42 m15 hc hs
        · skip
          by_cases q44 : c < 44
          · skip
            have e : c = 43 := by omega
            subst e
            exact jxd_get jwq_x43 m15 hc hs
          · skip
            have e : c = 44 := by omega
            subst e
            exact jxd_get jwq_x44 m15 hc hs
      · skip
        by_cases q46 : c < 46
        · skip
          have e : c = 45 := by omega
          subst e
          exact jxd_get jwq_x45 m15 hc hs
        · skip
          by_cases q47 : c < 47
          · skip
            have e : c = 46 := by omega
            subst e
            exact jxd_get jwq_x46 m15 hc hs
          · skip
            have e : c = 47 := by omega
            subst e
            exact jxd_get jwq_x47 m15 hc hs
/-- where no name stands around -/
def bxe (Δ : List (Nat × Ty × Nat)) (A B : List (List Nat)) : List (List Nat) := if Δ.isEmpty = true then A else B
section PmXa
variable {f : Nat} {x y t C Dm : Ty} {Γ0 Δ1 : List Ty} {Δ : List (Nat × Ty × Nat)}
theorem smx_v (w : TWf f (cxs Δ1 Γ0 (tAll tTop C)).length (Δ.map (fun a => a.1)) t) (he : TE (cxs Δ1 Γ0 (tAll tTop C)) Δ) (co : COk f t 0) (gR : ∀ (b : Bool) (E : Stk → Nat) (Z : Nat → Nat), AQh 0 (fun _ => 1 + 1) (2 + 1) (vlr b 1) E Z f t [] (onz 0 (fun _ => 1 + 1) (2 + 1) (vlr b 1) (cxs Δ1 Γ0 (tAll tTop Dm))) → GOk 0 (fun _ => 1 + 1) (2 + 1) (vlr b 1) E f t [] (onz 0 (fun _ => 1 + 1) (2 + 1) (vlr b 1) (cxs Δ1 Γ0 (tAll tTop Dm))) (cxs Δ1 Γ0 (tAll tTop C)) Δ) (gG : ∀ (E : Stk → Nat) (Z : Nat → Nat), AQh 1 ngc 1 (fun x => x) E Z f t [] (onz 1 ngc 1 (fun x => x) (cxs Δ1 Γ0 (tAll tTop Dm))) → GOk 1 ngc 1 (fun x => x) E f t [] (onz 1 ngc 1 (fun x => x) (cxs Δ1 Γ0 (tAll tTop Dm))) (cxs Δ1 Γ0 (tAll tTop C)) Δ) (oD : ok (Γ0.length + 1) Dm = true) (vD : ∀ b, vlr b 1 (mz b 1 Γ0 (tAll tTop Dm)) ≤ 7) (vG : gz Γ0 (tAll tTop Dm) ≤ 3) (k18 : 18 ≤ tch C) (m15 : mch t < 16) (hb : cch (cxs Δ1 Γ0 (tAll tTop C)) + dch Δ + mch t ≤ 55) (h47 : cch (cxs Δ1 Γ0 (tAll tTop C)) ≤ 47) : SmV Dm tTop C Γ0 Δ1 Δ f t (bhg (bxe Δ uy1 ux1) (cch (cxs Δ1 Γ0 (tAll tTop C))) (mch t)) (bhg (bxe Δ uyq uxq) (cch (cxs Δ1 Γ0 (tAll tTop C))) (mch t)) := by
  obtain ⟨oc0, oA⟩ := okc_low Δ1 he.1
  have oC := (ok_all.mp oA).2
  have z5 := cch_q5 oc0
  have z6 := cxs_q5 he.1
  have ec : cch (cxs Δ1 Γ0 (tAll tTop C)) = 9 + tch C + cch Γ0 + cch Δ1 := by
    rw [cch_cx, tch_all, tch_top]
    omega
  rw [ec] at hb h47 ⊢
  have k40 : tch C ≤ 40 := by omega
  have q138 : cch Δ1 ≤ 38 := by omega
  have c27 : 27 ≤ 9 + tch C + cch Γ0 + cch Δ1 := by omega
  have m30 : mch t ≤ 30 := by omega
  have hcm : 9 + tch C + cch Γ0 + cch Δ1 + mch t ≤ 55 := by omega
  have hcd : 55 - (9 + tch C + cch Γ0 + cch Δ1) - mch t ≤ 56 := by omega
  have hdd : dch Δ ≤ 55 - (9 + tch C + cch Γ0 + cch Δ1) - mch t := by omega
  have d5 : Δ ≠ [] → 5 ≤ 55 - (9 + tch C + cch Γ0 + cch Δ1) - mch t := fun e => by have := dch_five he e; omega
  have o1 : ∀ k, zob true (cch Γ0) (cch Δ1) ≤ k → (∀ b ∈ Γ0, nsch b = true ∨ flv b ≤ k) ∧ ∀ b ∈ Δ1, nsch b = true ∨ flv b ≤ k := fun k k4 => ob_long he.1 (by omega) (by omega) k4
  refine fun S hS => ⟨fun b => ?_, ?_⟩
  · have wb : vlr b 1 (nz 0 (fun _ => 1 + 1) (2 + 1) (vlr b 1) (onz 0 (fun _ => 1 + 1) (2 + 1) (vlr b 1) Γ0) tTop) ≤ 2 := by rw [nz_top]; exact vlr_one b 0
    obtain ⟨v, hv, x1, x2⟩ := xr_form (t0 := 0) (n1 := fun _ => 1 + 1) (s2 := 3) (hv := 1) xr1_ok (tbs1 b).2.2.2.1 (tbs1 b).2.2.2.2.1 _ C (Γ0.length + 1) (Nat.le_refl _) oC k40
    obtain ⟨p, hp, e, he', g1, g2, g3⟩ := sm_ctx (wB := 2) (v := v) (va := 7) (Dm := Dm) (tbs1 b) fg1_ok (by decide) fg1_m (vlr_one b) he.1 oD (vD b) x1 x2 wb (Nat.le_refl _) (by omega) (Nat.le_refl _) (by omega)
    obtain ⟨s, hs, k1, k2, k3, k4, k5⟩ := jwz_get (jwa_get jw1_a k18 z5 z6 h47) hv hp he'
    have wy : 2 ≤ s.1 := by
      refine Nat.le_trans ?_ k1
      have e1 : 1 ≤ e.1 := lnz_e1 fg1s_1 q138 he'
      have := Nat.mul_le_mul_right (max (max 1 (fx1.getD (cch Γ0) 0)) 7) e1
      omega
    have k50 := lnk jw1_k hs
    have hw2 : ∀ j, j < (cxs Δ1 Γ0 (tAll tTop Dm)).length → vw (onz 0 (fun _ => 1 + 1) (2 + 1) (vlr b 1) (cxs Δ1 Γ0 (tAll tTop Dm))) j ≤ s.1 := fun j hj => Nat.le_trans (g2 j hj) k1
    have vZ2 : ∀ z, nz 0 (fun _ => 1 + 1) (2 + 1) (vlr b 1) (hzx (vlr b 1) z (nz 0 (fun _ => 1 + 1) (2 + 1) (vlr b 1) (onz 0 (fun _ => 1 + 1) (2 + 1) (vlr b 1) Γ0) tTop) :: onz 0 (fun _ => 1 + 1) (2 + 1) (vlr b 1) Γ0) C ≤ s.2.2.1 + s.2.2.2.1 * max z 2 := fun z => Nat.le_trans (g3 z) (Nat.add_le_add k2 (Nat.mul_le_mul_right _ k3))
    have y1 : 1 ≤ s.1 := Nat.le_trans g1 k1
    have ob2 := o1 _ k4
    obtain ⟨R0, R5⟩ := jx1_all c27 h47 m15 hcm hs
    by_cases cΔ : Δ = []
    · have eb : bxe Δ uy1 ux1 = uy1 := by rw [cΔ]; rfl
      rw [eb]
      exact gen_fin5 (β' := tAll tTop Dm) (un := false) (a5 := 5) (cd := 0) (wB := 2) (E0 := s.2.2.1) (p := s.2.2.2.1) (ob := s.2.2.2.2.1) (k := s.2.2.2.2.2) (y := s.1) (NC_rows b 1) (vlr_mono b 1) (vlr_lip b 1) (tbs1 b) fr1_m fg1_ok fg1_m fg1s_1 (by decide) (vlr_one b) w he (Or.inr co) m30 ob2.1 ob2.2 (by rw [cΔ]; exact Nat.le_refl _) (Nat.zero_le _) (Nat.le_refl _) (fun e => absurd cΔ e) y1 hw2 (fun E Z aq _ => gR b E Z aq) vZ2 wb wy k5 k50 R5 hS
    · have eb : bxe Δ uy1 ux1 = ux1 := by
        unfold bxe
        rw [if_neg (by intro c; exact cΔ (List.isEmpty_iff.mp c))]
      rw [eb]
      exact gen_fin5 (β' := tAll tTop Dm) (un := false) (a5 := 0) (cd := 55 - (9 + tch C + cch Γ0 + cch Δ1) - mch t) (wB := 2) (E0 := s.2.2.1) (p := s.2.2.2.1) (ob := s.2.2.2.2.1) (k := s.2.2.2.2.2) (y := s.1) (NC_rows b 1) (vlr_mono b 1) (vlr_lip b 1) (tbs1 b) fr1_m fg1_ok fg1_m fg1s_1 (by decide) (vlr_one b) w he (Or.inr co) m30 ob2.1 ob2.2 hdd hcd (Nat.zero_le _) (fun _ => rfl) y1 hw2 (fun E Z aq _ => gR b E Z aq) vZ2 wb wy k5 k50 (R0 (d5 cΔ)) hS
  · have wb : (fun x => x) (nz 1 ngc 1 (fun x => x) (onz 1 ngc 1 (fun x => x) Γ0) tTop) ≤ 1 := by rw [nz_top]; exact Nat.le_refl _
    obtain ⟨v, hv, x1, x2⟩ := xr_form (t0 := 1) (n1 := ngc) (s2 := 1) (hv := 0) xrq_ok tbsq.2.2.2.1 tbsq.2.2.2.2.1 _ C (Γ0.length + 1) (Nat.le_refl _) oC k40
    obtain ⟨p, hp, e, he', g1, g2, g3⟩ := sm_ctx (wB := 1) (v := v) (va := 3) (Dm := Dm) tbsq fgq_ok (by decide) fgq_m (fun y => by show y ≤ 0 + max 1 y; omega) he.1 oD vG x1 x2 wb (Nat.le_refl _) (by omega) (Nat.le_refl _) (by omega)
    obtain ⟨s, hs, k1, k2, k3, k4, k5⟩ := jwz_get (jwa_get jwq_a k18 z5 z6 h47) hv hp he'
    have y1 : 1 ≤ s.1 := Nat.le_trans g1 k1
    have k50 := lnk jwq_k hs
    have hw2 : ∀ j, j < (cxs Δ1 Γ0 (tAll tTop Dm)).length → vw (onz 1 ngc 1 (fun x => x) (cxs Δ1 Γ0 (tAll tTop Dm))) j ≤ s.1 := fun j hj => Nat.le_trans (g2 j hj) k1
    have vZ2 : ∀ z, nz 1 ngc 1 (fun x => x) (hzx (fun x => x) z (nz 1 ngc 1 (fun x => x) (onz 1 ngc 1 (fun x => x) Γ0) tTop) :: onz 1 ngc 1 (fun x => x) Γ0) C ≤ s.2.2.1 + s.2.2.2.1 * max z 1 := fun z => Nat.le_trans (g3 z) (Nat.add_le_add k2 (Nat.mul_le_mul_right _ k3))
    have ob2 := o1 _ k4
    obtain ⟨R0, R5⟩ := jxq_all c27 h47 m15 hcm hs
    by_cases cΔ : Δ = []
    · have eb : bxe Δ uyq uxq = uyq := by rw [cΔ]; rfl
      rw [eb]
      exact gen_fin5 (β' := tAll tTop Dm) (un := false) (a5 := 5) (cd := 0) (wB := 1) (E0 := s.2.2.1) (p := s.2.2.2.1) (ob := s.2.2.2.2.1) (k := s.2.2.2.2.2) (y := s.1) NC_goals (fun y y' hy => hy) (fun y δ => Nat.le_refl _) tbsq frq_m fgq_ok fgq_m fg1s_q (by decide) (fun y => by show y ≤ 0 + max 1 y; omega) w he (Or.inr co) m30 ob2.1 ob2.2 (by rw [cΔ]; exact Nat.le_refl _) (Nat.zero_le _) (Nat.le_refl _) (fun e => absurd cΔ e) y1 hw2 (fun E Z aq _ => gG E Z aq) vZ2 wb y1 k5 k50 R5 hS
    · have eb : bxe Δ uyq uxq = uxq := by
        unfold bxe
        rw [if_neg (by intro c; exact cΔ (List.isEmpty_iff.mp c))]
      rw [eb]
      exact gen_fin5 (β' := tAll tTop Dm) (un := false) (a5 := 0) (cd := 55 - (9 + tch C + cch Γ0 + cch Δ1) - mch t) (wB := 1) (E0 := s.2.2.1) (p := s.2.2.2.1) (ob := s.2.2.2.2.1) (k := s.2.2.2.2.2) (y := s.1) NC_goals (fun y y' hy => hy) (fun y δ => Nat.le_refl _) tbsq frq_m fgq_ok fgq_m fg1s_q (by decide) (fun y => by show y ≤ 0 + max 1 y; omega) w he (Or.inr co) m30 ob2.1 ob2.2 hdd hcd (Nat.zero_le _) (fun _ => rfl) y1 hw2 (fun E Z aq _ => gG E Z aq) vZ2 wb y1 k5 k50 (R0 (d5 cΔ)) hS
/-- a term without a choice, or with choices where no other scheme has a bound Top -/
def SMd (C : Ty) (Γ0 Δ1 : List Ty) (Δ : List (Nat × Ty × Nat)) (f : Nat) (t : Ty) : Prop := CFt f t ∨ (COk f t 0 ∧ noh 0 C = true ∧ NHt 0 f t ∧ SGc 0 tTop C tTop Γ0 Δ1 ∧ ∀ a ∈ Δ, noh 0 a.2.1 = true)
theorem SMd.v (w : TWf f (cxs Δ1 Γ0 (tAll tTop C)).length (Δ.map (fun a => a.1)) t) (he : TE (cxs Δ1 Γ0 (tAll tTop C)) Δ) (z : SMd C Γ0 Δ1 Δ f t) (na : NAt f t) (hc : noac (cxs Δ1 Γ0 (tAll tTop C))) (hd' : ∀ a ∈ Δ, noal a.2.1 = true) (oD : ok (Γ0.length + 1) Dm = true) (vD : ∀ b, vlr b 1 (mz b 1 Γ0 (tAll tTop Dm)) ≤ 7) (vG : gz Γ0 (tAll tTop Dm) ≤ 3) (k18 : 18 ≤ tch C) (m15 : mch t < 16) (hb : cch (cxs Δ1 Γ0 (tAll tTop C)) + dch Δ + mch t ≤ 55) (h47 : cch (cxs Δ1 Γ0 (tAll tTop C)) ≤ 47) : SmV Dm tTop C Γ0 Δ1 Δ f t (bhg (bxe Δ uy1 ux1) (cch (cxs Δ1 Γ0 (tAll tTop C))) (mch t)) (bhg (bxe Δ uyq uxq) (cch (cxs Δ1 Γ0 (tAll tTop C))) (mch t)) := by
  rcases z with cf | ⟨co, nC, nh, sg, nd⟩
  · exact smx_v w he (CF_CO f t 0 cf) (fun b E Z aq => GH_free (t0 := 0) (n1 := fun _ => 1 + 1) (s2 := 2 + 1) (h := vlr b 1) (E := E) (Z := Z) f t [] _ _ Δ w he cf aq (by rw [onz_len, cxs_ll (tAll tTop Dm) (tAll tTop C)])) (fun E Z aq => GH_free (t0 := 1) (n1 := ngc) (s2 := 1) (h := fun x => x) (E := E) (Z := Z) f t [] _ _ Δ w he cf aq (by rw [onz_len, cxs_ll (tAll tTop Dm) (tAll tTop C)])) oD vD vG k18 m15 hb h47
  · have s' : SGc 0 tTop C Dm Γ0 Δ1 := ⟨sg.1, sg.2.1, sg.o1, cxd_okc oD Δ1 he.1, sg.nc⟩
    exact smx_v w he co (fun b E Z aq => GH_gone2 (E := E) (Z := Z) (NC_rows b 1) nC f t [] _ Δ1 Δ w he co aq (onz_cv (NC_rows b 1) s'.o2) nh na hc sg s' (fun a ha => ⟨nd a ha, hd' a ha⟩)) (fun E Z aq => GH_gone2 (E := E) (Z := Z) NC_goals nC f t [] _ Δ1 Δ w he co aq (onz_cv NC_goals s'.o2) nh na hc sg s' (fun a ha => ⟨nd a ha, hd' a ha⟩)) oD vD vG k18 m15 hb h47
/-- pairs, inner schemes of another kind -/
theorem pair_mixx (H : HKd 0 tTop C Γ0) (x1 : TWf f (cxs Δ1 Γ0 (tAll tTop C)).length (Δ.map (fun a => a.1)) x) (x2 : TWf f (cxs Δ1 Γ0 (tAll tTop C)).length (Δ.map (fun a => a.1)) y) (he : TE (cxs Δ1 Γ0 (tAll tTop C)) Δ) (y1 : NAt f x) (y2 : NAt f y) (hv : noac (cxs Δ1 Γ0 (tAll tTop C))) (hd' : ∀ a ∈ Δ, noal a.2.1 = true) (s1 : SMd C Γ0 Δ1 Δ f x) (s2 : SMd C Γ0 Δ1 Δ f y) (k18 : 18 ≤ tch C) (m1 : 3 ≤ mch x) (m2 : 3 ≤ mch y) (n1 : mch x < 16) (n2 : mch y < 16) (hb : cch (cxs Δ1 Γ0 (tAll tTop C)) + dch Δ + (2 + (mch x + mch y)) ≤ 60) (h47 : cch (cxs Δ1 Γ0 (tAll tTop C)) ≤ 47) : PRn f x y (cxs Δ1 Γ0 (tAll tTop C)) Δ := by
  have ov := H.ov (e := 1) (Nat.le_refl 1)
  have z1 := SMd.v x1 he s1 y1 hv hd' ov.1.1 Dsm_va Dsm_vg k18 n1 (by omega) h47
  have z2 := SMd.v x2 he s2 y2 hv hd' ov.1.1 Dsm_va Dsm_vg k18 n2 (by omega) h47
  have a1 := jxs_get jx1_s (c := cch (cxs Δ1 Γ0 (tAll tTop C))) (m := mch x) (n := mch y) (by omega) n1 n2
  have a2 := jxs_get jxq_s (c := cch (cxs Δ1 Γ0 (tAll tTop C))) (m := mch x) (n := mch y) (by omega) n1 n2
  by_cases cΔ : Δ = []
  · have e1 : bxe Δ uy1 ux1 = uy1 := by rw [cΔ]; rfl
    have e2 : bxe Δ uyq uxq = uyq := by rw [cΔ]; rfl
    rw [e1, e2] at z1 z2
    exact pair_sumv ov x1 x2 he y1 y2 hv hd' (by omega) z1 z2 (a1.2 (by omega)) (a2.2 (by omega))
  · have d5 := dch_five he cΔ
    have e1 : bxe Δ uy1 ux1 = ux1 := by
      unfold bxe
      rw [if_neg (by intro c; exact cΔ (List.isEmpty_iff.mp c))]
    have e2 : bxe Δ uyq uxq = uxq := by
      unfold bxe
      rw [if_neg (by intro c; exact cΔ (List.isEmpty_iff.mp c))]
    rw [e1, e2] at z1 z2
    exact pair_sumv ov x1 x2 he y1 y2 hv hd' (by omega) z1 z2 (a1.1 (by omega)) (a2.1 (by omega))
end PmXa
