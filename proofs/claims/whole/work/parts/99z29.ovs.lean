/-! ANY SCHEME WHOSE BODY MAY BE REPLACED BY A SMALL ONE. -/
section PmZw
variable {f : Nat} {x y t C Dm : Ty} {Γ0 Δ1 : List Ty} {Δ : List (Nat × Ty × Nat)}
theorem pair_mixxo (ov : OVq 1 tTop C Dsm Γ0) (x1 : TWf f (cxs Δ1 Γ0 (tAll tTop C)).length (Δ.map (fun a => a.1)) x) (x2 : TWf f (cxs Δ1 Γ0 (tAll tTop C)).length (Δ.map (fun a => a.1)) y) (he : TE (cxs Δ1 Γ0 (tAll tTop C)) Δ) (y1 : NAt f x) (y2 : NAt f y) (hv : noac (cxs Δ1 Γ0 (tAll tTop C))) (hd' : ∀ a ∈ Δ, noal a.2.1 = true) (s1 : SMd C Γ0 Δ1 Δ f x) (s2 : SMd C Γ0 Δ1 Δ f y) (k18 : 18 ≤ tch C) (m1 : 3 ≤ mch x) (m2 : 3 ≤ mch y) (n1 : mch x < 16) (n2 : mch y < 16) (hb : cch (cxs Δ1 Γ0 (tAll tTop C)) + dch Δ + (2 + (mch x + mch y)) ≤ 60) (h47 : cch (cxs Δ1 Γ0 (tAll tTop C)) ≤ 47) : PRn f x y (cxs Δ1 Γ0 (tAll tTop C)) Δ := by
  have z1 := SMd.v x1 he s1 y1 hv hd' ov.1.1 Dsm_va Dsm_vg k18 n1 (by omega) h47
  have z2 := SMd.v x2 he s2 y2 hv hd' ov.1.1 Dsm_va Dsm_vg k18 n2 (by omega) h47
  have a1 := jxs_get jx1_s (c := cch (cxs Δ1 Γ0 (tAll tTop C))) (m := mch x) (n := mch y) (by omega) n1 n2
  have a2 := jxs_get jxq_s (c := cch (cxs Δ1 Γ0 (tAll tTop C))) (m := mch x) (n := mch y) (by omega) n1 n2
  by_cases cΔ : Δ = []
  · have e1 : bxe Δ uy1 ux1 = uy1 := by rw [cΔ]; rfl
    have e2 : bxe Δ uyq uxq = uyq := by rw [cΔ]; rfl
    rw [e1, e2] at z1 z2
    exact pair_sumv ov x1 x2 he y1 y2 hv hd' (by omega) z1 z2 (a1.2 (by omega)) (a2.2 (by omega))
  · have d5 := dch_five he cΔ
    have e1 : bxe Δ uy1 ux1 = ux1 := by
      unfold bxe
      rw [if_neg (by intro c; exact cΔ (List.isEmpty_iff.mp c))]
    have e2 : bxe Δ uyq uxq = uxq := by
      unfold bxe
      rw [if_neg (by intro c; exact cΔ (List.isEmpty_iff.mp c))]
    rw [e1, e2] at z1 z2
    exact pair_sumv ov x1 x2 he y1 y2 hv hd' (by omega) z1 z2 (a1.1 (by omega)) (a2.1 (by omega))
end PmZw
section PmZx
variable {f h : Nat} {x y B C Dm : Ty} {Γ0 Δ1 : List Ty} {Δ : List (Nat × Ty × Nat)}
theorem pair_nodeso (ov : OVq 1 B C Dsm Γ0) (x1 : TWf f (cxs Δ1 Γ0 (tAll B C)).length (Δ.map (fun a => a.1)) x) (x2 : TWf f (cxs Δ1 Γ0 (tAll B C)).length (Δ.map (fun a => a.1)) y) (he : TE (cxs Δ1 Γ0 (tAll B C)) Δ) (y1 : NAt f x) (y2 : NAt f y) (hv : noac (cxs Δ1 Γ0 (tAll B C))) (hd' : ∀ a ∈ Δ, noal a.2.1 = true) (hk : ndk (cch Γ0) (cch Δ1) = true) (h47 : cch (cxs Δ1 Γ0 (tAll B C)) ≤ 47) : PRn f x y (cxs Δ1 Γ0 (tAll B C)) Δ := by
  obtain ⟨oc0, oA⟩ := okc_low Δ1 he.1
  have oB := (ok_all.mp oA).1
  have oC := (ok_all.mp oA).2
  have ec : cch (cxs Δ1 Γ0 (tAll B C)) = 8 + tch B + tch C + cch Γ0 + cch Δ1 := by
    rw [cch_cx, tch_all]
    omega
  have kB := tch_pos oB
  unfold ndk at hk
  rw [Bool.and_eq_true] at hk
  refine pair_nodesv ov x1 x2 he y1 y2 hv hd' (by omega) (fun b => ?_) ?_
  · obtain ⟨v, hv, x1, x2⟩ := xr_form (t0 := 0) (n1 := fun _ => 1 + 1) (s2 := 3) (hv := 1) xr1_ok (tbs1 b).2.2.2.1 (tbs1 b).2.2.2.2.1 _ C (Γ0.length + 1) (Nat.le_refl _) oC (by omega)
    obtain ⟨p, hp, e, he', g1, g2, g3⟩ := sm_ctx (v := v) (va := 7) (Dm := Dsm) (tbs1 b) fg1_ok (by decide) fg1_m (vlr_one b) he.1 ov.1.1 (Dsm_va b) x1 x2 (Nat.le_refl _) (Nat.le_refl _) (by omega) (Nat.le_refl _) (by omega)
    have q := Nat.le_of_ble_eq_true (List.all_eq_true.mp hk.1 e he')
    exact fun j hj => Nat.le_trans (g2 j hj) q
  · obtain ⟨v, hv, x1, x2⟩ := xr_form (t0 := 1) (n1 := ngc) (s2 := 1) (hv := 0) xrq_ok tbsq.2.2.2.1 tbsq.2.2.2.2.1 _ C (Γ0.length + 1) (Nat.le_refl _) oC (by omega)
    obtain ⟨p, hp, e, he', g1, g2, g3⟩ := sm_ctx (v := v) (va := 3) (Dm := Dsm) tbsq fgq_ok (by decide) fgq_m (fun y => by show y ≤ 0 + max 1 y; omega) he.1 ov.1.1 Dsm_vg x1 x2 (Nat.le_refl _) (Nat.le_refl _) (by omega) (Nat.le_refl _) (by omega)
    have q := Nat.le_of_ble_eq_true (List.all_eq_true.mp hk.2 e he')
    exact fun j hj => Nat.le_trans (g2 j hj) q
end PmZx
section PmZy
variable {f : Nat} {x y C : Ty} {Γ0 Δ1 : List Ty} {Δ : List (Nat × Ty × Nat)}
theorem pair_Lo (H : OVq 1 tTop C Dsm Γ0) (x1 : TWf f (cxs Δ1 Γ0 (tAll tTop C)).length (Δ.map (fun a => a.1)) x) (x2 : TWf f (cxs Δ1 Γ0 (tAll tTop C)).length (Δ.map (fun a => a.1)) y) (he : TE (cxs Δ1 Γ0 (tAll tTop C)) Δ) (y1 : NAt f x) (y2 : NAt f y) (hv : noac (cxs Δ1 Γ0 (tAll tTop C))) (hd' : ∀ a ∈ Δ, noal a.2.1 = true) (t1 : TNo f x) (t2 : TNo f y) (nΔ : Δ ≠ []) (hz : memt exL (tch C) (cch Γ0) (cch Δ1) = true) (m3 : 3 ≤ mch x) (n3 : 3 ≤ mch y) (hb : cch (cxs Δ1 Γ0 (tAll tTop C)) + dch Δ + (2 + (mch x + mch y)) ≤ 60) (h49 : cch (cxs Δ1 Γ0 (tAll tTop C)) ≤ 47) : PRn f x y (cxs Δ1 Γ0 (tAll tTop C)) Δ ∨ (memt [(27, 0, 9)] (tch C) (cch Γ0) (cch Δ1) = true ∧ mch x + mch y = 8 ∧ ¬ (CFt f x ∧ CFt f y)) := by
  have ec := ec_top C Γ0 Δ1
  have d5 := dch_five he nΔ
  have key : exL.all (fun s => Nat.ble 27 s.1 && (memt [(27, 0, 9)] s.1 s.2.1 s.2.2 || Nat.ble 46 (9 + s.1 + s.2.1 + s.2.2)) && Nat.ble 45 (9 + s.1 + s.2.1 + s.2.2)) = true := by decide +kernel
  have q := List.all_eq_true.mp key _ (memt_mem hz)
  rw [Bool.and_eq_true, Bool.and_eq_true, Bool.or_eq_true] at q
  obtain ⟨⟨k27, q⟩, c45⟩ := q
  have k27 : 27 ≤ tch C := Nat.le_of_ble_eq_true k27
  have c45 : 45 ≤ 9 + tch C + cch Γ0 + cch Δ1 := Nat.le_of_ble_eq_true c45
  by_cases cf : CFt f x ∧ CFt f y
  · exact Or.inl (pair_mixxo H x1 x2 he y1 y2 hv hd' (Or.inl cf.1) (Or.inl cf.2) (by omega) m3 n3 (by omega) (by omega) hb h49)
  · right
    obtain ⟨a, e⟩ := dch_one he nΔ (by omega)
    have big : 5 ≤ mch x ∨ 5 ≤ mch y := by
      rw [e] at x1 x2
      have g1 := (chr_one f _ _ x x1 t1).1
      have g2 := (chr_one f _ _ y x2 t2).1
      rcases g1 with g1 | g1
      · rcases g2 with g2 | g2
        · exact absurd ⟨g1, g2⟩ cf
        · exact Or.inr g2
      · exact Or.inl g1
    rcases q with q | q
    · exact ⟨q, by omega, cf⟩
    · have q : 46 ≤ 9 + tch C + cch Γ0 + cch Δ1 := Nat.le_of_ble_eq_true q
      omega
end PmZy
/-- no scheme of the context is of that sort, the others being small; none is never entered -/
def NoO (f : Nat) (x y : Ty) (Γ : List Ty) (Δ : List (Nat × Ty × Nat)) : Prop := NoG f x y Γ Δ ∧ ∀ (Δ1 Γ0 : List Ty) (B C : Ty), Γ = cxs Δ1 Γ0 (tAll B C) → ndk (cch Γ0) (cch Δ1) = true → ¬ OVq 1 B C Dsm Γ0
def RsI (f : Nat) (x y C : Ty) (Γ0 Δ1 : List Ty) (Δ : List (Nat × Ty × Nat)) : Prop := LFn f x y C Γ0 Δ1 Δ ∧ phf (fun _ => true) C = true ∧ Δ ≠ [] ∧ (((kdt C = 1 ∨ kdt C = 4) ∧ tch C = 30 ∧ Γ0 = [] ∧ Δ1 = [] ∧ mch x = 7 ∧ mch y = 7) ∨ (kdt C = 2 ∧ memt exL (tch C) (cch Γ0) (cch Δ1) = true ∧ ¬ OVq 1 tTop C Dsm Γ0) ∨ (memt exS (tch C) (cch Γ0) (cch Δ1) = true ∧ (kdt C = 2 ∨ (kdt C = 3 ∧ OVq 1 tTop C Dsm Γ0))) ∨ ((kdt C = 2 ∨ kdt C = 3) ∧ OVq 1 tTop C Dsm Γ0 ∧ memt [(27, 0, 9)] (tch C) (cch Γ0) (cch Δ1) = true ∧ mch x + mch y = 8 ∧ ¬ (CFt f x ∧ CFt f y))) ∨ (LFn f x y C Γ0 Δ1 Δ ∧ phf (fun _ => true) C = true ∧ kdt C = 2 ∧ ndk (cch Γ0) (cch Δ1) = true ∧ ¬ OVq 1 tTop C Dsm Γ0 ∧ memt t27 (tch C) (cch Γ0) (cch Δ1) = true)
def LeftI (f : Nat) (x y : Ty) (Γ : List Ty) (Δ : List (Nat × Ty × Nat)) : Prop := ∃ (Δ1 Γ0 : List Ty) (b : Ty), Γ = cxs Δ1 Γ0 b ∧ nsch b = false ∧ ((∀ a ∈ Γ0, nsch a = true ∨ tch a ≤ tch b) ∧ ∀ a ∈ Δ1, nsch a = true ∨ tch a ≤ tch b) ∧ ((∀ B C, b ≠ tAll B C) ∨ (∃ B C, b = tAll B C ∧ B ≠ tTop) ∨ ∃ (C : Ty), b = tAll tTop C ∧ RsI f x y C Γ0 Δ1 Δ)
def RESTh : Prop := ∀ (f : Nat) (x y : Ty) (Γ : List Ty) (Δ : List (Nat × Ty × Nat)), TWf f Γ.length (Δ.map (fun a => a.1)) x → TWf f Γ.length (Δ.map (fun a => a.1)) y → TE Γ Δ → NAt f x → NAt f y → noac Γ → (∀ a ∈ Δ, noal a.2.1 = true) → TNo f x → TNo f y → 3 ≤ mch x → 3 ≤ mch y → (mch x ≤ mch y → ¬ NOp f x) → (¬ mch x ≤ mch y → ¬ NOp f y) → 20 ≤ cch Γ → cch Γ ≤ 47 → cch Γ + dch Δ + (2 + (mch x + mch y)) ≤ 60 → NoO f x y Γ Δ → (¬ ((mch x ≤ mch y → CHo f x []) ∧ (¬ mch x ≤ mch y → CHo f y [])) ∨ LeftI f x y Γ Δ) → PRn f x y Γ Δ
theorem restg_of (R : RESTh) : RESTg := by
  intro f x y Γ Δ x1 x2 he y1 y2 hv hd' tx ty m3 n3 no1 no2 h20 h47 hb ng hL
  by_cases no : ∀ (Δ1 Γ0 : List Ty) (B C : Ty), Γ = cxs Δ1 Γ0 (tAll B C) → ndk (cch Γ0) (cch Δ1) = true → ¬ OVq 1 B C Dsm Γ0
  rotate_left
  · obtain ⟨Δ1, g1⟩ := Classical.not_forall.mp no
    obtain ⟨Γ0, g2⟩ := Classical.not_forall.mp g1
    obtain ⟨B, g3⟩ := Classical.not_forall.mp g2
    obtain ⟨C, g4⟩ := Classical.not_forall.mp g3
    obtain ⟨e, g5⟩ := Classical.not_imp.mp g4
    obtain ⟨nd, g6⟩ := Classical.not_imp.mp g5
    clear no g1 g2 g3 g4 g5
    subst e
    exact pair_nodeso (Classical.not_not.mp g6) x1 x2 he y1 y2 hv hd' nd h47
  have rest := R f x y Γ Δ x1 x2 he y1 y2 hv hd' tx ty m3 n3 no1 no2 h20 h47 hb ⟨ng, no⟩
  rcases hL with h | ⟨Δ1, Γ0, b, e, nb, hs, h⟩
  · exact rest (Or.inl h)
  have out : ((∀ B C, b ≠ tAll B C) ∨ (∃ B C, b = tAll B C ∧ B ≠ tTop) ∨ ∃ (C : Ty), b = tAll tTop C ∧ RsI f x y C Γ0 Δ1 Δ) → PRn f x y Γ Δ := fun q => rest (Or.inr ⟨Δ1, Γ0, b, e, nb, hs, q⟩)
  rcases h with h | h | ⟨C, eb, h⟩
  · exact out (Or.inl h)
  · exact out (Or.inr (Or.inl h))
  have oui : RsI f x y C Γ0 Δ1 Δ → PRn f x y Γ Δ := fun q => out (Or.inr (Or.inr ⟨C, eb, q⟩))
  subst eb
  subst e
  rcases h with ⟨lf, hp, nΔ, h⟩ | ⟨lf, hp, k, nd, nH, q⟩
  · rcases h with h | ⟨k, q, nH⟩ | ⟨q, h⟩ | ⟨k, H, q1, q2, q3⟩
    · exact oui (Or.inl ⟨lf, hp, nΔ, Or.inl h⟩)
    · by_cases ov : OVq 1 tTop C Dsm Γ0
      · rcases pair_Lo ov x1 x2 he y1 y2 hv hd' tx ty nΔ q m3 n3 hb h47 with p | ⟨p1, p2, p3⟩
        · exact p
        · exact oui (Or.inl ⟨lf, hp, nΔ, Or.inr (Or.inr (Or.inr ⟨Or.inl k, ov, p1, p2, p3⟩))⟩)
      · exact oui (Or.inl ⟨lf, hp, nΔ, Or.inr (Or.inl ⟨k, q, ov⟩)⟩)
    · refine oui (Or.inl ⟨lf, hp, nΔ, Or.inr (Or.inr (Or.inl ⟨q, ?_⟩))⟩)
      rcases h with h | ⟨h1, h2⟩
      · exact Or.inl h
      · exact Or.inr ⟨h1, h2.ov (e := 1) (Nat.le_refl 1)⟩
    · exact oui (Or.inl ⟨lf, hp, nΔ, Or.inr (Or.inr (Or.inr ⟨k, H.ov (e := 1) (Nat.le_refl 1), q1, q2, q3⟩))⟩)
  · exact oui (Or.inr ⟨lf, hp, k, nd, no Δ1 Γ0 tTop C rfl nd, q⟩)
theorem pairn_oh (R : RESTh) : PAIRn := pairn_og (restg_of R)
