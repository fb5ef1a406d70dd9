/-! BODIES THAT MAY BE REPLACED, the last contexts with a scheme of several binders: by sums. -/
def hz3 (XR F W : FrT) (hv fn s2 r0 r1 r2 r3 wB va y1 L ob k q2 m : Nat) : Bool := (frg XR k).all (fun v => (List.range (v.1 + 1)).all (fun p => (frg W q2).all (fun u => Nat.ble wB (u.2 + u.1 * max y1 va) && Nat.ble (dpD false F W 0 hv fn s2 r0 r1 r2 r3 (v.2 + (v.1 - p) * y1) p wB ob k (u.2 + u.1 * max y1 va) (55 - (9 + k + q2) - m) m) L)))
theorem hz3_get {XR F W : FrT} {hv fn s2 r0 r1 r2 r3 wB va y1 L ob k q2 m : Nat} (h : hz3 XR F W hv fn s2 r0 r1 r2 r3 wB va y1 L ob k q2 m = true) : ∀ v ∈ frg XR k, ∀ p, p ≤ v.1 → ∀ u ∈ frg W q2, wB ≤ u.2 + u.1 * max y1 va ∧ dpD false F W 0 hv fn s2 r0 r1 r2 r3 (v.2 + (v.1 - p) * y1) p wB ob k (u.2 + u.1 * max y1 va) (55 - (9 + k + q2) - m) m ≤ L := by
  intro v hv p hp u hu
  have q := List.all_eq_true.mp (List.all_eq_true.mp (List.all_eq_true.mp h v hv) p (List.mem_range.mpr (by omega))) u hu
  rw [Bool.and_eq_true] at q
  exact ⟨Nat.le_of_ble_eq_true q.1, Nat.le_of_ble_eq_true q.2⟩
def h3R (ob k q2 m : Nat) : Bool := hz3 xr1 fr1 fg1 1 2 3 2 2 2 2 2 7 (max 1 (fx1.getD 0 0)) 443 ob k q2 m
def h3G (ob k q2 m : Nat) : Bool := hz3 xrq frq fgq 0 1 1 1 3 2 1 1 3 (max 1 (fxq.getD 0 0)) 298 ob k q2 m
def obj (k q2 : Nat) : Nat := if Nat.beq k 12 then 4 else obz q2
theorem h3_all : exS.all (fun s => (Nat.ble 46 (9 + s.1 + s.2.2) && (Nat.beq s.2.1 0 && Nat.ble s.1 40)) && ((h3R (obj s.1 s.2.2) s.1 s.2.2 3 && h3G (obj s.1 s.2.2) s.1 s.2.2 3) && (Nat.ble 47 (9 + s.1 + s.2.2) || (h3R (obj s.1 s.2.2) s.1 s.2.2 4 && h3G (obj s.1 s.2.2) s.1 s.2.2 4)))) = true := by decide +kernel
section PmZ3
variable {f ob : Nat} {t x y C : Ty} {Γ0 Δ1 : List Ty} {Δ : List (Nat × Ty × Nat)}
theorem sm3_v (w : TWf f (cxs Δ1 Γ0 (tAll tTop C)).length (Δ.map (fun a => a.1)) t) (he : TE (cxs Δ1 Γ0 (tAll tTop C)) Δ) (cf : CFt f t) (oD : ok (Γ0.length + 1) Dsm = true) (e0 : Γ0 = []) (nΔ : Δ ≠ []) (k40 : tch C ≤ 40) (q38 : cch Δ1 ≤ 38) (m30 : mch t ≤ 30) (hb : 9 + tch C + cch Δ1 + dch Δ + mch t ≤ 55) (b1 : ∀ a ∈ Δ1, nsch a = true ∨ flv a ≤ ob) (zR : h3R ob (tch C) (cch Δ1) (mch t) = true) (zG : h3G ob (tch C) (cch Δ1) (mch t) = true) : SmV Dsm tTop C Γ0 Δ1 Δ f t 443 298 := by
  obtain ⟨oc0, oA⟩ := okc_low Δ1 he.1
  have oC := (ok_all.mp oA).2
  have c0 : cch Γ0 = 0 := by rw [e0]; rfl
  have b0 : ∀ a ∈ Γ0, nsch a = true ∨ flv a ≤ ob := fun a ha => by rw [e0] at ha; cases ha
  have gR : ∀ (b : Bool) (E : Stk → Nat) (Z : Nat → Nat), AQh 0 (fun _ => 1 + 1) (2 + 1) (vlr b 1) E Z f t [] (onz 0 (fun _ => 1 + 1) (2 + 1) (vlr b 1) (cxs Δ1 Γ0 (tAll tTop Dsm))) → GOk 0 (fun _ => 1 + 1) (2 + 1) (vlr b 1) E f t [] (onz 0 (fun _ => 1 + 1) (2 + 1) (vlr b 1) (cxs Δ1 Γ0 (tAll tTop Dsm))) (cxs Δ1 Γ0 (tAll tTop C)) Δ := fun b E Z aq => GH_free (t0 := 0) (n1 := fun _ => 1 + 1) (s2 := 2 + 1) (h := vlr b 1) (E := E) (Z := Z) f t [] _ _ Δ w he cf aq (by rw [onz_len, cxs_ll (tAll tTop Dsm) (tAll tTop C)])
  have gG : ∀ (E : Stk → Nat) (Z : Nat → Nat), AQh 1 ngc 1 (fun x => x) E Z f t [] (onz 1 ngc 1 (fun x => x) (cxs Δ1 Γ0 (tAll tTop Dsm))) → GOk 1 ngc 1 (fun x => x) E f t [] (onz 1 ngc 1 (fun x => x) (cxs Δ1 Γ0 (tAll tTop Dsm))) (cxs Δ1 Γ0 (tAll tTop C)) Δ := fun E Z aq => GH_free (t0 := 1) (n1 := ngc) (s2 := 1) (h := fun x => x) (E := E) (Z := Z) f t [] _ _ Δ w he cf aq (by rw [onz_len, cxs_ll (tAll tTop Dsm) (tAll tTop C)])
  refine zone_s (B := tTop) (un := false) (e := false) (cd := 55 - (9 + tch C + cch Δ1) - mch t) (wR := 2) (wG := 1) (va := 7) (vg := 3) w he (Or.inr ⟨rfl, nΔ⟩) (Or.inr (CF_CO f t 0 cf)) m30 (by omega) (by omega) b0 b1 (by omega) q38 (fun b => by rw [nz_top]; exact vlr_one b 0) (by rw [nz_top]; exact Nat.le_refl _) (form_R oC k40) (form_G oC k40) oD (fun b => Dsm_va b) Dsm_vg gR gG (fun v hv p hp u hu => ?_) (fun v hv p hp u hu => ?_)
  · obtain ⟨q1, q2⟩ := hz3_get zR v hv p hp u hu
    rw [c0]
    exact ⟨(u.2 + u.1 * max (max 1 (fx1.getD 0 0)) 7, 0, v.2 + (v.1 - p) * (max 1 (fx1.getD 0 0)), p, ob, tch C), ⟨Nat.le_refl _, Nat.le_refl _, Nat.le_refl _, Nat.le_refl _, Nat.le_refl _⟩, ⟨show tch C ≤ 50 by omega, q1⟩, fun _ _ => q2, fun e => by cases e⟩
  · obtain ⟨q1, q2⟩ := hz3_get zG v hv p hp u hu
    rw [c0]
    exact ⟨(u.2 + u.1 * max (max 1 (fxq.getD 0 0)) 3, 0, v.2 + (v.1 - p) * (max 1 (fxq.getD 0 0)), p, ob, tch C), ⟨Nat.le_refl _, Nat.le_refl _, Nat.le_refl _, Nat.le_refl _, Nat.le_refl _⟩, ⟨show tch C ≤ 50 by omega, q1⟩, fun _ _ => q2, fun e => by cases e⟩
theorem pair_s3 (ov : OVq 1 tTop C Dsm Γ0) (x1 : TWf f (cxs Δ1 Γ0 (tAll tTop C)).length (Δ.map (fun a => a.1)) x) (x2 : TWf f (cxs Δ1 Γ0 (tAll tTop C)).length (Δ.map (fun a => a.1)) y) (he : TE (cxs Δ1 Γ0 (tAll tTop C)) Δ) (y1 : NAt f x) (y2 : NAt f y) (hv : noac (cxs Δ1 Γ0 (tAll tTop C))) (hd' : ∀ a ∈ Δ, noal a.2.1 = true) (tx : TNo f x) (ty : TNo f y) (nΔ : Δ ≠ []) (ho : ∀ a ∈ Δ1, nsch a = true ∨ tch a ≤ tch C + 5) (hs : memt exS (tch C) (cch Γ0) (cch Δ1) = true) (m3 : 3 ≤ mch x) (n3 : 3 ≤ mch y) (hb : cch (cxs Δ1 Γ0 (tAll tTop C)) + dch Δ + (2 + (mch x + mch y)) ≤ 60) : PRn f x y (cxs Δ1 Γ0 (tAll tTop C)) Δ := by
  have ec := ec_top C Γ0 Δ1
  have d5 := dch_five he nΔ
  have q := List.all_eq_true.mp h3_all _ (memt_mem hs)
  rw [Bool.and_eq_true, Bool.and_eq_true, Bool.and_eq_true, Bool.and_eq_true, Bool.and_eq_true] at q
  obtain ⟨⟨c46, q0, k40⟩, ⟨r3, g3⟩, q4⟩ := q
  have c46 : 46 ≤ 9 + tch C + cch Δ1 := Nat.le_of_ble_eq_true c46
  have q0 : cch Γ0 = 0 := Nat.eq_of_beq_eq_true q0
  have k40 : tch C ≤ 40 := Nat.le_of_ble_eq_true k40
  have e0 := cch_zero q0
  have r3 : h3R (obj (tch C) (cch Δ1)) (tch C) (cch Δ1) 3 = true := r3
  have g3 : h3G (obj (tch C) (cch Δ1)) (tch C) (cch Δ1) 3 = true := g3
  have q4 : (Nat.ble 47 (9 + tch C + cch Δ1) || (h3R (obj (tch C) (cch Δ1)) (tch C) (cch Δ1) 4 && h3G (obj (tch C) (cch Δ1)) (tch C) (cch Δ1) 4)) = true := q4
  obtain ⟨a, ea⟩ := dch_one he nΔ (by omega)
  have cfx : CFt f x := by
    have x1' := x1
    rw [ea] at x1'
    rcases (chr_one f _ _ x x1' tx).1 with g | g
    · exact g
    · omega
  have cfy : CFt f y := by
    have x2' := x2
    rw [ea] at x2'
    rcases (chr_one f _ _ y x2' ty).1 with g | g
    · exact g
    · omega
  have key : ∀ m, 3 ≤ m → 9 + tch C + cch Δ1 + 5 + (2 + (3 + m)) ≤ 60 → h3R (obj (tch C) (cch Δ1)) (tch C) (cch Δ1) m = true ∧ h3G (obj (tch C) (cch Δ1)) (tch C) (cch Δ1) m = true := by
    intro m h1 h2
    by_cases e3 : m = 3
    · rw [e3]; exact ⟨r3, g3⟩
    · rw [Bool.or_eq_true, Bool.and_eq_true] at q4
      rcases q4 with q4 | q4
      · have q4 := Nat.le_of_ble_eq_true q4
        omega
      · have e4 : m = 4 := by omega
        rw [e4]; exact q4
  have b1 : ∀ a ∈ Δ1, nsch a = true ∨ flv a ≤ obj (tch C) (cch Δ1) := fun a ha => by
    obtain ⟨d, o1, o2⟩ := okc_top Δ1 he.1 a ha
    unfold obj
    by_cases h12 : Nat.beq (tch C) 12 = true
    · rw [if_pos h12]
      have h12 := Nat.eq_of_beq_eq_true h12
      cases hn : nsch a with
      | true => exact Or.inl rfl
      | false =>
        have t17 : tch a ≤ 17 := by
          rcases ho a ha with q | q
          · rw [hn] at q; cases q
          · omega
        obtain ⟨l1, -⟩ := flv_sch _ a d (Nat.le_refl _) o1 hn (by omega)
        have l2 := ls_mono (tch a) (by omega) 17 (by omega) t17
        have l3 : lsT.getD 17 0 = 4 := rfl
        right
        omega
    · rw [if_neg h12]
      exact Or.inr (flv_lmx o1 (show tch a ≤ cch Δ1 - 4 by omega) (by omega))
  have kx := key (mch x) m3 (by omega)
  have ky := key (mch y) n3 (by omega)
  have z1 := sm3_v x1 he cfx ov.1.1 e0 nΔ k40 (by omega) (by omega) (by omega) b1 kx.1 kx.2
  have z2 := sm3_v x2 he cfy ov.1.1 e0 nΔ k40 (by omega) (by omega) (by omega) b1 ky.1 ky.2
  exact pair_sumv ov x1 x2 he y1 y2 hv hd' (by omega) z1 z2 (by omega) (by omega)
end PmZ3
def RsM (f : Nat) (x y C : Ty) (Γ0 Δ1 : List Ty) (Δ : List (Nat × Ty × Nat)) : Prop := (LFn f x y C Γ0 Δ1 Δ ∧ phf (fun _ => true) C = true ∧ Δ ≠ [] ∧ (kdt C = 1 ∨ kdt C = 4) ∧ tch C = 30 ∧ Γ0 = [] ∧ Δ1 = [] ∧ mch x = 7 ∧ mch y = 7) ∨ (LFn f x y C Γ0 Δ1 Δ ∧ Γ0 = [] ∧ Δ1 = [] ∧ 36 ≤ tch C ∧ tch C ≤ 38 ∧ ∃ b e, C = tAll b e ∧ hd b ≠ 0 ∧ hd b < 16 ∧ bdC b e = true)
def LeftM (f : Nat) (x y : Ty) (Γ : List Ty) (Δ : List (Nat × Ty × Nat)) : Prop := ∃ (Δ1 Γ0 : List Ty) (b : Ty), Γ = cxs Δ1 Γ0 b ∧ nsch b = false ∧ ((∀ a ∈ Γ0, nsch a = true ∨ tch a ≤ tch b) ∧ ∀ a ∈ Δ1, nsch a = true ∨ tch a ≤ tch b) ∧ ((∀ B C, b ≠ tAll B C) ∨ (∃ B C, b = tAll B C ∧ B ≠ tTop) ∨ ∃ (C : Ty), b = tAll tTop C ∧ RsM f x y C Γ0 Δ1 Δ)
def RESTH9 : Prop := ∀ (f : Nat) (x y : Ty) (Γ : List Ty) (Δ : List (Nat × Ty × Nat)), TWf f Γ.length (Δ.map (fun a => a.1)) x → TWf f Γ.length (Δ.map (fun a => a.1)) y → TE Γ Δ → NAt f x → NAt f y → noac Γ → (∀ a ∈ Δ, noal a.2.1 = true) → TNo f x → TNo f y → 3 ≤ mch x → 3 ≤ mch y → (mch x ≤ mch y → ¬ NOp f x) → (¬ mch x ≤ mch y → ¬ NOp f y) → 20 ≤ cch Γ → cch Γ ≤ 47 → cch Γ + dch Δ + (2 + (mch x + mch y)) ≤ 60 → NoO f x y Γ Δ → ¬ AzT f x Γ Δ → ¬ AzT f y Γ Δ → ¬ AzB f x Γ Δ → ¬ AzB f y Γ Δ → ¬ AzC f x Γ Δ → ¬ AzC f y Γ Δ → ¬ AzI f x Γ Δ → ¬ AzI f y Γ Δ → ¬ AzF f x Γ Δ → ¬ AzF f y Γ Δ → ¬ AzG f x Γ Δ → ¬ AzG f y Γ Δ → ¬ AzH f x Γ Δ → ¬ AzH f y Γ Δ → ¬ PrS f x y Γ Δ → ¬ AzK f x Γ Δ → ¬ AzK f y Γ Δ → ¬ AzL f x Γ Δ → ¬ AzL f y Γ Δ → ¬ AzM f x Γ Δ → ¬ AzM f y Γ Δ → ¬ PrG f x y Γ Δ → ¬ AzN f x Γ Δ → ¬ AzN f y Γ Δ → ¬ One9 Γ → ¬ AzO f x Γ Δ → ¬ AzO f y Γ Δ → ¬ AzP f x Γ Δ → ¬ AzP f y Γ Δ → ¬ AzQ f x Γ Δ → ¬ AzQ f y Γ Δ → ¬ AzR f x Γ Δ → ¬ AzR f y Γ Δ → ¬ AzS f x Γ Δ → ¬ AzS f y Γ Δ → Cv2 f x y Γ Δ → Cv4 f x y Γ Δ → Cv5 f x y Γ Δ → Cv6 f x y Γ Δ → (¬ ((mch x ≤ mch y → CHo f x []) ∧ (¬ mch x ≤ mch y → CHo f y [])) ∨ LeftM f x y Γ Δ) → PRn f x y Γ Δ
theorem restg9_of (R : RESTH9) : RESTG9 := by
  intro f x y Γ Δ x1 x2 he y1 y2 hv hd' tx ty m3 n3 no1 no2 h20 h47 hb ng ax ay bx bz cx cy dx dy ex ey gx gy ix iy jx kx ky lx ly mx my px qx qy ox ux uy vx vy wx wy zx zy sx sy c2 c4 c5 c6 hL
  have go := R f x y Γ Δ x1 x2 he y1 y2 hv hd' tx ty m3 n3 no1 no2 h20 h47 hb ng ax ay bx bz cx cy dx dy ex ey gx gy ix iy jx kx ky lx ly mx my px qx qy ox ux uy vx vy wx wy zx zy sx sy c2 c4 c5 c6
  rcases hL with hL | ⟨Δ1, Γ0, b, e, ns, ho, rest⟩
  · exact go (Or.inl hL)
  rcases rest with r | r | ⟨C, eb, rs⟩
  · exact go (Or.inr ⟨Δ1, Γ0, b, e, ns, ho, Or.inl r⟩)
  · exact go (Or.inr ⟨Δ1, Γ0, b, e, ns, ho, Or.inr (Or.inl r)⟩)
  have keep : RsM f x y C Γ0 Δ1 Δ → PRn f x y Γ Δ := fun k => go (Or.inr ⟨Δ1, Γ0, b, e, ns, ho, Or.inr (Or.inr ⟨C, eb, k⟩)⟩)
  rcases rs with ⟨lf, hp, nΔ, r⟩ | r
  · rcases r with r | ⟨hs, k, ov⟩
    · exact keep (Or.inl ⟨lf, hp, nΔ, r⟩)
    · subst eb
      subst e
      refine pair_s3 ov x1 x2 he y1 y2 hv hd' tx ty nΔ (fun a ha => (ho.2 a ha).imp id (fun q => ?_)) hs m3 n3 hb
      have et : tch (tAll tTop C) = tch C + 5 := by rw [tch_all, tch_top]; omega
      omega
  · exact keep (Or.inr r)
theorem pairn_ph (R : RESTH9) : PAIRn := pairn_pg (restg9_of R)
