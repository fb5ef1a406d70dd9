/-! BODIES WITH TWO HEADERS, 36 characters and more, no other binder: by characters and nodes. -/
def yy9 (X : List Nat) (hv s2 wB : Nat) (v e : Nat × Nat) (p : Nat) : Nat := e.2 + e.1 * max (max 1 (X.getD 0 0)) (hv + (s2 + (v.2 + (v.1 - p) * max 1 (X.getD 0 0) + p * wB)))
def e10 (V : List (Nat × Nat)) (F W : FrT) (X : List Nat) (hv fn s2 r0 r1 r2 r3 wB Bd k : Nat) : Bool := V.all (fun v => (List.range (v.1 + 1)).all (fun p => (frg W 0).all (fun e => Nat.ble wB (yy9 X hv s2 wB v e p) && ck9 F W hv fn s2 r0 r1 r2 r3 wB Bd k 0 0 (yy9 X hv s2 wB v e p, v.2 + (v.1 - p) * max 1 (X.getD 0 0), p))))
theorem e10R_36 : e10 (mnl (frg yC1 36) nCW1) fr1 fg1 fx1 1 2 3 2 2 2 2 2 887 36 = true := by decide +kernel
theorem e10G_36 : e10 (mnl (frg yCq 36) nCWq) frq fgq fxq 0 1 1 1 3 2 1 1 597 36 = true := by decide +kernel
theorem e10R_37 : e10 (mnl (frg yC1 37) nCW1) fr1 fg1 fx1 1 2 3 2 2 2 2 2 887 37 = true := by decide +kernel
theorem e10G_37 : e10 (mnl (frg yCq 37) nCWq) frq fgq fxq 0 1 1 1 3 2 1 1 597 37 = true := by decide +kernel
theorem e10R_38 : e10 (mnl (frg yC1 38) nCW1) fr1 fg1 fx1 1 2 3 2 2 2 2 2 887 38 = true := by decide +kernel
theorem e10G_38 : e10 (mnl (frg yCq 38) nCWq) frq fgq fxq 0 1 1 1 3 2 1 1 597 38 = true := by decide +kernel
theorem e10_get {V : List (Nat × Nat)} {F W : FrT} {X : List Nat} {hv fn s2 r0 r1 r2 r3 wB Bd k p : Nat} (h : e10 V F W X hv fn s2 r0 r1 r2 r3 wB Bd k = true) {v e : Nat × Nat} (hv' : v ∈ V) (hp : p ≤ v.1) (he : e ∈ frg W 0) : wB ≤ yy9 X hv s2 wB v e p ∧ ck9 F W hv fn s2 r0 r1 r2 r3 wB Bd k 0 0 (yy9 X hv s2 wB v e p, v.2 + (v.1 - p) * max 1 (X.getD 0 0), p) = true := by
  have q := List.all_eq_true.mp (rng_all (List.all_eq_true.mp h v hv') (i := p) (by omega)) e he
  rw [Bool.and_eq_true] at q
  exact ⟨Nat.le_of_ble_eq_true q.1, q.2⟩
section PmNl3
variable {f : Nat} {t b D : Ty} {Γ0 Δ1 : List Ty} {Δ : List (Nat × Ty × Nat)}
theorem nat_10 (w : TWf f (cxs Δ1 Γ0 (tAll tTop (tAll b D))).length (Δ.map (fun a => a.1)) t) (he : TE (cxs Δ1 Γ0 (tAll tTop (tAll b D))) Δ) (tn : TNo f t) (ch : CHo f t []) (hb9 : hd b ≠ 0 ∧ hd b < 16) (hp : bdC b D = true) (g0 : Γ0 = []) (g1 : Δ1 = []) (h36 : 36 ≤ tch (tAll b D)) (h38 : tch (tAll b D) ≤ 38) (m3 : 3 ≤ mch t) (hb : cch (cxs Δ1 Γ0 (tAll tTop (tAll b D))) + dch Δ + 2 * mch t ≤ 58) (h49 : cch (cxs Δ1 Γ0 (tAll tTop (tAll b D))) ≤ 47) : NtV (cxs Δ1 Γ0 (tAll tTop (tAll b D))) Δ f t 887 597 := by
  subst g0
  subst g1
  have ec := ec_top (tAll b D) [] []
  have z0 : cch ([] : List Ty) = 0 := rfl
  have ho : (∀ b' ∈ ([] : List Ty), nsch b' = true ∨ (true = true ∧ tch b' ≤ tch (tAll b D) + 5)) ∧ ∀ b' ∈ ([] : List Ty), nsch b' = true ∨ (true = true ∧ tch b' ≤ tch (tAll b D) + 5) := ⟨fun a ha => (by cases ha), fun a ha => (by cases ha)⟩
  obtain ⟨hb0, hb1⟩ := zow_ob he.1 ho h49
  have dd : e10 (mnl (frg yC1 (tch (tAll b D))) nCW1) fr1 fg1 fx1 1 2 3 2 2 2 2 2 887 (tch (tAll b D)) = true ∧ e10 (mnl (frg yCq (tch (tAll b D))) nCWq) frq fgq fxq 0 1 1 1 3 2 1 1 597 (tch (tAll b D)) = true := by
    have q : tch (tAll b D) = 36 ∨ tch (tAll b D) = 37 ∨ tch (tAll b D) = 38 := by omega
    rcases q with q | q | q
    · rw [q]; exact ⟨e10R_36, e10G_36⟩
    · rw [q]; exact ⟨e10R_37, e10G_37⟩
    · rw [q]; exact ⟨e10R_38, e10G_38⟩
  obtain ⟨dR, dG⟩ := dd
  rw [ec] at hb h49
  have oA : ok 0 (tAll tTop (tAll b D)) = true := (okc_low [] he.1).2
  have oC := (ok_all.mp oA).2
  have ob := (ok_all.mp oC).1
  have oD := (ok_all.mp oC).2
  have l14 : (flat (tAll b D)).length ≤ 14 := by
    have q : (flat (tAll tTop (tAll b D))).length ≤ 16 := he.2.1 0 (by rw [cxs_len]; simp)
    rw [flat_all, List.length_cons, List.length_append] at q
    have : (flat tTop).length = 1 := rfl
    omega
  have tb : 2 ≤ tch b := by
    rcases ok_cases ob with rfl | ⟨j, hj, rfl⟩ | ⟨x, y, rfl, hx, hy⟩ | ⟨x, y, rfl, hx, hy⟩ | ⟨m, x, y, z, hm', rfl, -, -, -⟩
    · exact absurd rfl hb9.1
    · have := hb9.2; rw [hd_var] at this; omega
    · rw [tch_fun]; omega
    · rw [tch_all]; omega
    · rw [tch_rec]; have := (rch_ng m hm').1; omega
  have et : tch (tAll b D) = 4 + (tch b + tch D) := tch_all b D
  have pD := tch_pos oD
  have fR : ∃ v ∈ mnl (frg yC1 (tch (tAll b D))) nCW1, xt (([] : List Ty).length + 1) (tAll b D) ≤ v.1 ∧ xa 0 (fun _ => 1 + 1) 3 1 (([] : List Ty).length + 1) (tAll b D) ≤ v.2 := mnl_ex (yC_f1 ob oD hb9 (by omega) hp) (nC_f1 ob oD hb9 l14 hp)
  have fG : ∃ v ∈ mnl (frg yCq (tch (tAll b D))) nCWq, xt (([] : List Ty).length + 1) (tAll b D) ≤ v.1 ∧ xa 1 ngc 1 0 (([] : List Ty).length + 1) (tAll b D) ≤ v.2 := mnl_ex (yC_fq ob oD hb9 (by omega) hp) (nC_fq ob oD hb9 l14 hp)
  have fin : ∀ (un ee : Bool) (cd : Nat), ((ee = true ∧ Δ = []) ∨ (ee = false ∧ Δ ≠ [])) → (un = true ∨ COk f t 0) → dch Δ ≤ cd → cd ≤ 56 → (∀ s : Nat × Nat × Nat, 2 ≤ s.1 → ck9 fr1 fg1 1 2 3 2 2 2 2 2 887 (tch (tAll b D)) 0 0 s = true → TpR9 un ee 2 cd (mch t) (s.1, tch (tAll b D) - 6, s.2.1, s.2.2, zow true (tch (tAll b D)) 0 0, tch (tAll b D))) → (∀ s : Nat × Nat × Nat, 1 ≤ s.1 → ck9 frq fgq 0 1 1 1 3 2 1 1 597 (tch (tAll b D)) 0 0 s = true → TpG9 un ee 1 cd (mch t) (s.1, tch (tAll b D) - 6, s.2.1, s.2.2, zow true (tch (tAll b D)) 0 0, tch (tAll b D))) → NtV (cxs [] [] (tAll tTop (tAll b D))) Δ f t 887 597 := by
    intro un ee cd hΔ cu hcd1 hcd2 hR hG
    refine zone_g9 (un := un) (e := ee) (cd := cd) (ob := zow true (tch (tAll b D)) (cch ([] : List Ty)) (cch ([] : List Ty))) (wR := 2) (wG := 1) (yR := max 1 (fx1.getD (cch ([] : List Ty)) 0)) (yG := max 1 (fxq.getD (cch ([] : List Ty)) 0)) (VR := mnl (frg yC1 (tch (tAll b D))) nCW1) (VG := mnl (frg yCq (tch (tAll b D))) nCWq) (WR := frg fg1 (cch ([] : List Ty))) (WG := frg fgq (cch ([] : List Ty))) w he hΔ cu ch (by omega) hcd1 hcd2 hb0 hb1 (fun b => by rw [nz_top]; exact vlr_one b 0) (by rw [nz_top]; exact Nat.le_refl _) fR fG (fun b' v x1 x2 => nat_ctxg (wB := 2) (v := v) (tbs1 b') (vlr_one b') (by decide) he.1 x1 x2 (by rw [nz_top]; exact vlr_one b' 0) (Nat.le_refl _) (by omega) (gr_R he.1 (by omega) b')) (fun v x1 x2 => nat_ctxg (wB := 1) (v := v) tbsq (fun y => by show y ≤ 0 + max 1 y; omega) (by decide) he.1 x1 x2 (by rw [nz_top]; exact Nat.le_refl _) (Nat.le_refl _) (by omega) (gr_G he.1 (by omega))) ?_ ?_
    · intro v hv p hp' e he'
      obtain ⟨q1, q2⟩ := e10_get dR hv hp' he'
      exact ⟨_, ⟨Nat.le_refl _, Nat.le_refl _, Nat.le_refl _, Nat.le_refl _, Nat.le_refl _⟩, by show tch D ≤ tch (tAll b D) - 6; omega, hR _ q1 q2⟩
    · intro v hv p hp' e he'
      obtain ⟨q1, q2⟩ := e10_get dG hv hp' he'
      exact ⟨_, ⟨Nat.le_refl _, Nat.le_refl _, Nat.le_refl _, Nat.le_refl _, Nat.le_refl _⟩, by show tch D ≤ tch (tAll b D) - 6; omega, hG _ q1 q2⟩
  have m14 : mch t < 14 := by omega
  by_cases nΔ : Δ = []
  · refine fin true true 56 (Or.inl ⟨rfl, nΔ⟩) (Or.inl rfl) (by rw [nΔ]; exact Nat.zero_le _) (Nat.le_refl _) (fun s w2 hs => ?_) (fun s w2 hs => ?_)
    · exact ⟨⟨⟨by show tch (tAll b D) ≤ 50; omega, by show tch (tAll b D) - 6 ≤ tch (tAll b D); omega⟩, w2⟩, (fun h => by cases h), fun _ => (c9_get hs m3 m14).2 (by omega)⟩
    · exact ⟨⟨⟨by show tch (tAll b D) ≤ 50; omega, by show tch (tAll b D) - 6 ≤ tch (tAll b D); omega⟩, w2⟩, (fun h => by cases h), fun _ => (c9_get hs m3 m14).2 (by omega)⟩
  · have d5 := dch_five he nΔ
    have co : COk f t 0 := by
      rcases co_six w with q | q
      · exact q
      · exfalso
        omega
    have cu : u8 (tch (tAll b D)) 0 0 (mch t) = true ∨ COk f t 0 := Or.inr co
    refine fin _ false (58 - 2 * mch t - (9 + tch (tAll b D) + 0 + 0)) (Or.inr ⟨rfl, nΔ⟩) cu (by omega) (by omega) (fun s w2 hs => ?_) (fun s w2 hs => ?_)
    · exact ⟨⟨⟨by show tch (tAll b D) ≤ 50; omega, by show tch (tAll b D) - 6 ≤ tch (tAll b D); omega⟩, w2⟩, fun _ _ => (c9_get hs m3 m14).1 (by omega), (fun h => by cases h)⟩
    · exact ⟨⟨⟨by show tch (tAll b D) ≤ 50; omega, by show tch (tAll b D) - 6 ≤ tch (tAll b D); omega⟩, w2⟩, fun _ _ => (c9_get hs m3 m14).1 (by omega), (fun h => by cases h)⟩
end PmNl3
def RsN (f : Nat) (x y C : Ty) (Γ0 Δ1 : List Ty) (Δ : List (Nat × Ty × Nat)) : Prop := LFn f x y C Γ0 Δ1 Δ ∧ phf (fun _ => true) C = true ∧ Δ ≠ [] ∧ (kdt C = 1 ∨ kdt C = 4) ∧ tch C = 30 ∧ Γ0 = [] ∧ Δ1 = [] ∧ mch x = 7 ∧ mch y = 7
def LeftN (f : Nat) (x y : Ty) (Γ : List Ty) (Δ : List (Nat × Ty × Nat)) : Prop := ∃ (Δ1 Γ0 : List Ty) (b : Ty), Γ = cxs Δ1 Γ0 b ∧ nsch b = false ∧ ((∀ a ∈ Γ0, nsch a = true ∨ tch a ≤ tch b) ∧ ∀ a ∈ Δ1, nsch a = true ∨ tch a ≤ tch b) ∧ ((∀ B C, b ≠ tAll B C) ∨ (∃ B C, b = tAll B C ∧ B ≠ tTop) ∨ ∃ (C : Ty), b = tAll tTop C ∧ RsN f x y C Γ0 Δ1 Δ)
def RESTI9 : Prop := ∀ (f : Nat) (x y : Ty) (Γ : List Ty) (Δ : List (Nat × Ty × Nat)), TWf f Γ.length (Δ.map (fun a => a.1)) x → TWf f Γ.length (Δ.map (fun a => a.1)) y → TE Γ Δ → NAt f x → NAt f y → noac Γ → (∀ a ∈ Δ, noal a.2.1 = true) → TNo f x → TNo f y → 3 ≤ mch x → 3 ≤ mch y → (mch x ≤ mch y → ¬ NOp f x) → (¬ mch x ≤ mch y → ¬ NOp f y) → 20 ≤ cch Γ → cch Γ ≤ 47 → cch Γ + dch Δ + (2 + (mch x + mch y)) ≤ 60 → NoO f x y Γ Δ → ¬ AzT f x Γ Δ → ¬ AzT f y Γ Δ → ¬ AzB f x Γ Δ → ¬ AzB f y Γ Δ → ¬ AzC f x Γ Δ → ¬ AzC f y Γ Δ → ¬ AzI f x Γ Δ → ¬ AzI f y Γ Δ → ¬ AzF f x Γ Δ → ¬ AzF f y Γ Δ → ¬ AzG f x Γ Δ → ¬ AzG f y Γ Δ → ¬ AzH f x Γ Δ → ¬ AzH f y Γ Δ → ¬ PrS f x y Γ Δ → ¬ AzK f x Γ Δ → ¬ AzK f y Γ Δ → ¬ AzL f x Γ Δ → ¬ AzL f y Γ Δ → ¬ AzM f x Γ Δ → ¬ AzM f y Γ Δ → ¬ PrG f x y Γ Δ → ¬ AzN f x Γ Δ → ¬ AzN f y Γ Δ → ¬ One9 Γ → ¬ AzO f x Γ Δ → ¬ AzO f y Γ Δ → ¬ AzP f x Γ Δ → ¬ AzP f y Γ Δ → ¬ AzQ f x Γ Δ → ¬ AzQ f y Γ Δ → ¬ AzR f x Γ Δ → ¬ AzR f y Γ Δ → ¬ AzS f x Γ Δ → ¬ AzS f y Γ Δ → Cv2 f x y Γ Δ → Cv4 f x y Γ Δ → Cv5 f x y Γ Δ → Cv6 f x y Γ Δ → (¬ ((mch x ≤ mch y → CHo f x []) ∧ (¬ mch x ≤ mch y → CHo f y [])) ∨ LeftN f x y Γ Δ) → PRn f x y Γ Δ
theorem resth9_of (R : RESTI9) : RESTH9 := by
  intro f x y Γ Δ x1 x2 he y1 y2 hv hd' tx ty m3 n3 no1 no2 h20 h47 hb ng ax ay bx bz cx cy dx dy ex ey gx gy ix iy jx kx ky lx ly mx my px qx qy ox ux uy vx vy wx wy zx zy sx sy c2 c4 c5 c6 hL
  have go := R f x y Γ Δ x1 x2 he y1 y2 hv hd' tx ty m3 n3 no1 no2 h20 h47 hb ng ax ay bx bz cx cy dx dy ex ey gx gy ix iy jx kx ky lx ly mx my px qx qy ox ux uy vx vy wx wy zx zy sx sy c2 c4 c5 c6
  by_cases hch : (mch x ≤ mch y → CHo f x []) ∧ (¬ mch x ≤ mch y → CHo f y [])
  rotate_left
  · exact go (Or.inl hch)
  rcases hL with hL | ⟨Δ1, Γ0, b, e, ns, ho, rest⟩
  · exact go (Or.inl hL)
  rcases rest with r | r | ⟨C, eb, rs⟩
  · exact go (Or.inr ⟨Δ1, Γ0, b, e, ns, ho, Or.inl r⟩)
  · exact go (Or.inr ⟨Δ1, Γ0, b, e, ns, ho, Or.inr (Or.inl r)⟩)
  rcases rs with r | ⟨lf, g0, g1, h36, h38, b', e', eC, hb1, hb2, hbd⟩
  · exact go (Or.inr ⟨Δ1, Γ0, b, e, ns, ho, Or.inr (Or.inr ⟨C, eb, r⟩)⟩)
  subst eC
  subst eb
  subst e
  by_cases le : mch x ≤ mch y
  · exact pair_ntv x1 x2 he y1 y2 hv hd' (by omega) (Or.inl (nat_10 x1 he tx (hch.1 le) ⟨hb1, hb2⟩ hbd g0 g1 h36 h38 m3 (by omega) h47))
  · exact pair_ntv x1 x2 he y1 y2 hv hd' (by omega) (Or.inr (nat_10 x2 he ty (hch.2 le) ⟨hb1, hb2⟩ hbd g0 g1 h36 h38 n3 (by omega) h47))
theorem pairn_pi (R : RESTI9) : PAIRn := pairn_ph (resth9_of R)
