/-! A LONG SCHEME WITH AN INNER SCHEME, ITS BODY WORTH FIFTEEN: numbers. -/
def ly1 : LmT := [[], [], [], [], [], [], [], [], [], [], [], [], [], [], [], [], [], [], [], [], [], [], [], [], [], [], [], [], [], [], [], [], [], [], [], [], [], [], [], [], [], [(15, 18, 85, 12, 0)], [(15, 18, 91, 11, 0), (15, 18, 61, 12, 0)], [(15, 18, 91, 12, 0)], [(15, 18, 103, 16, 0)], [(15, 18, 121, 18, 0)], [(16, 18, 133, 17, 1), (15, 18, 85, 18, 0)], [(18, 18, 133, 15, 1), (15, 18, 89, 18, 0)], []]
def lyq : LmT := [[], [], [], [], [], [], [], [], [], [], [], [], [], [], [], [], [], [], [], [], [], [], [], [], [], [], [], [], [], [], [], [], [], [], [], [], [], [], [], [], [], [(7, 11, 48, 12, 0)], [(7, 11, 50, 12, 0)], [(7, 11, 57, 12, 0)], [(7, 11, 60, 16, 0)], [(7, 11, 62, 18, 0)], [(8, 14, 75, 18, 1)], [(8, 14, 84, 18, 1)], []]
def by1 : List (List Nat) := [[], [], [], [], [], [], [], [], [], [], [], [], [], [], [], [], [], [], [], [], [], [], [], [], [], [], [], [], [], [], [], [], [], [], [], [], [], [], [], [], [], [0, 74, 68, 265, 265, 315, 315, 469, 564, 564, 734, 734, 0, 0, 0, 0, 0, 0], [0, 68, 62, 256, 256, 306, 298, 445, 546, 546, 699, 0, 0, 0, 0, 0, 0, 0], [0, 62, 52, 271, 271, 313, 305, 475, 576, 568, 0, 0, 0, 0, 0, 0, 0, 0], [0, 52, 50, 343, 343, 377, 377, 615, 712, 0, 0, 0, 0, 0, 0, 0, 0, 0], [0, 50, 50, 391, 391, 425, 427, 697, 0, 0, 0, 0, 0, 0, 0, 0, 0, 0], [0, 50, 42, 405, 405, 439, 439, 0, 0, 0, 0, 0, 0, 0, 0, 0, 0, 0], [0, 42, 34, 403, 403, 429, 0, 0, 0, 0, 0, 0, 0, 0, 0, 0, 0, 0], []]
def byq : List (List Nat) := [[], [], [], [], [], [], [], [], [], [], [], [], [], [], [], [], [], [], [], [], [], [], [], [], [], [], [], [], [], [], [], [], [], [], [], [], [], [], [], [], [], [0, 30, 27, 132, 132, 151, 168, 228, 277, 300, 360, 360, 0, 0, 0, 0, 0, 0], [0, 27, 27, 134, 134, 152, 170, 230, 281, 304, 364, 0, 0, 0, 0, 0, 0, 0], [0, 27, 24, 141, 141, 159, 177, 237, 295, 318, 0, 0, 0, 0, 0, 0, 0, 0], [0, 24, 19, 172, 172, 185, 220, 300, 354, 0, 0, 0, 0, 0, 0, 0, 0, 0], [0, 19, 18, 188, 188, 201, 242, 332, 0, 0, 0, 0, 0, 0, 0, 0, 0, 0], [0, 27, 24, 219, 219, 237, 273, 0, 0, 0, 0, 0, 0, 0, 0, 0, 0, 0], [0, 24, 19, 228, 228, 241, 0, 0, 0, 0, 0, 0, 0, 0, 0, 0, 0, 0], []]
theorem ly1_ok : lhc ly1 by1 pp1 fr1 fx1 1 2 = true := by decide +kernel
theorem lyq_ok : lhc lyq byq ppq frq fxq 0 1 = true := by decide +kernel
theorem ly1_s : lhs by1 830 = true := by decide +kernel
theorem lyq_s : lhs byq 597 = true := by decide +kernel
def lya (L : LmT) (XR W : FrT) (X : List Nat) (va : Nat) : Bool := (List.range 7).all (fun k => (List.range 7).all (fun q1 => (Nat.blt 0 q1 && Nat.blt q1 5) || (List.range 7).all (fun q2 => (Nat.blt 0 q2 && Nat.blt q2 5) || (Nat.blt 6 (q1 + q2) || (Nat.blt 47 (41 + k + q1 + q2) || lhz L XR W X va (32 + k) q1 q2 (zob true q1 q2))))))
theorem ly1_a : lya ly1 xfa1 fg1 fx1 15 = true := by decide +kernel
theorem lyq_a : lya lyq xfaq fgq fxq 7 = true := by decide +kernel
theorem lya_get {L : LmT} {XR W : FrT} {X : List Nat} {va k q1 q2 : Nat} (h : lya L XR W X va = true) (k1 : 32 ≤ k) (h1 : q1 = 0 ∨ 5 ≤ q1) (h2 : q2 = 0 ∨ 5 ≤ q2) (h6 : q1 + q2 ≤ 6) (hc : 9 + k + q1 + q2 ≤ 47) : lhz L XR W X va k q1 q2 (zob true q1 q2) = true := by
  have no : ∀ {q : Nat}, (q = 0 ∨ 5 ≤ q) → (Nat.blt 0 q && Nat.blt q 5) = true → False := by
    intro q h hb
    rw [Bool.and_eq_true] at hb
    rcases h with h | h
    · exact blt_no (by omega) hb.1
    · exact blt_no h hb.2
  unfold lya at h
  have q := rng_all h (i := k - 32) (by omega)
  rw [show 32 + (k - 32) = k by omega] at q
  have q := rng_all q (i := q1) (by omega)
  rw [Bool.or_eq_true] at q
  rcases q with q | q
  · exact (no h1 q).elim
  have q := rng_all q (i := q2) (by omega)
  rw [Bool.or_eq_true, Bool.or_eq_true, Bool.or_eq_true] at q
  rcases q with q | q | q | q
  · exact (no h2 q).elim
  · exact (blt_no h6 q).elim
  · exact (blt_no (by omega) q).elim
  · exact q
section PmWm
variable {f : Nat} {t x y C Dm : Ty} {Γ0 Δ1 : List Ty} {Δ : List (Nat × Ty × Nat)}
/-- a term without a choice -/
theorem wide_v3 (w : TWf f (cxs Δ1 Γ0 (tAll tTop C)).length (Δ.map (fun a => a.1)) t) (he : TE (cxs Δ1 Γ0 (tAll tTop C)) Δ) (cf : CFt f t) (hs : smp f t) (oD : ok (Γ0.length + 1) Dm = true) (vD : ∀ b, vlr b 1 (mz b 1 Γ0 (tAll tTop Dm)) ≤ 15) (vG : gz Γ0 (tAll tTop Dm) ≤ 7) (hp : phf (fun _ => true) C = true) (k32 : 32 ≤ tch C) (h6 : cch Γ0 + cch Δ1 ≤ 6) (hb : cch (cxs Δ1 Γ0 (tAll tTop C)) + dch Δ + mch t ≤ 57) (h5 : cch (cxs Δ1 Γ0 (tAll tTop C)) + mch t + 5 ≤ 57) (h47 : cch (cxs Δ1 Γ0 (tAll tTop C)) ≤ 47) : SmV Dm tTop C Γ0 Δ1 Δ f t (bhg by1 (cch (cxs Δ1 Γ0 (tAll tTop C))) (mch t)) (bhg byq (cch (cxs Δ1 Γ0 (tAll tTop C))) (mch t)) := by
  obtain ⟨co, nq, hg, h17⟩ := hs
  obtain ⟨oc0, oA⟩ := okc_low Δ1 he.1
  have oC := (ok_all.mp oA).2
  have ec : cch (cxs Δ1 Γ0 (tAll tTop C)) = 9 + tch C + cch Γ0 + cch Δ1 := by
    rw [cch_cx, tch_all, tch_top]
    omega
  have a1 := cch_five oc0
  have a2 := cch_fiv he.1
  rw [ec] at hb h5 h47 ⊢
  refine fun S hS => ⟨fun b => ?_, ?_⟩
  · obtain ⟨v, hv, x1, x2⟩ := fk_any1 oC (by omega) hp
    obtain ⟨p, hp, e, he', g1, g2, g3⟩ := sm_ctx (wB := 2) (v := v) (va := 15) (Dm := Dm) (tbs1 b) fg1_ok (by decide) fg1_m (vlr_one b) he.1 oD (vD b) x1 x2 (by rw [nz_top]; exact vlr_one b 0) (Nat.le_refl _) (by omega) (Nat.le_refl _) (by omega)
    obtain ⟨s, hs, k1, k2, k3, k4⟩ := lhz_get (lya_get ly1_a k32 a1 a2 h6 h47) hv hp he'
    have R := lhc_get ly1_ok (by omega) hs h17 (by omega)
    have o := ob_long he.1 (by omega) (by omega) k4
    exact sm_fin2 (NC_rows b 1) (vlr_mono b 1) (vlr_lip b 1) (tbs1 b) px1_ok fr1_m (Nat.le_refl _) (Nat.le_refl _) (vlr_one b) w he cf nq hg h17 o.1 o.2 (by omega) (by omega) (Nat.le_trans g1 k1) (fun j hj => Nat.le_trans (g2 j hj) k1) (fun z => Nat.le_trans (g3 z) (Nat.add_le_add k2 (Nat.mul_le_mul_right _ k3))) R hS
  · obtain ⟨v, hv, x1, x2⟩ := fk_anyq oC (by omega) hp
    obtain ⟨p, hp, e, he', g1, g2, g3⟩ := sm_ctx (wB := 1) (v := v) (va := 7) (Dm := Dm) tbsq fgq_ok (by decide) fgq_m (fun y => by show y ≤ 0 + max 1 y; omega) he.1 oD vG x1 x2 (by rw [nz_top]; exact Nat.le_refl _) (Nat.le_refl _) (by omega) (Nat.le_refl _) (by omega)
    obtain ⟨s, hs, k1, k2, k3, k4⟩ := lhz_get (lya_get lyq_a k32 a1 a2 h6 h47) hv hp he'
    have R := lhc_get lyq_ok (by omega) hs h17 (by omega)
    have o := ob_long he.1 (by omega) (by omega) k4
    exact sm_fin2 NC_goals (fun y y' hy => hy) (fun y δ => Nat.le_refl _) tbsq pxq_ok frq_m (by decide) (by decide) (fun y => by show y ≤ 0 + max 1 y; omega) w he cf nq hg h17 o.1 o.2 (by omega) (by omega) (Nat.le_trans g1 k1) (fun j hj => Nat.le_trans (g2 j hj) k1) (fun z => Nat.le_trans (g3 z) (Nat.add_le_add k2 (Nat.mul_le_mul_right _ k3))) R hS
/-- pairs without a choice, the body worth no more than Dch 3 -/
theorem pair_wide3 (ov : OVq 1 tTop C Dm Γ0) (vD : ∀ b, vlr b 1 (mz b 1 Γ0 (tAll tTop Dm)) ≤ 15) (vG : gz Γ0 (tAll tTop Dm) ≤ 7) (x1 : TWf f (cxs Δ1 Γ0 (tAll tTop C)).length (Δ.map (fun a => a.1)) x) (x2 : TWf f (cxs Δ1 Γ0 (tAll tTop C)).length (Δ.map (fun a => a.1)) y) (he : TE (cxs Δ1 Γ0 (tAll tTop C)) Δ) (y1 : NAt f x) (y2 : NAt f y) (hv : noac (cxs Δ1 Γ0 (tAll tTop C))) (hd' : ∀ a ∈ Δ, noal a.2.1 = true) (c1 : CFt f x) (c2 : CFt f y) (s1 : smp f x) (s2 : smp f y) (hp : phf (fun _ => true) C = true) (k32 : 32 ≤ tch C) (h6 : cch Γ0 + cch Δ1 ≤ 6) (h5 : 5 ≤ dch Δ) (hb : cch (cxs Δ1 Γ0 (tAll tTop C)) + dch Δ + (2 + (mch x + mch y)) ≤ 60) (h47 : cch (cxs Δ1 Γ0 (tAll tTop C)) ≤ 47) : PRn f x y (cxs Δ1 Γ0 (tAll tTop C)) Δ := by
  have m1 := short_c x1
  have m2 := short_c x2
  have z1 := wide_v3 x1 he c1 s1 ov.1.1 vD vG hp k32 h6 (by omega) (by omega) h47
  have z2 := wide_v3 x2 he c2 s2 ov.1.1 vD vG hp k32 h6 (by omega) (by omega) h47
  exact pair_sumv ov x1 x2 he y1 y2 hv hd' (by omega) z1 z2 (lhs_get ly1_s (by omega) s1.2.2.2 s2.2.2.2 m1 m2 (by omega)) (lhs_get lyq_s (by omega) s1.2.2.2 s2.2.2.2 m1 m2 (by omega))
theorem pair_hkv3 (H : HKv 0 6 6 tTop C Γ0) (x1 : TWf f (cxs Δ1 Γ0 (tAll tTop C)).length (Δ.map (fun a => a.1)) x) (x2 : TWf f (cxs Δ1 Γ0 (tAll tTop C)).length (Δ.map (fun a => a.1)) y) (he : TE (cxs Δ1 Γ0 (tAll tTop C)) Δ) (y1 : NAt f x) (y2 : NAt f y) (hv : noac (cxs Δ1 Γ0 (tAll tTop C))) (hd' : ∀ a ∈ Δ, noal a.2.1 = true) (c1 : CFt f x) (c2 : CFt f y) (s1 : smp f x) (s2 : smp f y) (hp : phf (fun _ => true) C = true) (k32 : 32 ≤ tch C) (h6 : cch Γ0 + cch Δ1 ≤ 6) (h5 : 5 ≤ dch Δ) (hb : cch (cxs Δ1 Γ0 (tAll tTop C)) + dch Δ + (2 + (mch x + mch y)) ≤ 60) (h47 : cch (cxs Δ1 Γ0 (tAll tTop C)) ≤ 47) : PRn f x y (cxs Δ1 Γ0 (tAll tTop C)) Δ :=
  pair_wide3 (Dm := Dch 3) (H.ov (Dch_num (n := 3) (by decide) (by decide) (by decide) (by decide))) (fun b => Dch_va (n := 3) b) (Dch_vg (n := 3)) x1 x2 he y1 y2 hv hd' c1 c2 s1 s2 hp k32 h6 h5 hb h47
end PmWm
