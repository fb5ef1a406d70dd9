/-! A LONG SCHEME WITH AN INNER SCHEME, ITS BODY WORTH TWELVE: numbers. -/
def lw1 : LmT := [[], [], [], [], [], [], [], [], [], [], [], [], [], [], [], [], [], [], [], [], [], [], [], [], [], [], [], [], [], [], [], [], [], [], [], [], [(12, 15, 49, 9, 0)], [(12, 15, 61, 9, 0)], [(12, 15, 61, 9, 0)], [(12, 15, 61, 9, 0)], [(12, 15, 73, 12, 0)], [(13, 15, 85, 12, 1)], [(15, 18, 91, 11, 1), (12, 15, 61, 12, 0)], [(15, 18, 91, 12, 1)], [(15, 18, 103, 16, 1)], [(15, 18, 121, 18, 1)], [(15, 18, 133, 18, 1)], [(15, 18, 133, 18, 1)], []]
def lwq : LmT := [[], [], [], [], [], [], [], [], [], [], [], [], [], [], [], [], [], [], [], [], [], [], [], [], [], [], [], [], [], [], [], [], [], [], [], [], [(6, 11, 30, 9, 0)], [(6, 11, 36, 9, 0)], [(6, 11, 36, 9, 0)], [(6, 11, 38, 9, 0)], [(6, 11, 45, 12, 0)], [(7, 11, 48, 12, 1)], [(7, 11, 50, 12, 1)], [(7, 11, 57, 12, 1)], [(7, 11, 60, 16, 1)], [(7, 11, 62, 18, 1)], [(7, 11, 75, 18, 1)], [(7, 11, 84, 18, 1)], []]
def bw1 : List (List Nat) := [[], [], [], [], [], [], [], [], [], [], [], [], [], [], [], [], [], [], [], [], [], [], [], [], [], [], [], [], [], [], [], [], [], [], [], [], [0, 86, 77, 157, 157, 219, 209, 283, 364, 356, 440, 440, 474, 597, 597, 620, 619, 0], [0, 77, 74, 169, 169, 221, 219, 295, 380, 372, 464, 464, 490, 633, 633, 655, 0, 0], [0, 74, 68, 169, 169, 219, 219, 295, 372, 372, 464, 464, 490, 633, 633, 0, 0, 0], [0, 68, 62, 169, 169, 219, 211, 295, 372, 372, 464, 464, 487, 633, 0, 0, 0, 0], [0, 62, 52, 217, 217, 259, 251, 385, 468, 460, 602, 602, 624, 0, 0, 0, 0, 0], [0, 52, 50, 241, 241, 275, 275, 421, 508, 508, 662, 662, 0, 0, 0, 0, 0, 0], [0, 68, 62, 256, 256, 306, 298, 443, 546, 546, 699, 0, 0, 0, 0, 0, 0, 0], [0, 62, 52, 271, 271, 313, 305, 475, 576, 568, 0, 0, 0, 0, 0, 0, 0, 0], [0, 52, 50, 343, 343, 377, 377, 615, 712, 0, 0, 0, 0, 0, 0, 0, 0, 0], [0, 50, 50, 391, 391, 425, 427, 697, 0, 0, 0, 0, 0, 0, 0, 0, 0, 0], [0, 50, 42, 403, 403, 437, 439, 0, 0, 0, 0, 0, 0, 0, 0, 0, 0, 0], [0, 42, 34, 403, 403, 429, 0, 0, 0, 0, 0, 0, 0, 0, 0, 0, 0, 0], []]
def bwq : List (List Nat) := [[], [], [], [], [], [], [], [], [], [], [], [], [], [], [], [], [], [], [], [], [], [], [], [], [], [], [], [], [], [], [], [], [], [], [], [], [0, 48, 45, 84, 84, 120, 114, 147, 195, 195, 231, 231, 249, 315, 315, 328, 342, 0], [0, 45, 38, 90, 90, 120, 117, 153, 204, 207, 243, 243, 256, 333, 333, 343, 0, 0], [0, 38, 36, 90, 90, 117, 117, 153, 199, 207, 243, 243, 256, 333, 333, 0, 0, 0], [0, 36, 36, 92, 92, 119, 119, 155, 202, 211, 247, 247, 260, 339, 0, 0, 0, 0], [0, 36, 30, 117, 117, 141, 153, 201, 252, 270, 318, 318, 330, 0, 0, 0, 0, 0], [0, 30, 27, 132, 132, 151, 168, 228, 277, 300, 360, 360, 0, 0, 0, 0, 0, 0], [0, 27, 27, 134, 134, 152, 170, 230, 281, 304, 364, 0, 0, 0, 0, 0, 0, 0], [0, 27, 24, 141, 141, 159, 177, 237, 295, 318, 0, 0, 0, 0, 0, 0, 0, 0], [0, 24, 19, 172, 172, 185, 220, 300, 354, 0, 0, 0, 0, 0, 0, 0, 0, 0], [0, 19, 18, 188, 188, 201, 242, 332, 0, 0, 0, 0, 0, 0, 0, 0, 0, 0], [0, 18, 18, 201, 201, 214, 255, 0, 0, 0, 0, 0, 0, 0, 0, 0, 0, 0], [0, 18, 13, 210, 210, 220, 0, 0, 0, 0, 0, 0, 0, 0, 0, 0, 0, 0], []]
theorem lw1_ok : lhc lw1 bw1 pp1 fr1 fx1 1 2 = true := by decide +kernel
theorem lwq_ok : lhc lwq bwq ppq frq fxq 0 1 = true := by decide +kernel
theorem lw1_s : lhs bw1 887 = true := by decide +kernel
theorem lwq_s : lhs bwq 597 = true := by decide +kernel
def lwa (L : LmT) (XR W : FrT) (X : List Nat) (va : Nat) : Bool := (List.range 12).all (fun k => (List.range 7).all (fun q1 => (Nat.blt 0 q1 && Nat.blt q1 5) || (List.range 7).all (fun q2 => (Nat.blt 0 q2 && Nat.blt q2 5) || (Nat.blt 6 (q1 + q2) || (Nat.blt 47 (36 + k + q1 + q2) || lhz L XR W X va (27 + k) q1 q2 (zob true q1 q2))))))
theorem lw1_a : lwa lw1 xfa1 fg1 fx1 12 = true := by decide +kernel
theorem lwq_a : lwa lwq xfaq fgq fxq 6 = true := by decide +kernel
theorem lwa_get {L : LmT} {XR W : FrT} {X : List Nat} {va k q1 q2 : Nat} (h : lwa L XR W X va = true) (k1 : 27 ≤ k) (h1 : q1 = 0 ∨ 5 ≤ q1) (h2 : q2 = 0 ∨ 5 ≤ q2) (h6 : q1 + q2 ≤ 6) (hc : 9 + k + q1 + q2 ≤ 47) : lhz L XR W X va k q1 q2 (zob true q1 q2) = true := by
  have no : ∀ {q : Nat}, (q = 0 ∨ 5 ≤ q) → (Nat.blt 0 q && Nat.blt q 5) = true → False := by
    intro q h hb
    rw [Bool.and_eq_true] at hb
    rcases h with h | h
    · exact blt_no (by omega) hb.1
    · exact blt_no h hb.2
  unfold lwa at h
  have q := rng_all h (i := k - 27) (by omega)
  rw [show 27 + (k - 27) = k by omega] at q
  have q := rng_all q (i := q1) (by omega)
  rw [Bool.or_eq_true] at q
  rcases q with q | q
  · exact (no h1 q).elim
  have q := rng_all q (i := q2) (by omega)
  rw [Bool.or_eq_true, Bool.or_eq_true, Bool.or_eq_true] at q
  rcases q with q | q | q | q
  · exact (no h2 q).elim
  · exact (blt_no h6 q).elim
  · exact (blt_no (by omega) q).elim
  · exact q
section PmWk
variable {f : Nat} {t x y C Dm : Ty} {Γ0 Δ1 : List Ty} {Δ : List (Nat × Ty × Nat)}
/-- a term without a choice -/
theorem wide_v (w : TWf f (cxs Δ1 Γ0 (tAll tTop C)).length (Δ.map (fun a => a.1)) t) (he : TE (cxs Δ1 Γ0 (tAll tTop C)) Δ) (cf : CFt f t) (hs : smp f t) (oD : ok (Γ0.length + 1) Dm = true) (vD : ∀ b, vlr b 1 (mz b 1 Γ0 (tAll tTop Dm)) ≤ 12) (vG : gz Γ0 (tAll tTop Dm) ≤ 6) (hp : phf (fun _ => true) C = true) (k27 : 27 ≤ tch C) (h6 : cch Γ0 + cch Δ1 ≤ 6) (hb : cch (cxs Δ1 Γ0 (tAll tTop C)) + dch Δ + mch t ≤ 57) (h5 : cch (cxs Δ1 Γ0 (tAll tTop C)) + mch t + 5 ≤ 57) (h47 : cch (cxs Δ1 Γ0 (tAll tTop C)) ≤ 47) : SmV Dm tTop C Γ0 Δ1 Δ f t (bhg bw1 (cch (cxs Δ1 Γ0 (tAll tTop C))) (mch t)) (bhg bwq (cch (cxs Δ1 Γ0 (tAll tTop C))) (mch t)) := by
  obtain ⟨co, nq, hg, h17⟩ := hs
  obtain ⟨oc0, oA⟩ := okc_low Δ1 he.1
  have oC := (ok_all.mp oA).2
  have ec : cch (cxs Δ1 Γ0 (tAll tTop C)) = 9 + tch C + cch Γ0 + cch Δ1 := by
    rw [cch_cx, tch_all, tch_top]
    omega
  have a1 := cch_five oc0
  have a2 := cch_fiv he.1
  rw [ec] at hb h5 h47 ⊢
  refine fun S hS => ⟨fun b => ?_, ?_⟩
  · obtain ⟨v, hv, x1, x2⟩ := fk_any1 oC (by omega) hp
    obtain ⟨p, hp, e, he', g1, g2, g3⟩ := sm_ctx (wB := 2) (v := v) (va := 12) (Dm := Dm) (tbs1 b) fg1_ok (by decide) fg1_m (vlr_one b) he.1 oD (vD b) x1 x2 (by rw [nz_top]; exact vlr_one b 0) (Nat.le_refl _) (by omega) (Nat.le_refl _) (by omega)
    obtain ⟨s, hs, k1, k2, k3, k4⟩ := lhz_get (lwa_get lw1_a k27 a1 a2 h6 h47) hv hp he'
    have R := lhc_get lw1_ok (by omega) hs h17 (by omega)
    have o := ob_long he.1 (by omega) (by omega) k4
    exact sm_fin2 (NC_rows b 1) (vlr_mono b 1) (vlr_lip b 1) (tbs1 b) px1_ok fr1_m (Nat.le_refl _) (Nat.le_refl _) (vlr_one b) w he cf nq hg h17 o.1 o.2 (by omega) (by omega) (Nat.le_trans g1 k1) (fun j hj => Nat.le_trans (g2 j hj) k1) (fun z => Nat.le_trans (g3 z) (Nat.add_le_add k2 (Nat.mul_le_mul_right _ k3))) R hS
  · obtain ⟨v, hv, x1, x2⟩ := fk_anyq oC (by omega) hp
    obtain ⟨p, hp, e, he', g1, g2, g3⟩ := sm_ctx (wB := 1) (v := v) (va := 6) (Dm := Dm) tbsq fgq_ok (by decide) fgq_m (fun y => by show y ≤ 0 + max 1 y; omega) he.1 oD vG x1 x2 (by rw [nz_top]; exact Nat.le_refl _) (Nat.le_refl _) (by omega) (Nat.le_refl _) (by omega)
    obtain ⟨s, hs, k1, k2, k3, k4⟩ := lhz_get (lwa_get lwq_a k27 a1 a2 h6 h47) hv hp he'
    have R := lhc_get lwq_ok (by omega) hs h17 (by omega)
    have o := ob_long he.1 (by omega) (by omega) k4
    exact sm_fin2 NC_goals (fun y y' hy => hy) (fun y δ => Nat.le_refl _) tbsq pxq_ok frq_m (by decide) (by decide) (fun y => by show y ≤ 0 + max 1 y; omega) w he cf nq hg h17 o.1 o.2 (by omega) (by omega) (Nat.le_trans g1 k1) (fun j hj => Nat.le_trans (g2 j hj) k1) (fun z => Nat.le_trans (g3 z) (Nat.add_le_add k2 (Nat.mul_le_mul_right _ k3))) R hS
/-- pairs without a choice, the body worth no more than Dch 2 -/
theorem pair_wide (ov : OVq 1 tTop C Dm Γ0) (vD : ∀ b, vlr b 1 (mz b 1 Γ0 (tAll tTop Dm)) ≤ 12) (vG : gz Γ0 (tAll tTop Dm) ≤ 6) (x1 : TWf f (cxs Δ1 Γ0 (tAll tTop C)).length (Δ.map (fun a => a.1)) x) (x2 : TWf f (cxs Δ1 Γ0 (tAll tTop C)).length (Δ.map (fun a => a.1)) y) (he : TE (cxs Δ1 Γ0 (tAll tTop C)) Δ) (y1 : NAt f x) (y2 : NAt f y) (hv : noac (cxs Δ1 Γ0 (tAll tTop C))) (hd' : ∀ a ∈ Δ, noal a.2.1 = true) (c1 : CFt f x) (c2 : CFt f y) (s1 : smp f x) (s2 : smp f y) (hp : phf (fun _ => true) C = true) (k27 : 27 ≤ tch C) (h6 : cch Γ0 + cch Δ1 ≤ 6) (h5 : 5 ≤ dch Δ) (hb : cch (cxs Δ1 Γ0 (tAll tTop C)) + dch Δ + (2 + (mch x + mch y)) ≤ 60) (h47 : cch (cxs Δ1 Γ0 (tAll tTop C)) ≤ 47) : PRn f x y (cxs Δ1 Γ0 (tAll tTop C)) Δ := by
  have m1 := short_c x1
  have m2 := short_c x2
  have z1 := wide_v x1 he c1 s1 ov.1.1 vD vG hp k27 h6 (by omega) (by omega) h47
  have z2 := wide_v x2 he c2 s2 ov.1.1 vD vG hp k27 h6 (by omega) (by omega) h47
  exact pair_sumv ov x1 x2 he y1 y2 hv hd' (by omega) z1 z2 (lhs_get lw1_s (by omega) s1.2.2.2 s2.2.2.2 m1 m2 (by omega)) (lhs_get lwq_s (by omega) s1.2.2.2 s2.2.2.2 m1 m2 (by omega))
end PmWk
