/-! THE BOUND [], functions and records (RESTY9). -/
theorem bnd_0 {β : Ty} : ∀ (Δ1 : List Ty), bnd (cxs Δ1 [] β) 0 = β
  | [] => rfl
  | a :: Δ1 => by
    show (if 0 = (cxs Δ1 [] β).length then a else bnd (cxs Δ1 [] β) 0) = β
    rw [if_neg (by rw [cxs_len]; simp)]
    exact bnd_0 Δ1
def oK9 : List ((Nat × Nat × Nat) × ((Nat × Nat × Nat) × (Nat × Nat × Nat)) × ((Nat × Nat × Nat) × (Nat × Nat × Nat))) := [((28, 0, 7), ((52, 46, 7), (20, 19, 7)), ((46, 37, 6), (28, 27, 6))), ((29, 0, 7), ((52, 47, 7), (26, 25, 7)), ((49, 45, 6), (31, 30, 6))), ((24, 9, 3), ((79, 32, 5), (33, 15, 5)), ((69, 27, 4), (37, 17, 4))), ((24, 9, 4), ((79, 32, 5), (33, 15, 5)), ((69, 27, 4), (37, 17, 4))), ((24, 9, 5), ((79, 32, 5), (33, 15, 5)), ((69, 27, 4), (37, 17, 4))), ((24, 13, 3), ((119, 32, 5), (50, 15, 5)), ((104, 27, 4), (56, 17, 4))), ((28, 9, 3), ((107, 46, 7), (41, 19, 7)), ((95, 37, 6), (57, 27, 6))), ((32, 5, 3), ((68, 61, 10), (33, 31, 10)), ((62, 55, 9), (41, 39, 9)))]
def okt9 (V F W : FrT) (hv fn s2 r0 r1 r2 r3 wB Bd ob k q2 cd m : Nat) (s : Nat × Nat × Nat) : Bool :=
  (frg V k).all (fun v => (List.range (v.1 + 1)).all (fun p => (frg W q2).all (fun u => Nat.ble (u.2 + u.1 * max 1 (hv + (s2 + (v.2 + (v.1 - p) * 1 + p * wB)))) s.1 && (Nat.ble (v.2 + (v.1 - p) * 1) s.2.1 && Nat.ble p s.2.2)))) &&
  (Nat.ble wB s.1 && Nat.ble (dp5o F W 0 hv fn s2 r0 r1 r2 r3 s.2.1 s.2.2 wB ob k s.1 cd m) Bd)
def okK9 (a : (Nat × Nat × Nat) × ((Nat × Nat × Nat) × (Nat × Nat × Nat)) × ((Nat × Nat × Nat) × (Nat × Nat × Nat))) : Bool :=
  (okt9 qhF1 fr1 fg1 1 2 3 2 2 2 2 3 887 (lmx fr1 (a.1.2.1 - 4)) a.1.1 a.1.2.1 (58 - 2 * a.1.2.2 - (10 + a.1.1 + a.1.2.1)) a.1.2.2 a.2.1.1 && okt9 qhFq frq fgq 0 1 1 1 3 2 1 1 597 (lmx fr1 (a.1.2.1 - 4)) a.1.1 a.1.2.1 (58 - 2 * a.1.2.2 - (10 + a.1.1 + a.1.2.1)) a.1.2.2 a.2.1.2) &&
  (okt9 qhR1 fr1 fg1 1 2 3 2 2 2 2 3 887 (lmx fr1 (a.1.2.1 - 4)) a.1.1 a.1.2.1 (58 - 2 * a.1.2.2 - (10 + a.1.1 + a.1.2.1)) a.1.2.2 a.2.2.1 && okt9 qhRq frq fgq 0 1 1 1 3 2 1 1 597 (lmx fr1 (a.1.2.1 - 4)) a.1.1 a.1.2.1 (58 - 2 * a.1.2.2 - (10 + a.1.1 + a.1.2.1)) a.1.2.2 a.2.2.2)
theorem oK9_ok : oK9.all okK9 = true := by decide +kernel
def has3 (k q2 m : Nat) : Bool := oK9.any (fun a => Nat.beq k a.1.1 && (Nat.beq q2 a.1.2.1 && Nat.beq m a.1.2.2))
theorem has3_get {k q2 m : Nat} (h : has3 k q2 m = true) : ∃ r, okK9 ((k, q2, m), r) = true := by
  obtain ⟨a, ha, q⟩ := List.any_eq_true.mp h
  have z := List.all_eq_true.mp oK9_ok a ha
  rw [Bool.and_eq_true, Bool.and_eq_true] at q
  have e1 := Nat.eq_of_beq_eq_true q.1
  have e2 := Nat.eq_of_beq_eq_true q.2.1
  have e3 := Nat.eq_of_beq_eq_true q.2.2
  subst e1; subst e2; subst e3
  exact ⟨a.2, z⟩
theorem okt9_get {V F W : FrT} {hv fn s2 r0 r1 r2 r3 wB Bd ob k q2 cd m : Nat} {s : Nat × Nat × Nat} (h : okt9 V F W hv fn s2 r0 r1 r2 r3 wB Bd ob k q2 cd m s = true) : (∀ v ∈ frg V k, ∀ p, p ≤ v.1 → ∀ u ∈ frg W q2, u.2 + u.1 * max 1 (hv + (s2 + (v.2 + (v.1 - p) * 1 + p * wB))) ≤ s.1 ∧ v.2 + (v.1 - p) * 1 ≤ s.2.1 ∧ p ≤ s.2.2) ∧ wB ≤ s.1 ∧ dp5o F W 0 hv fn s2 r0 r1 r2 r3 s.2.1 s.2.2 wB ob k s.1 cd m ≤ Bd := by
  unfold okt9 at h
  rw [Bool.and_eq_true, Bool.and_eq_true] at h
  refine ⟨fun v hv p hp u hu => ?_, Nat.le_of_ble_eq_true h.2.1, Nat.le_of_ble_eq_true h.2.2⟩
  have q := List.all_eq_true.mp (rng_all (List.all_eq_true.mp h.1 v hv) (i := p) (by omega)) u hu
  rw [Bool.and_eq_true, Bool.and_eq_true] at q
  exact ⟨Nat.le_of_ble_eq_true q.1, Nat.le_of_ble_eq_true q.2.1, Nat.le_of_ble_eq_true q.2.2⟩
section PmZr
variable {f : Nat} {t C : Ty} {Δ1 : List Ty} {Δ : List (Nat × Ty × Nat)} {VR VG : FrT} {r g : Nat × Nat × Nat}
theorem nat_q9 (hC : hd C ≠ 2 ∧ hd C < 16) (fR : ∃ v ∈ frg VR (tch C), xt (([] : List Ty).length + 1) C ≤ v.1 ∧ xa 0 (fun _ => 1 + 1) 3 1 (([] : List Ty).length + 1) C ≤ v.2) (fG : ∃ v ∈ frg VG (tch C), xt (([] : List Ty).length + 1) C ≤ v.1 ∧ xa 1 ngc 1 0 (([] : List Ty).length + 1) C ≤ v.2) (w : TWf f (cxs Δ1 [] (tAll tR0 C)).length (Δ.map (fun a => a.1)) t) (he : TE (cxs Δ1 [] (tAll tR0 C)) Δ) (nD : Δ ≠ []) (hΔ1 : Δ.length ≤ 1) (tn : TNo f t) (ch : CHo f t []) (k40 : tch C ≤ 40) (okR : okt9 VR fr1 fg1 1 2 3 2 2 2 2 3 887 (lmx fr1 (cch Δ1 - 4)) (tch C) (cch Δ1) (58 - 2 * mch t - (10 + tch C + cch Δ1)) (mch t) r = true) (okG : okt9 VG frq fgq 0 1 1 1 3 2 1 1 597 (lmx fr1 (cch Δ1 - 4)) (tch C) (cch Δ1) (58 - 2 * mch t - (10 + tch C + cch Δ1)) (mch t) g = true) (m30 : mch t ≤ 30) (q38 : cch Δ1 ≤ 38) (hb : 10 + tch C + cch Δ1 + dch Δ + 2 * mch t ≤ 58) : NtV (cxs Δ1 [] (tAll tR0 C)) Δ f t 887 597 := by
  obtain ⟨gR, z3, n5R⟩ := okt9_get okR
  obtain ⟨gG, z1, n5G⟩ := okt9_get okG
  have e1 : max 1 (fx1.getD 0 0) = 1 := by decide
  have eq : max 1 (fxq.getD 0 0) = 1 := by decide
  have bR : ∀ b, vlr b 1 (nz 0 (fun _ => 1 + 1) (2 + 1) (vlr b 1) (onz 0 (fun _ => 1 + 1) (2 + 1) (vlr b 1) []) tR0) ≤ 3 := by
    intro b
    cases b <;> decide
  have bG : nz 1 ngc 1 (fun x => x) (onz 1 ngc 1 (fun x => x) []) tR0 ≤ 1 := by decide
  have hb1 : ∀ b ∈ Δ1, nsch b = true ∨ flv b ≤ lmx fr1 (cch Δ1 - 4) := fun b hb' => by
    obtain ⟨d, o1, -⟩ := okc_top Δ1 he.1 b hb'
    have := mem_cch hb'
    exact Or.inr (flv_lmx o1 (by omega) (by omega))
  refine zone_g7o (e := false) (cd := 58 - 2 * mch t - (10 + tch C + cch Δ1)) (ob := lmx fr1 (cch Δ1 - 4)) (wR := 3) (wG := 1) (yR := max 1 (fx1.getD 0 0)) (yG := max 1 (fxq.getD 0 0)) (VR := frg VR (tch C)) (VG := frg VG (tch C)) (WR := frg fg1 (cch Δ1)) (WG := frg fgq (cch Δ1)) w he (Or.inr ⟨rfl, nD⟩) tn hΔ1 hC ch m30 (by omega) (by omega) (fun b hb => by cases hb) hb1 bR bG fR fG (fun b v x1 x2 => nat_ctxg (wB := 3) (v := v) (tbs1 b) (vlr_one b) (by decide) he.1 x1 x2 (bR b) (Nat.le_refl _) (by decide) (gr_R he.1 (by omega) b)) (fun v x1 x2 => nat_ctxg (wB := 1) (v := v) tbsq (fun y => by show y ≤ 0 + max 1 y; omega) (by decide) he.1 x1 x2 bG (Nat.le_refl _) (by decide) (gr_G he.1 (by omega))) ?_ ?_
  · intro v hv p hp' e he'
    rw [e1]
    obtain ⟨s1, s2, s3⟩ := gR v hv p hp' e he'
    exact ⟨(r.1, 0, r.2.1, r.2.2, lmx fr1 (cch Δ1 - 4), tch C), ⟨s1, s2, s3, Nat.le_refl _, Nat.le_refl _⟩, ⟨by show tch C ≤ 50; omega, z3⟩, fun _ _ => n5R, fun e => by cases e⟩
  · intro v hv p hp' e he'
    rw [eq]
    obtain ⟨s1, s2, s3⟩ := gG v hv p hp' e he'
    exact ⟨(g.1, 0, g.2.1, g.2.2, lmx fr1 (cch Δ1 - 4), tch C), ⟨s1, s2, s3, Nat.le_refl _, Nat.le_refl _⟩, ⟨by show tch C ≤ 50; omega, z1⟩, fun _ _ => n5G, fun e => by cases e⟩
end PmZr
/-- functions and records whose body may not be replaced -/
theorem q9_pair {f : Nat} {x y t : Ty} {Γ : List Ty} {Δ : List (Nat × Ty × Nat)} {Δ1 : List Ty} {C : Ty} (H : H9 f x y Γ Δ) (sh : Sh9 x y t) (ch : CHo f t []) (eΓ : Γ = cxs Δ1 [] (tAll tR0 C)) (k40 : tch C ≤ 40) (k24 : 24 ≤ tch C) (h2 : hd C ≠ 2) (nov : ¬ OVq 1 tR0 C Dsm []) (nD : Δ ≠ []) (h : has3 (tch C) (cch Δ1) (mch (pee f t).2) = true) (d9 : dch Δ ≤ 9) (m30 : mch (pee f t).2 ≤ 30) (q38 : cch Δ1 ≤ 38) : PRn f x y Γ Δ := by
  obtain ⟨⟨wt, nt, tt, m3', m3, n9⟩, pm, hbt⟩ := h9_t H sh
  have H' := H
  obtain ⟨-, -, ⟨he, hv, hd', h20, h47, -⟩, -⟩ := H'
  obtain ⟨⟨w', -⟩, -, tn, -, -⟩ := pee_ok f _ _ t wt
  obtain ⟨a, ea⟩ := dch_one he nD d9
  have hc := he.1
  rw [eΓ] at hc
  obtain ⟨-, oA⟩ := okc_low Δ1 hc
  have oC : ok 1 C = true := (ok_all.mp oA).2
  have na : noal C = true := by
    have q := hv 0 (by rw [eΓ, cxs_len]; simp)
    have e0 : bnd Γ 0 = tAll tR0 C := by rw [eΓ]; exact bnd_0 Δ1
    rw [e0, noal_all, Bool.and_eq_true, Bool.and_eq_true] at q
    exact q.1.2.2
  have hC : (hd C ≠ 0 ∧ hd C < 16) ∧ hd C ≠ 8 ∧ (kdt C = 1 ∨ kdt C = 4) := by
    rcases ok_cases oC with rfl | ⟨j, hj, rfl⟩ | ⟨u, v, rfl, hu, hv'⟩ | ⟨u, v, rfl, hu, hv'⟩ | ⟨m, u, v, z, hm, rfl, o0, o1, o2⟩
    · exact absurd k24 (by decide)
    · exact absurd k24 (by show ¬ 24 ≤ 1; omega)
    · refine ⟨by rw [hd_fun]; decide, by rw [hd_fun]; decide, Or.inl ?_⟩
      unfold kdt
      rw [hd_fun, if_pos rfl]
    · exact absurd (hd_all _ _) h2
    · have m0 : m ≠ 0 := by
        intro m0
        subst m0
        have u0 : u = .nil := o0
        have v0 : v = .nil := o1
        have w0 : z = .nil := o2
        rw [u0, v0, w0] at k24
        exact absurd k24 (by decide)
      refine ⟨by rw [hd_rec]; omega, by rw [hd_rec]; omega, Or.inr ?_⟩
      unfold kdt
      rw [hd_rec, if_neg (by omega), if_neg (by omega), if_pos (by omega)]
  have fl := own_r0 hC.2.2 hC.2.1 oC na hC.1 nov
  obtain ⟨r, hk⟩ := has3_get h
  unfold okK9 at hk
  rw [Bool.and_eq_true, Bool.and_eq_true, Bool.and_eq_true] at hk
  have ec : cch Γ = 10 + tch C + cch Δ1 := by
    have q := cch_cx (Γ0 := []) (β := tAll tR0 C) Δ1
    have q2 := tch_all tR0 C
    have q3 : cch ([] : List Ty) = 0 := rfl
    have q4 : tch tR0 = 2 := rfl
    rw [eΓ]
    omega
  have hbp : 10 + tch C + cch Δ1 + dch Δ + 2 * mch (pee f t).2 ≤ 58 := by omega
  refine h9_ntv H sh (NtV_pee f t wt he ?_)
  subst eΓ
  have one : Δ.length ≤ 1 := by rw [ea]; exact Nat.le_refl _
  rcases hC.2.2 with k1 | k4
  · exact nat_q9 ⟨h2, hC.1.2⟩ (qh_f1 oC k40 k1 fl) (qh_fq oC k40 k1 fl) w' he nD one (tn tt) (pee_cho f t [] ch) k40 hk.1.1 hk.1.2 m30 q38 hbp
  · exact nat_q9 ⟨h2, hC.1.2⟩ (qh_r1 oC k40 k4 fl) (qh_rq oC k40 k4 fl) w' he nD one (tn tt) (pee_cho f t [] ch) k40 hk.2.1 hk.2.2 m30 q38 hbp
