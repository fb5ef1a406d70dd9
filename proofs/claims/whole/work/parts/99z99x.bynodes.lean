/-! OVq WITHOUT ndk: one term by characters, the other one by nodes; RESTO9. -/
theorem cf_pee : ∀ (f : Nat) (t : Ty), CFt (pee f t).1 (pee f t).2 → CFt f t
  | 0, _, _ => trivial
  | f + 1, t, h => by
    unfold pee at h
    by_cases c : nKd t = 7 ∨ nKd t = 11
    · rw [if_pos c] at h
      refine ⟨fun k => absurd k (by omega), fun _ => ?_, fun k => absurd k (by omega), by omega⟩
      exact cf_pee f (nX t) h
    · rw [if_neg c] at h
      exact h
def n16 (F : FrT) (x : Nat) : Nat := (List.range 17).foldr (fun n a => (frg F n).foldr (fun p b => max (p.2 + p.1 * x) b) a) 0
def yMx (W : FrT) (y1 va wB q2 : Nat) : Nat := (frg W q2).foldr (fun u a => max (max (u.2 + u.1 * max y1 va) wB) a) 1
def rxR (y1 wB ob k q2 m cd : Nat) : Bool := Nat.ble (n16 fn1 (yMx fg1 y1 7 wB q2)) 887 && (fnv fn1 (yMx fg1 y1 7 wB q2) (n16 fn1 (yMx fg1 y1 7 wB q2)) && (frg xr1 k).all (fun v => (List.range (v.1 + 1)).all (fun p => (frg fg1 q2).all (fun u => Nat.ble (dpD false fr1 fg1 0 1 2 3 2 2 2 2 (v.2 + (v.1 - p) * y1) p (max (u.2 + u.1 * max y1 7) wB) ob k (max (u.2 + u.1 * max y1 7) wB) cd m) (887 - n16 fn1 (yMx fg1 y1 7 wB q2))))))
def rxG (y1 wB ob k q2 m cd : Nat) : Bool := Nat.ble (n16 fnq (yMx fgq y1 3 wB q2)) 597 && (fnv fnq (yMx fgq y1 3 wB q2) (n16 fnq (yMx fgq y1 3 wB q2)) && (frg xrq k).all (fun v => (List.range (v.1 + 1)).all (fun p => (frg fgq q2).all (fun u => Nat.ble (dpD false frq fgq 0 0 1 1 1 3 2 1 (v.2 + (v.1 - p) * y1) p (max (u.2 + u.1 * max y1 3) wB) ob k (max (u.2 + u.1 * max y1 3) wB) cd m) (597 - n16 fnq (yMx fgq y1 3 wB q2))))))
def rx9 (be k q1 q2 m n : Nat) : Bool := (Nat.ble (8 + be + k + q1 + q2 + m + n) 53 && Nat.ble m 15) && (rxR (max 1 (fx1.getD q1 0)) (wbz fr1 1 (max 1 (fx1.getD q1 0)) be) (max (obz q1) (obz q2)) k q2 m (58 - (8 + be + k + q1 + q2) - m - n) && rxG (max 1 (fxq.getD q1 0)) (wbz frq 0 (max 1 (fxq.getD q1 0)) be) (max (obz q1) (obz q2)) k q2 m (58 - (8 + be + k + q1 + q2) - m - n))
theorem yMx_mem {W : FrT} {y1 va wB q2 : Nat} {u : Nat × Nat} (h : u ∈ frg W q2) : max (u.2 + u.1 * max y1 va) wB ≤ yMx W y1 va wB q2 := by
  have key : ∀ (l : List (Nat × Nat)), u ∈ l → max (u.2 + u.1 * max y1 va) wB ≤ l.foldr (fun u a => max (max (u.2 + u.1 * max y1 va) wB) a) 1 := by
    intro l
    induction l with
    | nil => intro h; cases h
    | cons a l ih =>
      intro h
      rw [List.foldr_cons]
      rcases List.mem_cons.mp h with rfl | h
      · exact Nat.le_max_left _ _
      · exact Nat.le_trans (ih h) (Nat.le_max_right _ _)
  exact key _ h
theorem yMx_one (W : FrT) (y1 va wB q2 : Nat) : 1 ≤ yMx W y1 va wB q2 := by
  have key : ∀ (l : List (Nat × Nat)), 1 ≤ l.foldr (fun u a => max (max (u.2 + u.1 * max y1 va) wB) a) 1 := by
    intro l
    induction l with
    | nil => exact Nat.le_refl _
    | cons a l ih =>
      rw [List.foldr_cons]
      exact Nat.le_trans ih (Nat.le_max_right _ _)
  exact key _
section PmXn
variable {f : Nat} {t B C : Ty} {Γ0 Δ1 : List Ty} {Δ : List (Nat × Ty × Nat)}
theorem smc_v (w : TWf f (cxs Δ1 Γ0 (tAll B C)).length (Δ.map (fun a => a.1)) t) (he : TE (cxs Δ1 Γ0 (tAll B C)) Δ) (nΔ : Δ ≠ []) (cf : CFt f t) (oD : ok (Γ0.length + 1) Dsm = true) (b2 : 2 ≤ tch B) (k40 : tch C ≤ 40) (q38 : cch Δ1 ≤ 38) {n : Nat} (hz : rx9 (tch B) (tch C) (cch Γ0) (cch Δ1) (mch t) n = true) (hb : cch (cxs Δ1 Γ0 (tAll B C)) + dch Δ + (2 + (mch t + n)) ≤ 60) (h47 : cch (cxs Δ1 Γ0 (tAll B C)) ≤ 47) : SmV Dsm B C Γ0 Δ1 Δ f t (887 - n16 fn1 (yMx fg1 (max 1 (fx1.getD (cch Γ0) 0)) 7 (wbz fr1 1 (max 1 (fx1.getD (cch Γ0) 0)) (tch B)) (cch Δ1))) (597 - n16 fnq (yMx fgq (max 1 (fxq.getD (cch Γ0) 0)) 3 (wbz frq 0 (max 1 (fxq.getD (cch Γ0) 0)) (tch B)) (cch Δ1))) := by
  obtain ⟨oc0, oA⟩ := okc_low Δ1 he.1
  have oBB := (ok_all.mp oA).1
  have oC := (ok_all.mp oA).2
  have ec : 8 + tch B + tch C + cch Γ0 + cch Δ1 = cch (cxs Δ1 Γ0 (tAll B C)) := by
    rw [cch_cx, tch_all]
    omega
  unfold rx9 at hz
  rw [Bool.and_eq_true, Bool.and_eq_true, Bool.and_eq_true] at hz
  obtain ⟨⟨h53, h15⟩, zR, zG⟩ := hz
  have h53 := Nat.le_of_ble_eq_true h53
  have h15 := Nat.le_of_ble_eq_true h15
  unfold rxR at zR
  unfold rxG at zG
  rw [Bool.and_eq_true, Bool.and_eq_true] at zR zG
  have b0 : ∀ a ∈ Γ0, nsch a = true ∨ flv a ≤ max (obz (cch Γ0)) (obz (cch Δ1)) := fun a ha => by
    obtain ⟨d, o1, o2⟩ := okc_mch oc0 ha
    exact Or.inr (Nat.le_trans (flv_lmx o1 (show tch a ≤ cch Γ0 - 4 by omega) (by omega)) (Nat.le_max_left _ _))
  have b1 : ∀ a ∈ Δ1, nsch a = true ∨ flv a ≤ max (obz (cch Γ0)) (obz (cch Δ1)) := fun a ha => by
    obtain ⟨d, o1, o2⟩ := okc_top Δ1 he.1 a ha
    exact Or.inr (Nat.le_trans (flv_lmx o1 (show tch a ≤ cch Δ1 - 4 by omega) (by omega)) (Nat.le_max_right _ _))
  have wbR : ∀ d, vlr d 1 (nz 0 (fun _ => 1 + 1) (2 + 1) (vlr d 1) (onz 0 (fun _ => 1 + 1) (2 + 1) (vlr d 1) Γ0) B) ≤ wbz fr1 1 (max 1 (fx1.getD (cch Γ0) 0)) (tch B) := by
    intro d
    have T := tbs1 d
    have l0 := onz_len 0 (fun _ => 1 + 1) (2 + 1) (vlr d 1) Γ0
    have hω : ∀ j, j < (onz 0 (fun _ => 1 + 1) (2 + 1) (vlr d 1) Γ0).length → vw (onz 0 (fun _ => 1 + 1) (2 + 1) (vlr d 1) Γ0) j ≤ max 1 (fx1.getD (cch Γ0) 0) := fun j hj => Nat.le_trans (onz_chars (n1 := fun _ => 1 + 1) T.1 T.2.1 T.2.2.1 T.2.2.2.1 T.2.2.2.2.1 Γ0 oc0 (by omega) j (by rw [l0] at hj; exact hj)) (Nat.le_max_right _ _)
    have q2 := vlr_one d (nz 0 (fun _ => 1 + 1) (2 + 1) (vlr d 1) (onz 0 (fun _ => 1 + 1) (2 + 1) (vlr d 1) Γ0) B)
    unfold wbz
    rw [if_neg (by intro q'; have := Nat.eq_of_beq_eq_true q'; omega)]
    have q3 : nz 0 (fun _ => 1 + 1) (2 + 1) (vlr d 1) (onz 0 (fun _ => 1 + 1) (2 + 1) (vlr d 1) Γ0) B ≤ Zx fr1 (max 1 (fx1.getD (cch Γ0) 0)) (tch B + 2) := Zx_le T (by rw [l0]; exact oBB) (by omega) (Nat.le_max_left _ _) hω
    generalize nz 0 (fun _ => 1 + 1) (2 + 1) (vlr d 1) (onz 0 (fun _ => 1 + 1) (2 + 1) (vlr d 1) Γ0) B = n9 at *
    generalize Zx fr1 (max 1 (fx1.getD (cch Γ0) 0)) (tch B + 2) = z9 at *
    omega
  have wbG : nz 1 ngc 1 (fun x => x) (onz 1 ngc 1 (fun x => x) Γ0) B ≤ wbz frq 0 (max 1 (fxq.getD (cch Γ0) 0)) (tch B) := by
    have T := tbsq
    have l0 := onz_len 1 ngc 1 (fun x => x) Γ0
    have hω : ∀ j, j < (onz 1 ngc 1 (fun x => x) Γ0).length → vw (onz 1 ngc 1 (fun x => x) Γ0) j ≤ max 1 (fxq.getD (cch Γ0) 0) := fun j hj => Nat.le_trans (onz_chars (n1 := ngc) T.1 T.2.1 T.2.2.1 T.2.2.2.1 T.2.2.2.2.1 Γ0 oc0 (by omega) j (by rw [l0] at hj; exact hj)) (Nat.le_max_right _ _)
    unfold wbz
    rw [if_neg (by intro q'; have := Nat.eq_of_beq_eq_true q'; omega)]
    have q3 : nz 1 ngc 1 (fun x => x) (onz 1 ngc 1 (fun x => x) Γ0) B ≤ Zx frq (max 1 (fxq.getD (cch Γ0) 0)) (tch B + 2) := Zx_le T (by rw [l0]; exact oBB) (by omega) (Nat.le_max_left _ _) hω
    generalize nz 1 ngc 1 (fun x => x) (onz 1 ngc 1 (fun x => x) Γ0) B = n9 at *
    generalize Zx frq (max 1 (fxq.getD (cch Γ0) 0)) (tch B + 2) = z9 at *
    omega
  have gR : ∀ (b : Bool) (E : Stk → Nat) (Z : Nat → Nat), AQh 0 (fun _ => 1 + 1) (2 + 1) (vlr b 1) E Z f t [] (onz 0 (fun _ => 1 + 1) (2 + 1) (vlr b 1) (cxs Δ1 Γ0 (tAll B Dsm))) → GOk 0 (fun _ => 1 + 1) (2 + 1) (vlr b 1) E f t [] (onz 0 (fun _ => 1 + 1) (2 + 1) (vlr b 1) (cxs Δ1 Γ0 (tAll B Dsm))) (cxs Δ1 Γ0 (tAll B C)) Δ := fun b E Z aq => GH_free (t0 := 0) (n1 := fun _ => 1 + 1) (s2 := 2 + 1) (h := vlr b 1) (E := E) (Z := Z) f t [] _ _ Δ w he cf aq (by rw [onz_len, cxs_ll (tAll B Dsm) (tAll B C)])
  have gG : ∀ (E : Stk → Nat) (Z : Nat → Nat), AQh 1 ngc 1 (fun x => x) E Z f t [] (onz 1 ngc 1 (fun x => x) (cxs Δ1 Γ0 (tAll B Dsm))) → GOk 1 ngc 1 (fun x => x) E f t [] (onz 1 ngc 1 (fun x => x) (cxs Δ1 Γ0 (tAll B Dsm))) (cxs Δ1 Γ0 (tAll B C)) Δ := fun E Z aq => GH_free (t0 := 1) (n1 := ngc) (s2 := 1) (h := fun x => x) (E := E) (Z := Z) f t [] _ _ Δ w he cf aq (by rw [onz_len, cxs_ll (tAll B Dsm) (tAll B C)])
  refine zone_sw (un := false) (e := false) (cd := 58 - (8 + tch B + tch C + cch Γ0 + cch Δ1) - mch t - n) (va := 7) (vg := 3) w he (Or.inr ⟨rfl, nΔ⟩) (Or.inr (CF_CO f t 0 cf)) (by omega) (by omega) (by omega) b0 b1 (by omega) q38 wbR wbG (form_R oC k40) (form_G oC k40) oD (fun b => Dsm_va b) Dsm_vg gR gG (fun v hv p hp u hu => ?_) (fun v hv p hp u hu => ?_)
  · have q := Nat.le_of_ble_eq_true (List.all_eq_true.mp (rng_all (List.all_eq_true.mp zR.2.2 v hv) (i := p) (by omega)) u hu)
    exact ⟨(max (u.2 + u.1 * max (max 1 (fx1.getD (cch Γ0) 0)) 7) (wbz fr1 1 (max 1 (fx1.getD (cch Γ0) 0)) (tch B)), 0, v.2 + (v.1 - p) * max 1 (fx1.getD (cch Γ0) 0), p, max (obz (cch Γ0)) (obz (cch Δ1)), tch C), ⟨Nat.le_max_left _ _, Nat.le_refl _, Nat.le_refl _, Nat.le_refl _, Nat.le_refl _⟩, ⟨by show tch C ≤ 50; omega, Nat.le_max_right _ _⟩, fun _ _ => q, fun e => by cases e⟩
  · have q := Nat.le_of_ble_eq_true (List.all_eq_true.mp (rng_all (List.all_eq_true.mp zG.2.2 v hv) (i := p) (by omega)) u hu)
    exact ⟨(max (u.2 + u.1 * max (max 1 (fxq.getD (cch Γ0) 0)) 3) (wbz frq 0 (max 1 (fxq.getD (cch Γ0) 0)) (tch B)), 0, v.2 + (v.1 - p) * max 1 (fxq.getD (cch Γ0) 0), p, max (obz (cch Γ0)) (obz (cch Δ1)), tch C), ⟨Nat.le_max_left _ _, Nat.le_refl _, Nat.le_refl _, Nat.le_refl _, Nat.le_refl _⟩, ⟨by show tch C ≤ 50; omega, Nat.le_max_right _ _⟩, fun _ _ => q, fun e => by cases e⟩
theorem smn_v (w : TWf f (cxs Δ1 Γ0 (tAll B C)).length (Δ.map (fun a => a.1)) t) (he : TE (cxs Δ1 Γ0 (tAll B C)) Δ) (ov : OVq 1 B C Dsm Γ0) (k40 : tch C ≤ 40) {m n : Nat} (hz : rx9 (tch B) (tch C) (cch Γ0) (cch Δ1) m n = true) (h47 : cch (cxs Δ1 Γ0 (tAll B C)) ≤ 47) : SmV Dsm B C Γ0 Δ1 Δ f t (n16 fn1 (yMx fg1 (max 1 (fx1.getD (cch Γ0) 0)) 7 (wbz fr1 1 (max 1 (fx1.getD (cch Γ0) 0)) (tch B)) (cch Δ1))) (n16 fnq (yMx fgq (max 1 (fxq.getD (cch Γ0) 0)) 3 (wbz frq 0 (max 1 (fxq.getD (cch Γ0) 0)) (tch B)) (cch Δ1))) := by
  obtain ⟨oc0, oA⟩ := okc_low Δ1 he.1
  have oC := (ok_all.mp oA).2
  have ec : cch (cxs Δ1 Γ0 (tAll B C)) = 8 + tch B + tch C + cch Γ0 + cch Δ1 := by
    rw [cch_cx, tch_all]
    omega
  have pB := tch_pos (ok_all.mp oA).1
  have pC := tch_pos oC
  unfold rx9 at hz
  rw [Bool.and_eq_true, Bool.and_eq_true, Bool.and_eq_true] at hz
  obtain ⟨h53, zR, zG⟩ := hz
  unfold rxR at zR
  unfold rxG at zG
  rw [Bool.and_eq_true, Bool.and_eq_true] at zR zG
  intro S hS
  have oS := tyF_ok f t _ Δ S w he hS
  have o2 : ok (cxs Δ1 Γ0 (tAll B Dsm)).length S = true := by rw [cxs_ll (tAll B Dsm) (tAll B C)]; exact oS.1
  refine ⟨fun d => mz_nodes d zR.2.1 (yMx_one _ _ _ _ _) o2 oS.2 (fun j hj => ?_), gz_nodes zG.2.1 (yMx_one _ _ _ _ _) o2 oS.2 (fun j hj => ?_)⟩
  · obtain ⟨v, hv, x1, x2⟩ := xr_form (t0 := 0) (n1 := fun _ => 1 + 1) (s2 := 3) (hv := 1) xr1_ok (tbs1 d).2.2.2.1 (tbs1 d).2.2.2.2.1 _ C (Γ0.length + 1) (Nat.le_refl _) oC k40
    obtain ⟨p, hp, e, he', g1, g2, g3⟩ := sm_ctx (v := v) (va := 7) (Dm := Dsm) (tbs1 d) fg1_ok (by decide) fg1_m (vlr_one d) he.1 ov.1.1 (Dsm_va d) x1 x2 (Nat.le_refl _) (Nat.le_refl _) (by omega) (Nat.le_refl _) (by omega)
    exact Nat.le_trans (g2 j hj) (Nat.le_trans (Nat.le_max_left _ _) (yMx_mem he'))
  · obtain ⟨v, hv, x1, x2⟩ := xr_form (t0 := 1) (n1 := ngc) (s2 := 1) (hv := 0) xrq_ok tbsq.2.2.2.1 tbsq.2.2.2.2.1 _ C (Γ0.length + 1) (Nat.le_refl _) oC k40
    obtain ⟨p, hp, e, he', g1, g2, g3⟩ := sm_ctx (v := v) (va := 3) (Dm := Dsm) tbsq fgq_ok (by decide) fgq_m (fun y => by show y ≤ 0 + max 1 y; omega) he.1 ov.1.1 Dsm_vg x1 x2 (Nat.le_refl _) (Nat.le_refl _) (by omega) (Nat.le_refl _) (by omega)
    exact Nat.le_trans (g2 j hj) (Nat.le_trans (Nat.le_max_left _ _) (yMx_mem he'))
theorem rx_le {be k q1 q2 m n : Nat} (hz : rx9 be k q1 q2 m n = true) : n16 fn1 (yMx fg1 (max 1 (fx1.getD q1 0)) 7 (wbz fr1 1 (max 1 (fx1.getD q1 0)) be) q2) ≤ 887 ∧ n16 fnq (yMx fgq (max 1 (fxq.getD q1 0)) 3 (wbz frq 0 (max 1 (fxq.getD q1 0)) be) q2) ≤ 597 := by
  unfold rx9 at hz
  rw [Bool.and_eq_true, Bool.and_eq_true, Bool.and_eq_true] at hz
  obtain ⟨-, zR, zG⟩ := hz
  unfold rxR at zR
  unfold rxG at zG
  rw [Bool.and_eq_true] at zR zG
  exact ⟨Nat.le_of_ble_eq_true zR.1, Nat.le_of_ble_eq_true zG.1⟩
end PmXn
/-- the other term has n characters or more -/
theorem pair_xm {f : Nat} {x y t B C : Ty} {Γ Γ0 Δ1 : List Ty} {Δ : List (Nat × Ty × Nat)} (H : H9 f x y Γ Δ) (sh : Sh9 x y t) (e : Γ = cxs Δ1 Γ0 (tAll B C)) (ov : OVq 1 B C Dsm Γ0) (nΔ : Δ ≠ []) (cf : CFt f t) (b2 : 2 ≤ tch B) (k40 : tch C ≤ 40) {n : Nat} (hn : mch t + n ≤ mch x + mch y) (hz : rx9 (tch B) (tch C) (cch Γ0) (cch Δ1) (mch t) n = true) : PRn f x y Γ Δ := by
  obtain ⟨hx, hy, ⟨he, hv, hd', h20, h47, -⟩, hb, -⟩ := H
  subst e
  have ec := cch_cx (Γ0 := Γ0) (β := tAll B C) Δ1
  have eσ := tch_all B C
  have le := rx_le hz
  rcases sh with ⟨rfl, -⟩ | ⟨rfl, -⟩
  · have z1 := smc_v hx.1 he nΔ cf ov.1.1 b2 k40 (by omega) hz (by omega) h47
    have z2 := smn_v hy.1 he ov k40 hz h47
    exact pair_sumv ov hx.1 hy.1 he hx.2.1 hy.2.1 hv hd' (by omega) z1 z2 (by omega) (by omega)
  · have z1 := smc_v hy.1 he nΔ cf ov.1.1 b2 k40 (by omega) hz (by omega) h47
    have z2 := smn_v hx.1 he ov k40 hz h47
    exact pair_sumv ov hx.1 hy.1 he hx.2.1 hy.2.1 hv hd' (by omega) z2 z1 (by omega) (by omega)
