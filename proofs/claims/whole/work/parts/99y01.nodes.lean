/-! ANY TWO TERMS in a context whose long scheme is worth little (HKd), the other bounds being small: by the nodes of the types. -/
theorem fnv_n1 : fnv fn1 10 428 = true := by decide +kernel
theorem fnv_nq : fnv fnq 7 287 = true := by decide +kernel
def ndk (q1 q2 : Nat) : Bool := (frg fg1 q2).all (fun e => Nat.ble (e.2 + e.1 * max (max 1 (fx1.getD q1 0)) 7) 10) && (frg fgq q2).all (fun e => Nat.ble (e.2 + e.1 * max (max 1 (fxq.getD q1 0)) 3) 7)
theorem fnv_g1 : fnv fn1 22 860 = true := by decide +kernel
theorem fnv_gq : fnv fnq 15 575 = true := by decide +kernel
def gdk (q1 q2 : Nat) : Bool := (frg fg1 q2).all (fun e => Nat.ble (e.2 + e.1 * max (max 1 (fx1.getD q1 0)) 4) 22) && (frg fgq q2).all (fun e => Nat.ble (e.2 + e.1 * max (max 1 (fxq.getD q1 0)) 2) 15)
section PmY1
variable {f h : Nat} {x y B C Dm : Ty} {Γ0 Δ1 : List Ty} {Δ : List (Nat × Ty × Nat)}
/-- by values -/
theorem pair_nodesv (ov : OVq 1 B C Dm Γ0) (x1 : TWf f (cxs Δ1 Γ0 (tAll B C)).length (Δ.map (fun a => a.1)) x) (x2 : TWf f (cxs Δ1 Γ0 (tAll B C)).length (Δ.map (fun a => a.1)) y) (he : TE (cxs Δ1 Γ0 (tAll B C)) Δ) (y1 : NAt f x) (y2 : NAt f y) (hv : noac (cxs Δ1 Γ0 (tAll B C))) (hd' : ∀ a ∈ Δ, noal a.2.1 = true) (hb : cch (cxs Δ1 Γ0 (tAll B C)) ≤ 56) (hw : ∀ b j, j < (cxs Δ1 Γ0 (tAll B Dm)).length → vw (onz 0 (fun _ => 1 + 1) (2 + 1) (vlr b 1) (cxs Δ1 Γ0 (tAll B Dm))) j ≤ 10) (hq : ∀ j, j < (cxs Δ1 Γ0 (tAll B Dm)).length → vw (onz 1 ngc 1 (fun y => y) (cxs Δ1 Γ0 (tAll B Dm))) j ≤ 7) : PRn f x y (cxs Δ1 Γ0 (tAll B C)) Δ := by
  have z : ∀ t, TWf f (cxs Δ1 Γ0 (tAll B C)).length (Δ.map (fun a => a.1)) t → SmV Dm B C Γ0 Δ1 Δ f t 428 287 := by
    intro t w S hS
    have oS := tyF_ok f t _ Δ S w he hS
    have o2 : ok (cxs Δ1 Γ0 (tAll B Dm)).length S = true := by rw [cxs_ll (tAll B Dm) (tAll B C)]; exact oS.1
    exact ⟨fun d => mz_nodes d fnv_n1 (by decide) o2 oS.2 (hw d), gz_nodes fnv_nq (by decide) o2 oS.2 hq⟩
  exact pair_sumv ov x1 x2 he y1 y2 hv hd' hb (z x x1) (z y x2) (by decide) (by decide)
/-- by characters -/
theorem pair_nodes (H : HKd h B C Γ0) (x1 : TWf f (cxs Δ1 Γ0 (tAll B C)).length (Δ.map (fun a => a.1)) x) (x2 : TWf f (cxs Δ1 Γ0 (tAll B C)).length (Δ.map (fun a => a.1)) y) (he : TE (cxs Δ1 Γ0 (tAll B C)) Δ) (y1 : NAt f x) (y2 : NAt f y) (hv : noac (cxs Δ1 Γ0 (tAll B C))) (hd' : ∀ a ∈ Δ, noal a.2.1 = true) (hk : ndk (cch Γ0) (cch Δ1) = true) (h47 : cch (cxs Δ1 Γ0 (tAll B C)) ≤ 47) : PRn f x y (cxs Δ1 Γ0 (tAll B C)) Δ := by
  have ov := H.ov (e := 1) (Nat.le_refl 1)
  obtain ⟨oc0, oA⟩ := okc_low Δ1 he.1
  have oB := (ok_all.mp oA).1
  have oC := (ok_all.mp oA).2
  have ec : cch (cxs Δ1 Γ0 (tAll B C)) = 8 + tch B + tch C + cch Γ0 + cch Δ1 := by
    rw [cch_cx, tch_all]
    omega
  have kB := tch_pos oB
  unfold ndk at hk
  rw [Bool.and_eq_true] at hk
  refine pair_nodesv ov x1 x2 he y1 y2 hv hd' (by omega) (fun b => ?_) ?_
  · obtain ⟨v, hv, x1, x2⟩ := xr_form (t0 := 0) (n1 := fun _ => 1 + 1) (s2 := 3) (hv := 1) xr1_ok (tbs1 b).2.2.2.1 (tbs1 b).2.2.2.2.1 _ C (Γ0.length + 1) (Nat.le_refl _) oC (by omega)
    obtain ⟨p, hp, e, he', g1, g2, g3⟩ := sm_ctx (v := v) (va := 7) (Dm := Dsm) (tbs1 b) fg1_ok (by decide) fg1_m (vlr_one b) he.1 ov.1.1 (Dsm_va b) x1 x2 (Nat.le_refl _) (Nat.le_refl _) (by omega) (Nat.le_refl _) (by omega)
    have q := Nat.le_of_ble_eq_true (List.all_eq_true.mp hk.1 e he')
    exact fun j hj => Nat.le_trans (g2 j hj) q
  · obtain ⟨v, hv, x1, x2⟩ := xr_form (t0 := 1) (n1 := ngc) (s2 := 1) (hv := 0) xrq_ok tbsq.2.2.2.1 tbsq.2.2.2.2.1 _ C (Γ0.length + 1) (Nat.le_refl _) oC (by omega)
    obtain ⟨p, hp, e, he', g1, g2, g3⟩ := sm_ctx (v := v) (va := 3) (Dm := Dsm) tbsq fgq_ok (by decide) fgq_m (fun y => by show y ≤ 0 + max 1 y; omega) he.1 ov.1.1 Dsm_vg x1 x2 (Nat.le_refl _) (Nat.le_refl _) (by omega) (Nat.le_refl _) (by omega)
    have q := Nat.le_of_ble_eq_true (List.all_eq_true.mp hk.2 e he')
    exact fun j hj => Nat.le_trans (g2 j hj) q
/-- a scheme that is never entered: what stands behind may be worth more -/
theorem pair_gnodes {hb : Nat} (nC : noh hb C = true) (s : SGc hb B C tTop Γ0 Δ1) (x1 : TWf f (cxs Δ1 Γ0 (tAll B C)).length (Δ.map (fun a => a.1)) x) (x2 : TWf f (cxs Δ1 Γ0 (tAll B C)).length (Δ.map (fun a => a.1)) y) (he : TE (cxs Δ1 Γ0 (tAll B C)) Δ) (y1 : NAt f x) (y2 : NAt f y) (hv : noac (cxs Δ1 Γ0 (tAll B C))) (hd' : ∀ a ∈ Δ, noh hb a.2.1 = true ∧ noal a.2.1 = true) (p1 : NHt hb f x) (p2 : NHt hb f y) (hk : gdk (cch Γ0) (cch Δ1) = true) (h47 : cch (cxs Δ1 Γ0 (tAll B C)) ≤ 47) : PRn f x y (cxs Δ1 Γ0 (tAll B C)) Δ := by
  obtain ⟨oc0, oA⟩ := okc_low Δ1 he.1
  have oB := (ok_all.mp oA).1
  have oC := (ok_all.mp oA).2
  have ec : cch (cxs Δ1 Γ0 (tAll B C)) = 8 + tch B + tch C + cch Γ0 + cch Δ1 := by
    rw [cch_cx, tch_all]
    omega
  have kB := tch_pos oB
  unfold gdk at hk
  rw [Bool.and_eq_true] at hk
  refine pair_gonev nC s x1 x2 he y1 y2 hv hd' (by omega) p1 p2 (Or.inl (fun S hS => ?_))
  have oS := tyF_ok f x _ Δ S x1 he hS
  have o2 : ok (cxs Δ1 Γ0 (tAll B tTop)).length S = true := by rw [cxs_ll (tAll B tTop) (tAll B C)]; exact oS.1
  refine ⟨fun b => Nat.le_trans (mz_nodes b fnv_g1 (by decide) o2 oS.2 ?_) (by decide), Nat.le_trans (gz_nodes fnv_gq (by decide) o2 oS.2 ?_) (by decide)⟩
  · obtain ⟨v, hv, x1, x2⟩ := xr_form (t0 := 0) (n1 := fun _ => 1 + 1) (s2 := 3) (hv := 1) xr1_ok (tbs1 b).2.2.2.1 (tbs1 b).2.2.2.2.1 _ C (Γ0.length + 1) (Nat.le_refl _) oC (by omega)
    obtain ⟨p, hp, e, he', g1, g2, g3⟩ := sm_ctx (v := v) (va := 4) (Dm := tTop) (tbs1 b) fg1_ok (by decide) fg1_m (vlr_one b) he.1 rfl (gone_va (B := B) (Γ0 := Γ0) b) x1 x2 (Nat.le_refl _) (Nat.le_refl _) (by omega) (Nat.le_refl _) (by omega)
    have q := Nat.le_of_ble_eq_true (List.all_eq_true.mp hk.1 e he')
    exact fun j hj => Nat.le_trans (g2 j hj) q
  · obtain ⟨v, hv, x1, x2⟩ := xr_form (t0 := 1) (n1 := ngc) (s2 := 1) (hv := 0) xrq_ok tbsq.2.2.2.1 tbsq.2.2.2.2.1 _ C (Γ0.length + 1) (Nat.le_refl _) oC (by omega)
    obtain ⟨p, hp, e, he', g1, g2, g3⟩ := sm_ctx (v := v) (va := 2) (Dm := tTop) tbsq fgq_ok (by decide) fgq_m (fun y => by show y ≤ 0 + max 1 y; omega) he.1 rfl (gone_vg (B := B) (Γ0 := Γ0)) x1 x2 (Nat.le_refl _) (Nat.le_refl _) (by omega) (Nat.le_refl _) (by omega)
    have q := Nat.le_of_ble_eq_true (List.all_eq_true.mp hk.2 e he')
    exact fun j hj => Nat.le_trans (g2 j hj) q
end PmY1
