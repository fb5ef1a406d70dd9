/-! A TERM IN A CONTEXT THAT IS CUT: rows and goals; pairs. -/
theorem okc_low {Γ0 : List Ty} {β : Ty} : ∀ (Δ : List Ty), okc (cxs Δ Γ0 β) → okc Γ0 ∧ ok Γ0.length β = true
  | [], h => ⟨h.2, h.1⟩
  | _ :: Δ, h => okc_low Δ h.2
theorem okc_mem : ∀ {Γ : List Ty}, okc Γ → ∀ b ∈ Γ, ∃ d, ok d b = true
  | [], _, b, hb => by cases hb
  | a :: Γ, h, b, hb => by
    rcases List.mem_cons.mp hb with e | e
    · exact ⟨Γ.length, by rw [e]; exact h.1⟩
    · exact okc_mem h.2 b e
/-- what is asked of the term -/
def CutT (C : Ty) (Γ0 Δ1 : List Ty) (Δ : List (Nat × Ty × Nat)) (f : Nat) (t : Ty) : Prop := COk f t 0 ∧ NQk f t 0 ∧ tch C ≤ 38 ∧ mch t ≤ 21 ∧ ∃ g ob cd, (hasq f t = true → gqk f t ≤ g) ∧ (∀ b ∈ Γ0, nsch b = true ∨ flv b ≤ ob) ∧ (∀ b ∈ Δ1, nsch b = true ∨ flv b ≤ ob) ∧ cch Γ0 ≤ 56 ∧ dch Δ ≤ cd ∧ 2 ≤ cd ∧ cutR (tch C) (cch Γ0) (cch Δ1) g ob cd (mch t) = true ∧ cutG (tch C) (cch Γ0) (cch Δ1) g ob cd (mch t) = true
section PmR5
variable {f : Nat} {t S C : Ty} {Γ0 Δ1 : List Ty} {Δ : List (Nat × Ty × Nat)}
theorem cutT_rows (b : Bool) (h0 : CN0 kp2 0 tTop C Γ0) (hxx : CNx kp2 0 tTop C Γ0 Δ1) (w : TWf f (cA tTop C Γ0 Δ1).length (Δ.map (fun a => a.1)) t) (he : TE (cA tTop C Γ0 Δ1) Δ) (cu : CutT C Γ0 Δ1 Δ f t) (pn : PNt 0 f t (cA tTop C Γ0 Δ1).length) (hd' : ∀ a ∈ Δ, PNw kp2 0 a.2.2 a.2.1 = true) (hS : tyF f t (cA tTop C Γ0 Δ1) Δ = .inr S) : nz 0 (fun _ => 1 + 1) (2 + 1) (vlr b 1) (onz 0 (fun _ => 1 + 1) (2 + 1) (vlr b 1) (cB kp2 tTop C Γ0 Δ1)) S ≤ 830 := by
  obtain ⟨co, nq, hk, hm21, g, ob, cd, hg, hb0, hb1, hr, hd, hcd, hR, -⟩ := cu
  obtain ⟨oc0, oA⟩ := okc_low Δ1 hxx.1
  have oC := (ok_all.mp oA).2
  have l0 := onz_len 0 (fun _ => 1 + 1) (2 + 1) (vlr b 1) Γ0
  have hω : ∀ j, j < (onz 0 (fun _ => 1 + 1) (2 + 1) (vlr b 1) Γ0).length → vw (onz 0 (fun _ => 1 + 1) (2 + 1) (vlr b 1) Γ0) j ≤ max 2 (fx1.getD (cch Γ0) 0) := fun j hj => Nat.le_trans (onz_chars (n1 := fun _ => 1 + 1) (tbs1 b).1 (tbs1 b).2.1 (tbs1 b).2.2.1 (tbs1 b).2.2.2.1 (tbs1 b).2.2.2.2.1 Γ0 oc0 hr j (by rw [l0] at hj; exact hj)) (Nat.le_max_right _ _)
  obtain ⟨q, hq, c1, v, hv, c2⟩ := cut_rows b (B := tTop) (C := C) (ω0 := onz 0 (fun _ => 1 + 1) (2 + 1) (vlr b 1) Γ0) (x := max 2 (fx1.getD (cch Γ0) 0)) (Nat.le_max_left _ _) (nz_top _) hω (by rw [l0]; exact oC) hk
  rw [l0] at c1
  unfold cutR at hR
  have R1 := List.all_eq_true.mp (List.all_eq_true.mp hR q hq) v hv
  clear hR hq hv
  generalize max 2 (fx1.getD (cch Γ0) 0) = x at *
  have lk := lstX_ok (X := fx1) (y := max x (4 + (q.2.2 + q.2.1 * x)))
  generalize lstX fx1 (max x (4 + (q.2.2 + q.2.1 * x))) = c0 at *
  rw [Bool.and_eq_true, Bool.and_eq_true] at R1
  obtain ⟨n1', n2', n3'⟩ := R1
  have n1' := Nat.le_of_ble_eq_true n1'
  have n2' := Nat.le_of_ble_eq_true n2'
  have lk := lk (by omega)
  have h0' : ∀ j, j < (tAll tTop (ct kp2 Γ0.length C) :: Γ0).length → vw (onz 0 (fun _ => 1 + 1) (2 + 1) (vlr b 1) (tAll tTop (ct kp2 Γ0.length C) :: Γ0)) j ≤ fx1.getD c0 0 := by
    intro j hj
    show vw ((vlr b 1) (nz 0 (fun _ => 1 + 1) (2 + 1) (vlr b 1) (onz 0 (fun _ => 1 + 1) (2 + 1) (vlr b 1) Γ0) (tAll tTop (ct kp2 Γ0.length C))) :: onz 0 (fun _ => 1 + 1) (2 + 1) (vlr b 1) Γ0) j ≤ _
    have vb : ∀ y A, y ≤ 3 + A → vlr b 1 y ≤ 4 + A := by
      intro y A hy
      unfold vlr
      split <;> omega
    rw [vw_cons, l0]
    by_cases e : j = Γ0.length
    · rw [if_pos e]
      exact Nat.le_trans (vb _ _ c1) (Nat.le_trans (Nat.le_max_right _ _) lk)
    · rw [if_neg e]
      rw [List.length_cons] at hj
      exact Nat.le_trans (hω j (by rw [l0]; omega)) (Nat.le_trans (Nat.le_max_left _ _) lk)
  have hw := onz_cx (tbs1 b) h0' Δ1 hxx.2.1 (by omega)
  refine natB_le n3' (cut_BF (pb := max q.1 (max (lmx fr1 (mch t)) ob) + flv (tAll tTop C)) (NC_rows b 1) (vlr_mono b 1) (vlr_lip b 1) (tbs1 b) px1_ok (Nat.le_refl _) (Nat.le_refl _) (Zr_ok _) h0 (Nat.le_add_right _ _) w he co nq hxx pn hd' hS hd hcd n2' n1' (fun c => by have := hg c; omega) (fun q q1 q2 => zr_le q1 (by omega)) (Nat.le_trans (Nat.le_max_left _ _) (Nat.le_max_right _ _)) hw (fun A d o ht => Nat.le_trans (flv_lmx o ht (by omega)) (Nat.le_trans (Nat.le_max_left _ _) (Nat.le_max_right _ _))) ?_)
  have K : ∀ z, nz 0 (fun _ => 1 + 1) (2 + 1) (vlr b 1) (hzx (vlr b 1) z (nz 0 (fun _ => 1 + 1) (2 + 1) (vlr b 1) (onz 0 (fun _ => 1 + 1) (2 + 1) (vlr b 1) Γ0) tTop) :: onz 0 (fun _ => 1 + 1) (2 + 1) (vlr b 1) Γ0) C ≤ (v.2 + v.1 * x) + z * q.1 := by
    intro z
    have := c2 z
    rw [nz1_all] at this
    omega
  refine BEc_cut (NC_rows b 1) ⟨?_, Nat.le_add_left _ _, fun z => ?_⟩ (fun b hb => ?_) Δ1 (fun j hj => Nat.le_trans (hw j hj) (Nat.le_max_left _ _)) (fun b hb => ?_)
  · have k0 := K 0
    rw [show hzx (vlr b 1) 0 = (vlr b 1) from hzx_0, Nat.zero_mul, Nat.add_zero] at k0
    rw [nz_all]
    exact Nat.le_trans (Nat.add_le_add_left k0 _) (Nat.le_trans (Nat.le_max_right _ _) (Nat.le_max_right _ _))
  · have kz := K z
    have m1 : z * q.1 ≤ max q.1 (max (lmx fr1 (mch t)) ob) * z := by
      rw [Nat.mul_comm z]
      exact Nat.mul_le_mul_right z (Nat.le_max_left _ _)
    have m2 : v.2 + v.1 * x ≤ max (fx1.getD (c0 + cch Δ1) 0) (max (Zr (fx1.getD (c0 + cch Δ1 + g) 0) (mch t)) (3 + (v.2 + v.1 * x))) := Nat.le_trans (Nat.le_add_left _ _) (Nat.le_trans (Nat.le_max_right _ _) (Nat.le_max_right _ _))
    exact Nat.le_trans kz (Nat.add_le_add m2 m1)
  · exact (hb0 b hb).imp id (fun c => Nat.le_trans c (Nat.le_trans (Nat.le_max_right _ _) (Nat.le_max_right _ _)))
  · exact (hb1 b hb).imp id (fun c => Nat.le_trans c (Nat.le_trans (Nat.le_max_right _ _) (Nat.le_max_right _ _)))
theorem cutT_goals (h0 : CN0 kp2 0 tTop C Γ0) (hxx : CNx kp2 0 tTop C Γ0 Δ1) (w : TWf f (cA tTop C Γ0 Δ1).length (Δ.map (fun a => a.1)) t) (he : TE (cA tTop C Γ0 Δ1) Δ) (cu : CutT C Γ0 Δ1 Δ f t) (pn : PNt 0 f t (cA tTop C Γ0 Δ1).length) (hd' : ∀ a ∈ Δ, PNw kp2 0 a.2.2 a.2.1 = true) (hS : tyF f t (cA tTop C Γ0 Δ1) Δ = .inr S) : nz 1 ngc 1 (fun x => x) (onz 1 ngc 1 (fun x => x) (cB kp2 tTop C Γ0 Δ1)) S ≤ 597 := by
  obtain ⟨co, nq, hk, hm21, g, ob, cd, hg, hb0, hb1, hr, hd, hcd, -, hR⟩ := cu
  obtain ⟨oc0, oA⟩ := okc_low Δ1 hxx.1
  have oC := (ok_all.mp oA).2
  have l0 := onz_len 1 ngc 1 (fun x => x) Γ0
  have hω : ∀ j, j < (onz 1 ngc 1 (fun x => x) Γ0).length → vw (onz 1 ngc 1 (fun x => x) Γ0) j ≤ max 1 (fxq.getD (cch Γ0) 0) := fun j hj => Nat.le_trans (onz_chars (n1 := ngc) tbsq.1 tbsq.2.1 tbsq.2.2.1 tbsq.2.2.2.1 tbsq.2.2.2.2.1 Γ0 oc0 hr j (by rw [l0] at hj; exact hj)) (Nat.le_max_right _ _)
  obtain ⟨q, hq, c1, v, hv, c2⟩ := cut_goals (B := tTop) (C := C) (ω0 := onz 1 ngc 1 (fun x => x) Γ0) (x := max 1 (fxq.getD (cch Γ0) 0)) (Nat.le_max_left _ _) (nz_top _) hω (by rw [l0]; exact oC) hk
  rw [l0] at c1
  unfold cutG at hR
  have R1 := List.all_eq_true.mp (List.all_eq_true.mp hR q hq) v hv
  clear hR hq hv
  generalize max 1 (fxq.getD (cch Γ0) 0) = x at *
  have lk := lstX_ok (X := fxq) (y := max x (1 + (q.2.2 + q.2.1 * x)))
  generalize lstX fxq (max x (1 + (q.2.2 + q.2.1 * x))) = c0 at *
  rw [Bool.and_eq_true, Bool.and_eq_true] at R1
  obtain ⟨n1', n2', n3'⟩ := R1
  have n1' := Nat.le_of_ble_eq_true n1'
  have n2' := Nat.le_of_ble_eq_true n2'
  have lk := lk (by omega)
  have h0' : ∀ j, j < (tAll tTop (ct kp2 Γ0.length C) :: Γ0).length → vw (onz 1 ngc 1 (fun x => x) (tAll tTop (ct kp2 Γ0.length C) :: Γ0)) j ≤ fxq.getD c0 0 := by
    intro j hj
    show vw ((fun x => x) (nz 1 ngc 1 (fun x => x) (onz 1 ngc 1 (fun x => x) Γ0) (tAll tTop (ct kp2 Γ0.length C))) :: onz 1 ngc 1 (fun x => x) Γ0) j ≤ _
    rw [vw_cons, l0]
    by_cases e : j = Γ0.length
    · rw [if_pos e]
      exact Nat.le_trans (c1) (Nat.le_trans (Nat.le_max_right _ _) lk)
    · rw [if_neg e]
      rw [List.length_cons] at hj
      exact Nat.le_trans (hω j (by rw [l0]; omega)) (Nat.le_trans (Nat.le_max_left _ _) lk)
  have hw := onz_cx tbsq h0' Δ1 hxx.2.1 (by omega)
  refine natB_le n3' (cut_BF (pb := max q.1 (max (lmx fr1 (mch t)) ob) + flv (tAll tTop C)) NC_goals (fun y y' hy => hy) (fun y δ => Nat.le_refl _) tbsq pxq_ok (by decide) (by decide) (Zg_ok _) h0 (Nat.le_add_right _ _) w he co nq hxx pn hd' hS hd hcd n2' n1' (fun c => by have := hg c; omega) (fun q q1 q2 => zg_le q1 (by omega)) (Nat.le_trans (Nat.le_max_left _ _) (Nat.le_max_right _ _)) hw (fun A d o ht => Nat.le_trans (flv_lmx o ht (by omega)) (Nat.le_trans (Nat.le_max_left _ _) (Nat.le_max_right _ _))) ?_)
  have K : ∀ z, nz 1 ngc 1 (fun x => x) (hzx (fun x => x) z (nz 1 ngc 1 (fun x => x) (onz 1 ngc 1 (fun x => x) Γ0) tTop) :: onz 1 ngc 1 (fun x => x) Γ0) C ≤ (v.2 + v.1 * x) + z * q.1 := by
    intro z
    have := c2 z
    rw [nz1_all] at this
    omega
  refine BEc_cut NC_goals ⟨?_, Nat.le_add_left _ _, fun z => ?_⟩ (fun b hb => ?_) Δ1 (fun j hj => Nat.le_trans (hw j hj) (Nat.le_max_left _ _)) (fun b hb => ?_)
  · have k0 := K 0
    rw [show hzx (fun x => x) 0 = (fun x => x) from hzx_0, Nat.zero_mul, Nat.add_zero] at k0
    rw [nz_all]
    exact Nat.le_trans (Nat.add_le_add_left k0 _) (Nat.le_trans (Nat.le_max_right _ _) (Nat.le_max_right _ _))
  · have kz := K z
    have m1 : z * q.1 ≤ max q.1 (max (lmx fr1 (mch t)) ob) * z := by
      rw [Nat.mul_comm z]
      exact Nat.mul_le_mul_right z (Nat.le_max_left _ _)
    have m2 : v.2 + v.1 * x ≤ max (fxq.getD (c0 + cch Δ1) 0) (max (Zg (fxq.getD (c0 + cch Δ1 + g) 0) (mch t)) (1 + (v.2 + v.1 * x))) := Nat.le_trans (Nat.le_add_left _ _) (Nat.le_trans (Nat.le_max_right _ _) (Nat.le_max_right _ _))
    exact Nat.le_trans kz (Nat.add_le_add m2 m1)
  · exact (hb0 b hb).imp id (fun c => Nat.le_trans c (Nat.le_trans (Nat.le_max_right _ _) (Nat.le_max_right _ _)))
  · exact (hb1 b hb).imp id (fun c => Nat.le_trans c (Nat.le_trans (Nat.le_max_right _ _) (Nat.le_max_right _ _)))
end PmR5
