/-! BOTH TERMS WITHOUT A CHOICE: their sum, the scheme's body being replaced by a small one. -/
/-- rows: the scheme has k characters and is worth va, r1 before, r2 behind, g around arguments, other schemes of at most ob leaves -/
def smR (va k r1 r2 g ob cd m Bd : Nat) : Bool := (frg fr1 k).all (fun v =>
  Nat.ble (lstX fx1 (max (max 2 (fx1.getD r1 0)) va) + r2 + g) 56 && (Nat.ble (lstX fx1 (max (max 2 (fx1.getD r1 0)) va) + r2 + cd + 2 * m) 58 &&
  natB pp1 (Zr (fx1.getD (lstX fx1 (max (max 2 (fx1.getD r1 0)) va) + r2 + g) 0)) (lstX fx1 (max (max 2 (fx1.getD r1 0)) va) + r2 + cd) m
    (max (fx1.getD (lstX fx1 (max (max 2 (fx1.getD r1 0)) va) + r2) 0) (max (Zr (fx1.getD (lstX fx1 (max (max 2 (fx1.getD r1 0)) va) + r2 + g) 0) m) (v.2 + v.1 * max 2 (fx1.getD r1 0))))
    (max (lmx fr1 k) (max (lmx fr1 m) ob)) Bd))
def smG (vg k r1 r2 g ob cd m Bd : Nat) : Bool := (frg frq k).all (fun v =>
  Nat.ble (lstX fxq (max (max 1 (fxq.getD r1 0)) vg) + r2 + g) 56 && (Nat.ble (lstX fxq (max (max 1 (fxq.getD r1 0)) vg) + r2 + cd + 2 * m) 58 &&
  natB ppq (Zg (fxq.getD (lstX fxq (max (max 1 (fxq.getD r1 0)) vg) + r2 + g) 0)) (lstX fxq (max (max 1 (fxq.getD r1 0)) vg) + r2 + cd) m
    (max (fxq.getD (lstX fxq (max (max 1 (fxq.getD r1 0)) vg) + r2) 0) (max (Zg (fxq.getD (lstX fxq (max (max 1 (fxq.getD r1 0)) vg) + r2 + g) 0) m) (v.2 + v.1 * max 1 (fxq.getD r1 0))))
    (max (lmx fr1 k) (max (lmx fr1 m) ob)) Bd))
/-- what is asked of a term that is worth at most b rows and c goals -/
def SmT (va vg : Nat) (B C : Ty) (Γ0 Δ1 : List Ty) (Δ : List (Nat × Ty × Nat)) (f : Nat) (t : Ty) (b c : Nat) : Prop := CFt f t ∧ tch (tAll B C) ≤ 56 ∧ mch t ≤ 21 ∧ ∃ g ob cd, (hasq f t = true → gqk f t ≤ g) ∧ (∀ b ∈ Γ0, nsch b = true ∨ flv b ≤ ob) ∧ (∀ b ∈ Δ1, nsch b = true ∨ flv b ≤ ob) ∧ cch Γ0 ≤ 56 ∧ dch Δ ≤ cd ∧ 2 ≤ cd ∧ smR va (tch (tAll B C)) (cch Γ0) (cch Δ1) g ob cd (mch t) b = true ∧ smG vg (tch (tAll B C)) (cch Γ0) (cch Δ1) g ob cd (mch t) c = true
section PmUm
variable {va vg f m1 m2 : Nat} {t S B C Dm : Ty} {Γ0 Δ1 : List Ty} {Δ : List (Nat × Ty × Nat)}
theorem sm_rows (b : Bool) (w : TWf f (cxs Δ1 Γ0 (tAll B C)).length (Δ.map (fun a => a.1)) t) (he : TE (cxs Δ1 Γ0 (tAll B C)) Δ) (oD : ok (Γ0.length + 1) Dm = true) (vD : vlr b 1 (mz b 1 Γ0 (tAll B Dm)) ≤ va) (cu : SmT va vg B C Γ0 Δ1 Δ f t m1 m2) (hS : tyF f t (cxs Δ1 Γ0 (tAll B C)) Δ = .inr S) : mz b 1 (cxs Δ1 Γ0 (tAll B Dm)) S ≤ m1 := by
  obtain ⟨co, hk, hm21, g, ob, cd, hg, hb0, hb1, hr, hdc, hcd, hR, -⟩ := cu
  obtain ⟨oc0, oA⟩ := okc_low Δ1 he.1
  have o2 := cxd_okc oD Δ1 he.1
  have l0 := onz_len 0 (fun _ => 1 + 1) (2 + 1) (vlr b 1) Γ0
  have hω : ∀ j, j < (onz 0 (fun _ => 1 + 1) (2 + 1) (vlr b 1) Γ0).length → vw (onz 0 (fun _ => 1 + 1) (2 + 1) (vlr b 1) Γ0) j ≤ max 2 (fx1.getD (cch Γ0) 0) := fun j hj => Nat.le_trans (onz_chars (n1 := fun _ => 1 + 1) (tbs1 b).1 (tbs1 b).2.1 (tbs1 b).2.2.1 (tbs1 b).2.2.2.1 (tbs1 b).2.2.2.2.1 Γ0 oc0 hr j (by rw [l0] at hj; exact hj)) (Nat.le_max_right _ _)
  obtain ⟨v, hv, c2⟩ := val_any (tbs1 b) (A := tAll B C) (ω := onz 0 (fun _ => 1 + 1) (2 + 1) (vlr b 1) Γ0) (y := max 2 (fx1.getD (cch Γ0) 0)) (by rw [l0]; exact oA) hk (Nat.le_trans (by decide) (Nat.le_max_left 2 _)) hω
  unfold smR at hR
  have R1 := List.all_eq_true.mp hR v hv
  clear hR hv
  generalize max 2 (fx1.getD (cch Γ0) 0) = x at *
  have lk := lstX_ok (X := fx1) (y := max x va)
  generalize lstX fx1 (max x va) = c0 at *
  rw [Bool.and_eq_true, Bool.and_eq_true] at R1
  obtain ⟨n1', n2', n3'⟩ := R1
  have n1' := Nat.le_of_ble_eq_true n1'
  have n2' := Nat.le_of_ble_eq_true n2'
  have lk := lk (by omega)
  have h0' : ∀ j, j < (tAll B Dm :: Γ0).length → vw (onz 0 (fun _ => 1 + 1) (2 + 1) (vlr b 1) (tAll B Dm :: Γ0)) j ≤ fx1.getD c0 0 := by
    intro j hj
    show vw ((vlr b 1) (nz 0 (fun _ => 1 + 1) (2 + 1) (vlr b 1) (onz 0 (fun _ => 1 + 1) (2 + 1) (vlr b 1) Γ0) (tAll B Dm)) :: onz 0 (fun _ => 1 + 1) (2 + 1) (vlr b 1) Γ0) j ≤ _
    rw [vw_cons, l0]
    by_cases e : j = Γ0.length
    · rw [if_pos e]
      exact Nat.le_trans vD (Nat.le_trans (Nat.le_max_right _ _) lk)
    · rw [if_neg e]
      rw [List.length_cons] at hj
      exact Nat.le_trans (hω j (by rw [l0]; omega)) (Nat.le_trans (Nat.le_max_left _ _) lk)
  have hw := onz_cx (tbs1 b) h0' Δ1 o2 (by omega)
  refine natB_le n3' (free_BF (vlr_mono b 1) (vlr_lip b 1) (tbs1 b) px1_ok (Nat.le_refl _) (Nat.le_refl _) (Zr_ok _) w he co hS hdc hcd n2' n1' (fun c => by have := hg c; omega) (fun q q1 q2 => zr_le q1 (by omega)) (Nat.le_trans (Nat.le_max_left _ _) (Nat.le_max_right _ _)) hw (fun A d o ht => Nat.le_trans (flv_lmx o ht (by omega)) (Nat.le_trans (Nat.le_max_left _ _) (Nat.le_max_right _ _))) ?_)
  refine BEk_gone (NC_rows b 1) ⟨?_, ?_⟩ (fun b hb => ?_) Δ1 (fun j hj => Nat.le_trans (hw j hj) (Nat.le_max_left _ _)) (fun b hb => ?_)
  · exact Nat.le_trans c2 (Nat.le_trans (Nat.le_max_right _ _) (Nat.le_max_right _ _))
  · exact Nat.le_trans (flv_lmx oA (Nat.le_refl _) hk) (Nat.le_max_left _ _)
  · exact (hb0 b hb).imp id (fun c => Nat.le_trans c (Nat.le_trans (Nat.le_max_right _ _) (Nat.le_max_right _ _)))
  · exact (hb1 b hb).imp id (fun c => Nat.le_trans c (Nat.le_trans (Nat.le_max_right _ _) (Nat.le_max_right _ _)))
theorem sm_goals (w : TWf f (cxs Δ1 Γ0 (tAll B C)).length (Δ.map (fun a => a.1)) t) (he : TE (cxs Δ1 Γ0 (tAll B C)) Δ) (oD : ok (Γ0.length + 1) Dm = true) (vD : gz Γ0 (tAll B Dm) ≤ vg) (cu : SmT va vg B C Γ0 Δ1 Δ f t m1 m2) (hS : tyF f t (cxs Δ1 Γ0 (tAll B C)) Δ = .inr S) : gz (cxs Δ1 Γ0 (tAll B Dm)) S ≤ m2 := by
  obtain ⟨co, hk, hm21, g, ob, cd, hg, hb0, hb1, hr, hdc, hcd, -, hR⟩ := cu
  obtain ⟨oc0, oA⟩ := okc_low Δ1 he.1
  have o2 := cxd_okc oD Δ1 he.1
  have l0 := onz_len 1 ngc 1 (fun x => x) Γ0
  have hω : ∀ j, j < (onz 1 ngc 1 (fun x => x) Γ0).length → vw (onz 1 ngc 1 (fun x => x) Γ0) j ≤ max 1 (fxq.getD (cch Γ0) 0) := fun j hj => Nat.le_trans (onz_chars (n1 := ngc) tbsq.1 tbsq.2.1 tbsq.2.2.1 tbsq.2.2.2.1 tbsq.2.2.2.2.1 Γ0 oc0 hr j (by rw [l0] at hj; exact hj)) (Nat.le_max_right _ _)
  obtain ⟨v, hv, c2⟩ := val_any tbsq (A := tAll B C) (ω := onz 1 ngc 1 (fun x => x) Γ0) (y := max 1 (fxq.getD (cch Γ0) 0)) (by rw [l0]; exact oA) hk (Nat.le_max_left 1 _) hω
  unfold smG at hR
  have R1 := List.all_eq_true.mp hR v hv
  clear hR hv
  generalize max 1 (fxq.getD (cch Γ0) 0) = x at *
  have lk := lstX_ok (X := fxq) (y := max x vg)
  generalize lstX fxq (max x vg) = c0 at *
  rw [Bool.and_eq_true, Bool.and_eq_true] at R1
  obtain ⟨n1', n2', n3'⟩ := R1
  have n1' := Nat.le_of_ble_eq_true n1'
  have n2' := Nat.le_of_ble_eq_true n2'
  have lk := lk (by omega)
  have h0' : ∀ j, j < (tAll B Dm :: Γ0).length → vw (onz 1 ngc 1 (fun x => x) (tAll B Dm :: Γ0)) j ≤ fxq.getD c0 0 := by
    intro j hj
    show vw ((fun x => x) (nz 1 ngc 1 (fun x => x) (onz 1 ngc 1 (fun x => x) Γ0) (tAll B Dm)) :: onz 1 ngc 1 (fun x => x) Γ0) j ≤ _
    rw [vw_cons, l0]
    by_cases e : j = Γ0.length
    · rw [if_pos e]
      exact Nat.le_trans vD (Nat.le_trans (Nat.le_max_right _ _) lk)
    · rw [if_neg e]
      rw [List.length_cons] at hj
      exact Nat.le_trans (hω j (by rw [l0]; omega)) (Nat.le_trans (Nat.le_max_left _ _) lk)
  have hw := onz_cx tbsq h0' Δ1 o2 (by omega)
  refine natB_le n3' (free_BF (fun y y' hy => hy) (fun y δ => Nat.le_refl _) tbsq pxq_ok (by decide) (by decide) (Zg_ok _) w he co hS hdc hcd n2' n1' (fun c => by have := hg c; omega) (fun q q1 q2 => zg_le q1 (by omega)) (Nat.le_trans (Nat.le_max_left _ _) (Nat.le_max_right _ _)) hw (fun A d o ht => Nat.le_trans (flv_lmx o ht (by omega)) (Nat.le_trans (Nat.le_max_left _ _) (Nat.le_max_right _ _))) ?_)
  refine BEk_gone NC_goals ⟨?_, ?_⟩ (fun b hb => ?_) Δ1 (fun j hj => Nat.le_trans (hw j hj) (Nat.le_max_left _ _)) (fun b hb => ?_)
  · exact Nat.le_trans c2 (Nat.le_trans (Nat.le_max_right _ _) (Nat.le_max_right _ _))
  · exact Nat.le_trans (flv_lmx oA (Nat.le_refl _) hk) (Nat.le_max_left _ _)
  · exact (hb0 b hb).imp id (fun c => Nat.le_trans c (Nat.le_trans (Nat.le_max_right _ _) (Nat.le_max_right _ _)))
  · exact (hb1 b hb).imp id (fun c => Nat.le_trans c (Nat.le_trans (Nat.le_max_right _ _) (Nat.le_max_right _ _)))
end PmUm
