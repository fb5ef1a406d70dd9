/-! PAIRS OF TERMS, a scheme whose inner schemes are of another kind, the other binders short. -/
def ZK (Γ : List Ty) : Prop := ∃ h B C Γ0 Δ', Γ = cxs Δ' Γ0 (tAll B C) ∧ HKd h B C Γ0 ∧ cch Γ0 ≤ 10 ∧ (Δ' = [] ∨ ∃ W, Δ' = [W] ∧ tch W ≤ 3)
section PmUk
variable {h f : Nat} {B C x y : Ty} {Γ0 Γ Δ' : List Ty} {Δ : List (Nat × Ty × Nat)}
theorem hk_seven (b : Bool) (hc : okc (tAll B Dsm :: Γ0)) (k0 : cch Γ0 ≤ 10) : ∀ j, j < (tAll B Dsm :: Γ0).length → vw (onz 0 (fun _ => 1 + 1) (2 + 1) (vlr b 1) (tAll B Dsm :: Γ0)) j ≤ 7 := by
  intro j hj
  rw [List.length_cons] at hj
  have l1 := onz_len 0 (fun _ => 1 + 1) (2 + 1) (vlr b 1) Γ0
  show vw ((vlr b 1) (nz 0 (fun _ => 1 + 1) (2 + 1) (vlr b 1) (onz 0 (fun _ => 1 + 1) (2 + 1) (vlr b 1) Γ0) (tAll B Dsm)) :: onz 0 (fun _ => 1 + 1) (2 + 1) (vlr b 1) Γ0) j ≤ 7
  rw [vw_cons, l1]
  by_cases e : j = Γ0.length
  · rw [if_pos e]
    unfold Dsm
    rw [nz_all, nz_all, nz_top]
    cases b <;> decide
  · rw [if_neg e]
    have u := onz_chars (n1 := fun _ => 1 + 1) (tbs1 b).1 (tbs1 b).2.1 (tbs1 b).2.2.1 (tbs1 b).2.2.2.1 (tbs1 b).2.2.2.2.1 Γ0 hc.2 (by omega) j (by omega)
    refine Nat.le_trans u (Nat.le_trans (fxc_le (tbs1 b).2.1 (c := cch Γ0) (d := 10) k0 (by decide)) (by decide))
theorem zk_vals (H : HKd h B C Γ0) (k0 : cch Γ0 ≤ 10) (kd : Δ' = [] ∨ ∃ W, Δ' = [W] ∧ tch W ≤ 3) (hc : okc (cxs Δ' Γ0 (tAll B C))) : (∀ b j, j < (cxs Δ' Γ0 (tAll B Dsm)).length → vw (onz 0 (fun _ => 1 + 1) (2 + 1) (vlr b 1) (cxs Δ' Γ0 (tAll B Dsm))) j ≤ 8) ∧ ∀ j, j < (cxs Δ' Γ0 (tAll B Dsm)).length → vw (onz 1 ngc 1 (fun y => y) (cxs Δ' Γ0 (tAll B Dsm))) j ≤ 7 := by
  have hcD := cxd_okc (B := B) (C := C) (D := Dsm) (H.ov (e := 1) (Nat.le_refl 1)).1.1 Δ' hc
  rcases kd with rfl | ⟨W, rfl, kW⟩
  · exact ⟨fun b j hj => (hk_base b hcD (by omega) j hj).1, fun j hj => (hk_base true hcD (by omega) j hj).2⟩
  · exact ⟨fun b j hj => (hk_one b hcD (by omega) kW (hk_seven b hcD.2 k0) j hj).1, fun j hj => (hk_one true hcD (by omega) kW (hk_seven true hcD.2 k0) j hj).2⟩
theorem pair_hk (x1 : TWf f Γ.length (Δ.map (fun a => a.1)) x) (x2 : TWf f Γ.length (Δ.map (fun a => a.1)) y) (he : TE Γ Δ) (y1 : NAt f x) (y2 : NAt f y) (hv : noac Γ) (hd' : ∀ a ∈ Δ, noal a.2.1 = true) (hb : cch Γ ≤ 56) (zk : ZK Γ) : PRn f x y Γ Δ := by
  intro S T hS hT
  obtain ⟨⟨tb, lS, lT⟩, q⟩ := pair_two x1 x2 he y1 y2 hv hd' hS hT
  obtain ⟨h, B, C, Γ0, Δ', e, H, k0, kd⟩ := zk
  subst e
  obtain ⟨v1, v2⟩ := zk_vals H k0 kd he.1
  refine ⟨LJ_hk H tb hb lS lT v1 v2, fun hf => ?_⟩
  obtain ⟨tb2, l2⟩ := q hf
  exact LB_hk H tb2 hb lT l2 v1
end PmUk
