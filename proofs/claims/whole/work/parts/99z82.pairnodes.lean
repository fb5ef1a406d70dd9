/-! ANY TWO TERMS, a bound replaced by a small one: by the nodes of the types. -/
section PmIq
variable {f : Nat} {x y β β' : Ty} {Γ0 Δ1 : List Ty} {Δ : List (Nat × Ty × Nat)}
theorem pair_nodesb (ov : OVb 1 β β' Γ0) (x1 : TWf f (cxs Δ1 Γ0 β).length (Δ.map (fun a => a.1)) x) (x2 : TWf f (cxs Δ1 Γ0 β).length (Δ.map (fun a => a.1)) y) (he : TE (cxs Δ1 Γ0 β) Δ) (y1 : NAt f x) (y2 : NAt f y) (hv : noac (cxs Δ1 Γ0 β)) (hd' : ∀ a ∈ Δ, noal a.2.1 = true) (hb : cch (cxs Δ1 Γ0 β) ≤ 56) (hw : ∀ b j, j < (cxs Δ1 Γ0 β').length → vw (onz 0 (fun _ => 1 + 1) (2 + 1) (vlr b 1) (cxs Δ1 Γ0 β')) j ≤ 10) (hq : ∀ j, j < (cxs Δ1 Γ0 β').length → vw (onz 1 ngc 1 (fun y => y) (cxs Δ1 Γ0 β')) j ≤ 7) : PRn f x y (cxs Δ1 Γ0 β) Δ := by
  have le := cxs_ll (Γ0 := Γ0) (Δ := Δ1) β' β
  have z1 : ∀ (b : Bool) (S : Ty), ok (cxs Δ1 Γ0 β).length S = true → (flat S).length ≤ 16 → mz b 1 (cxs Δ1 Γ0 β') S ≤ 428 := fun b S o l => mz_nodes b fnv_n1 (by decide) (by rw [le]; exact o) l (hw b)
  have z2 : ∀ (S : Ty), ok (cxs Δ1 Γ0 β).length S = true → (flat S).length ≤ 16 → gz (cxs Δ1 Γ0 β') S ≤ 287 := fun S o l => gz_nodes fnv_nq (by decide) (by rw [le]; exact o) l hq
  intro S T hS hT
  obtain ⟨⟨tb, lS, lT⟩, q⟩ := pair_two x1 x2 he y1 y2 hv hd' hS hT
  have oS : ok (cxs Δ1 Γ0 β).length S = true := tb.1.2.1
  have oT : ok (cxs Δ1 Γ0 β).length T = true := tb.1.2.2
  refine ⟨LJ_opb ov (Nat.le_refl 1) tb hb lS lT ?_ ?_, fun hf => ?_⟩
  · have a1 := z1 true S oS lS
    have a2 := z1 false T oT lT
    omega
  · have a1 := z2 S oS lS
    have a2 := z2 T oT lT
    omega
  · obtain ⟨tb2, l2⟩ := q hf
    refine LB_opb ov true true tb2 hb lT l2 ?_
    have a1 := z1 true T oT lT
    exact Nat.le_trans (Nat.add_le_add a1 (z1 true _ tb2.1.2.2 l2)) (by decide)
/-- one binder -/
theorem pair_one (ov : OVb 1 β Dr9 []) (x1 : TWf f [β].length (Δ.map (fun a => a.1)) x) (x2 : TWf f [β].length (Δ.map (fun a => a.1)) y) (he : TE [β] Δ) (y1 : NAt f x) (y2 : NAt f y) (hv : noac [β]) (hd' : ∀ a ∈ Δ, noal a.2.1 = true) (hb : cch [β] ≤ 56) : PRn f x y [β] Δ := by
  refine pair_nodesb (Γ0 := []) (Δ1 := []) (β := β) (β' := Dr9) ov x1 x2 he y1 y2 hv hd' hb (fun b j hj => ?_) (fun j hj => ?_)
  · have e : j = 0 := by
      have : j < 1 := hj
      omega
    subst e
    show vw [vlr b 1 (mz b 1 [] Dr9)] 0 ≤ 10
    rw [Dr9_mz]
    cases b <;> decide
  · have e : j = 0 := by
      have : j < 1 := hj
      omega
    subst e
    show vw [gz [] Dr9] 0 ≤ 7
    rw [Dr9_gz]
    decide
end PmIq
