/-! THE BOUNDS OF A CONTEXT THAT IS CUT, heads counted exactly. -/
section PmS9
variable {t0 s2 X7 EA p pb EB p2 y : Nat} {n1 h : Nat → Nat} {B C : Ty} {Γ0 : List Ty}
theorem BEh_onz (hn : NC t0 n1 s2 h) (h7 : y ≤ X7) : ∀ {Γ : List Ty}, (∀ j, j < Γ.length → vw (onz t0 n1 s2 h Γ) j ≤ y) → (∀ b ∈ Γ, nsch b = true ∨ (y ≤ EB ∧ flv b ≤ p2)) → BEh t0 n1 s2 h X7 EA p pb EB p2 Γ (onz t0 n1 s2 h Γ)
  | [], _, _ => trivial
  | b :: Γ, hv, hp => by
    have l1 := onz_len t0 n1 s2 h Γ
    have q := hv Γ.length (by rw [List.length_cons]; omega)
    have e : vw (onz t0 n1 s2 h (b :: Γ)) Γ.length = h (nz t0 n1 s2 h (onz t0 n1 s2 h Γ) b) := by
      show vw (h (nz t0 n1 s2 h (onz t0 n1 s2 h Γ) b) :: onz t0 n1 s2 h Γ) Γ.length = _
      rw [vw_cons, l1, if_pos rfl]
    rw [e] at q
    have q := Nat.le_trans (hn.2.2.1 _) q
    refine ⟨Or.inl ⟨Nat.le_trans q h7, (hp b (List.mem_cons_self ..)).imp id (fun c => ⟨Nat.le_trans q c.1, c.2⟩)⟩, BEh_onz hn h7 (fun j hj => ?_) (fun c hc => hp c (List.mem_cons_of_mem _ hc))⟩
    have q2 := hv j (by rw [List.length_cons]; omega)
    have e2 : vw (onz t0 n1 s2 h (b :: Γ)) j = vw (onz t0 n1 s2 h Γ) j := by
      show vw (h (nz t0 n1 s2 h (onz t0 n1 s2 h Γ) b) :: onz t0 n1 s2 h Γ) j = _
      rw [vw_cons, l1, if_neg (by omega)]
    rw [e2] at q2
    exact q2
theorem BEh_cut (hn : NC t0 n1 s2 h) (h7 : y ≤ X7) {β' : Ty} (hA : nz t0 n1 s2 h (onz t0 n1 s2 h Γ0) (tAll B C) ≤ EA ∧ flv (tAll B C) ≤ pb ∧ ∀ z, nz t0 n1 s2 h (hzx h z (nz t0 n1 s2 h (onz t0 n1 s2 h Γ0) B) :: onz t0 n1 s2 h Γ0) C ≤ EA + p * z) (hp0 : ∀ b ∈ Γ0, nsch b = true ∨ (y ≤ EB ∧ flv b ≤ p2)) : ∀ (Δ1 : List Ty), (∀ j, j < (cxs Δ1 Γ0 β').length → vw (onz t0 n1 s2 h (cxs Δ1 Γ0 β')) j ≤ y) → (∀ b ∈ Δ1, nsch b = true ∨ (y ≤ EB ∧ flv b ≤ p2)) → BEh t0 n1 s2 h X7 EA p pb EB p2 (cxs Δ1 Γ0 (tAll B C)) (onz t0 n1 s2 h (cxs Δ1 Γ0 β'))
  | [], hv, _ => by
    refine ⟨Or.inr ⟨B, C, rfl, hA.1, hA.2.1, hA.2.2⟩, BEh_onz hn h7 (fun j hj => ?_) hp0⟩
    have l1 := onz_len t0 n1 s2 h Γ0
    have q2 := hv j (by rw [cxs_len]; omega)
    have e2 : vw (onz t0 n1 s2 h (cxs [] Γ0 β')) j = vw (onz t0 n1 s2 h Γ0) j := by
      show vw (h (nz t0 n1 s2 h (onz t0 n1 s2 h Γ0) β') :: onz t0 n1 s2 h Γ0) j = _
      rw [vw_cons, l1, if_neg (by omega)]
    rw [e2] at q2
    exact q2
  | a :: Δ1, hv, hp => by
    have l1 := onz_len t0 n1 s2 h (cxs Δ1 Γ0 β')
    have q := hv (cxs Δ1 Γ0 β').length (by show _ < (a :: cxs Δ1 Γ0 β').length; rw [List.length_cons]; omega)
    have e : vw (onz t0 n1 s2 h (cxs (a :: Δ1) Γ0 β')) (cxs Δ1 Γ0 β').length = h (nz t0 n1 s2 h (onz t0 n1 s2 h (cxs Δ1 Γ0 β')) a) := by
      show vw (h (nz t0 n1 s2 h (onz t0 n1 s2 h (cxs Δ1 Γ0 β')) a) :: onz t0 n1 s2 h (cxs Δ1 Γ0 β')) (cxs Δ1 Γ0 β').length = _
      rw [vw_cons, l1, if_pos rfl]
    rw [e] at q
    have q := Nat.le_trans (hn.2.2.1 _) q
    refine ⟨Or.inl ⟨Nat.le_trans q h7, (hp a (List.mem_cons_self ..)).imp id (fun c => ⟨Nat.le_trans q c.1, c.2⟩)⟩, BEh_cut hn h7 hA hp0 Δ1 (fun j hj => ?_) (fun c hc => hp c (List.mem_cons_of_mem _ hc))⟩
    have q2 := hv j (by show j < (a :: cxs Δ1 Γ0 β').length; rw [List.length_cons]; omega)
    have e2 : vw (onz t0 n1 s2 h (cxs (a :: Δ1) Γ0 β')) j = vw (onz t0 n1 s2 h (cxs Δ1 Γ0 β')) j := by
      show vw (h (nz t0 n1 s2 h (onz t0 n1 s2 h (cxs Δ1 Γ0 β')) a) :: onz t0 n1 s2 h (cxs Δ1 Γ0 β')) j = _
      rw [vw_cons, l1, if_neg (by omega)]
    rw [e2] at q2
    exact q2
end PmS9
