/-! A TERM IN A CONTEXT THAT IS CUT: rows and goals; pairs. -/
theorem okc_low {Γ0 : List Ty} {β : Ty} : ∀ (Δ : List Ty), okc (cxs Δ Γ0 β) → okc Γ0 ∧ ok Γ0.length β = true
  | [], h => ⟨h.2, h.1⟩
  | _ :: Δ, h => okc_low Δ h.2
