/-! ONE BINDER, its bound replaced: any two terms. -/
def One9 (Γ : List Ty) : Prop := ∃ b : Ty, Γ = [b] ∧ OVb 1 b Dr9 []
def RESTv9 : Prop := ∀ (f : Nat) (x y : Ty) (Γ : List Ty) (Δ : List (Nat × Ty × Nat)), TWf f Γ.length (Δ.map (fun a => a.1)) x → TWf f Γ.length (Δ.map (fun a => a.1)) y → TE Γ Δ → NAt f x → NAt f y → noac Γ → (∀ a ∈ Δ, noal a.2.1 = true) → TNo f x → TNo f y → 3 ≤ mch x → 3 ≤ mch y → (mch x ≤ mch y → ¬ NOp f x) → (¬ mch x ≤ mch y → ¬ NOp f y) → 20 ≤ cch Γ → cch Γ ≤ 47 → cch Γ + dch Δ + (2 + (mch x + mch y)) ≤ 60 → NoO f x y Γ Δ → ¬ AzT f x Γ Δ → ¬ AzT f y Γ Δ → ¬ AzB f x Γ Δ → ¬ AzB f y Γ Δ → ¬ AzC f x Γ Δ → ¬ AzC f y Γ Δ → ¬ AzI f x Γ Δ → ¬ AzI f y Γ Δ → ¬ AzF f x Γ Δ → ¬ AzF f y Γ Δ → ¬ AzG f x Γ Δ → ¬ AzG f y Γ Δ → ¬ AzH f x Γ Δ → ¬ AzH f y Γ Δ → ¬ PrS f x y Γ Δ → ¬ AzK f x Γ Δ → ¬ AzK f y Γ Δ → ¬ AzL f x Γ Δ → ¬ AzL f y Γ Δ → ¬ AzM f x Γ Δ → ¬ AzM f y Γ Δ → ¬ PrG f x y Γ Δ → ¬ AzN f x Γ Δ → ¬ AzN f y Γ Δ → ¬ One9 Γ → (¬ ((mch x ≤ mch y → CHo f x []) ∧ (¬ mch x ≤ mch y → CHo f y [])) ∨ LeftJ f x y Γ Δ) → PRn f x y Γ Δ
theorem restu9_of (R : RESTv9) : RESTu9 := by
  intro f x y Γ Δ x1 x2 he y1 y2 hv hd' tx ty m3 n3 no1 no2 h20 h47 hb ng ax ay bx bz cx cy dx dy ex ey gx gy ix iy jx kx ky lx ly mx my px qx qy hL
  by_cases a : One9 Γ
  · obtain ⟨b, e, ov⟩ := a
    subst e
    exact pair_one ov x1 x2 he y1 y2 hv hd' (by omega)
  exact R f x y Γ Δ x1 x2 he y1 y2 hv hd' tx ty m3 n3 no1 no2 h20 h47 hb ng ax ay bx bz cx cy dx dy ex ey gx gy ix iy jx kx ky lx ly mx my px qx qy a hL
theorem pairn_ov (R : RESTv9) : PAIRn := pairn_ou (restu9_of R)
