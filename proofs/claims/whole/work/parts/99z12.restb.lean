/-! WHAT IS LEFT, with short schemes and schemes ahead by their short lists. -/
def RsB (f : Nat) (x y C : Ty) (Γ0 Δ1 : List Ty) (Δ : List (Nat × Ty × Nat)) : Prop := LFn f x y C Γ0 Δ1 Δ ∧ ((phf (fun _ => true) C = true ∧ ndk (cch Γ0) (cch Δ1) = true ∧ ¬ HKd 0 tTop C Γ0) ∨ (phf (fun _ => true) C = true ∧ (memt [(10, 0, 22)] (tch C) (cch Γ0) (cch Δ1) = true ∨ (kdt C ≠ 1 ∧ kdt C ≠ 4 ∧ memt exV (tch C) (cch Γ0) (cch Δ1) = true))) ∨ (noh 0 C = true ∧ (((∀ b ∈ Γ0, noh 0 b = true) ∧ RsS f x y C Γ0 Δ1 Δ) ∨ ((∃ b ∈ Γ0, noh 0 b = false) ∧ RsF f x y C Γ0 Δ1 Δ))) ∨ (noh 0 C = true ∧ Δ = [] ∧ 18 ≤ tch C ∧ ¬ (NHt 0 f x ∧ NHt 0 f y) ∧ ¬ (SMd C Γ0 Δ1 Δ f x ∧ SMd C Γ0 Δ1 Δ f y)))
def LeftB (f : Nat) (x y : Ty) (Γ : List Ty) (Δ : List (Nat × Ty × Nat)) : Prop := ∃ (Δ1 Γ0 : List Ty) (b : Ty), Γ = cxs Δ1 Γ0 b ∧ nsch b = false ∧ ((∀ a ∈ Γ0, nsch a = true ∨ tch a ≤ tch b) ∧ ∀ a ∈ Δ1, nsch a = true ∨ tch a ≤ tch b) ∧ ((∀ B C, b ≠ tAll B C) ∨ (∃ B C, b = tAll B C ∧ B ≠ tTop) ∨ ∃ (C : Ty), b = tAll tTop C ∧ RsB f x y C Γ0 Δ1 Δ)
def RESTb : Prop := ∀ (f : Nat) (x y : Ty) (Γ : List Ty) (Δ : List (Nat × Ty × Nat)), TWf f Γ.length (Δ.map (fun a => a.1)) x → TWf f Γ.length (Δ.map (fun a => a.1)) y → TE Γ Δ → NAt f x → NAt f y → noac Γ → (∀ a ∈ Δ, noal a.2.1 = true) → TNo f x → TNo f y → 3 ≤ mch x → 3 ≤ mch y → (mch x ≤ mch y → ¬ NOp f x) → (¬ mch x ≤ mch y → ¬ NOp f y) → 20 ≤ cch Γ → cch Γ ≤ 47 → cch Γ + dch Δ + (2 + (mch x + mch y)) ≤ 60 → NoG f x y Γ Δ → (¬ ((mch x ≤ mch y → CHo f x []) ∧ (¬ mch x ≤ mch y → CHo f y [])) ∨ LeftB f x y Γ Δ) → PRn f x y Γ Δ
theorem restm_of (R : RESTb) : RESTm := by
  intro f x y Γ Δ x1 x2 he y1 y2 hv hd' tx ty m3 n3 no1 no2 h20 h47 hb ng hL
  have rest := R f x y Γ Δ x1 x2 he y1 y2 hv hd' tx ty m3 n3 no1 no2 h20 h47 hb ng
  by_cases ch : (mch x ≤ mch y → CHo f x []) ∧ (¬ mch x ≤ mch y → CHo f y [])
  rotate_left
  · exact rest (Or.inl ch)
  rcases hL with h | ⟨Δ1, Γ0, b, e, nb, hs, h⟩
  · exact absurd ch h
  rcases h with h | h | ⟨C, o, eb, -, lf, h⟩
  · exact rest (Or.inr ⟨Δ1, Γ0, b, e, nb, hs, Or.inl h⟩)
  · exact rest (Or.inr ⟨Δ1, Γ0, b, e, nb, hs, Or.inr (Or.inl h)⟩)
  have out : RsB f x y C Γ0 Δ1 Δ → PRn f x y Γ Δ := fun r => rest (Or.inr ⟨Δ1, Γ0, b, e, nb, hs, Or.inr (Or.inr ⟨C, eb, r⟩)⟩)
  rcases h with h | h | ⟨-, nC, h⟩ | h
  · exact out ⟨lf, Or.inl h⟩
  · exact out ⟨lf, Or.inr (Or.inl h)⟩
  · have ho : (∀ b ∈ Γ0, nsch b = true ∨ (true = true ∧ tch b ≤ tch C + 5)) ∧ ∀ b ∈ Δ1, nsch b = true ∨ (true = true ∧ tch b ≤ tch C + 5) := by
      have et : tch b = tch C + 5 := by rw [eb, tch_all, tch_top]; omega
      rw [et] at hs
      exact ⟨fun a ha => (hs.1 a ha).imp id (fun q => ⟨rfl, q⟩), fun a ha => (hs.2 a ha).imp id (fun q => ⟨rfl, q⟩)⟩
    subst eb
    subst e
    by_cases f0 : ∃ b ∈ Γ0, noh 0 b = false
    · rcases pair_F nC f0 x1 x2 he y1 y2 hv hd' tx ty ho.1 m3 n3 hb h20 h47 lf with q | q
      · exact q
      · exact out ⟨lf, Or.inr (Or.inr (Or.inl ⟨nC, Or.inr ⟨f0, q⟩⟩))⟩
    · have n0 : ∀ b ∈ Γ0, noh 0 b = true := by
        intro b hb1
        cases h : noh 0 b with
        | true => rfl
        | false => exact absurd ⟨b, hb1, h⟩ f0
      rcases pair_K9 nC n0 x1 x2 he y1 y2 hv hd' tx ty ch.1 ch.2 ho m3 n3 hb h20 h47 (h.resolve_left f0) lf with q | q
      · exact q
      · exact out ⟨lf, Or.inr (Or.inr (Or.inl ⟨nC, Or.inl ⟨n0, q⟩⟩))⟩
  · exact out ⟨lf, Or.inr (Or.inr (Or.inr h))⟩
