/-! WHAT IS LEFT of contexts whose longest scheme is <P:Top>C: C holds a scheme with bound Top. -/
def RsE (f : Nat) (x y C : Ty) (Γ0 Δ1 : List Ty) (Δ : List (Nat × Ty × Nat)) : Prop := LFn f x y C Γ0 Δ1 Δ ∧ phf (fun _ => true) C = true ∧ ((ndk (cch Γ0) (cch Δ1) = true ∧ ¬ HKd 0 tTop C Γ0) ∨ memt [(10, 0, 22)] (tch C) (cch Γ0) (cch Δ1) = true ∨ (kdt C ≠ 1 ∧ kdt C ≠ 4 ∧ memt exV (tch C) (cch Γ0) (cch Δ1) = true))
def LeftF (f : Nat) (x y : Ty) (Γ : List Ty) (Δ : List (Nat × Ty × Nat)) : Prop := ∃ (Δ1 Γ0 : List Ty) (b : Ty), Γ = cxs Δ1 Γ0 b ∧ nsch b = false ∧ ((∀ a ∈ Γ0, nsch a = true ∨ tch a ≤ tch b) ∧ ∀ a ∈ Δ1, nsch a = true ∨ tch a ≤ tch b) ∧ ((∀ B C, b ≠ tAll B C) ∨ (∃ B C, b = tAll B C ∧ B ≠ tTop) ∨ ∃ (C : Ty), b = tAll tTop C ∧ RsE f x y C Γ0 Δ1 Δ)
def RESTe : Prop := ∀ (f : Nat) (x y : Ty) (Γ : List Ty) (Δ : List (Nat × Ty × Nat)), TWf f Γ.length (Δ.map (fun a => a.1)) x → TWf f Γ.length (Δ.map (fun a => a.1)) y → TE Γ Δ → NAt f x → NAt f y → noac Γ → (∀ a ∈ Δ, noal a.2.1 = true) → TNo f x → TNo f y → 3 ≤ mch x → 3 ≤ mch y → (mch x ≤ mch y → ¬ NOp f x) → (¬ mch x ≤ mch y → ¬ NOp f y) → 20 ≤ cch Γ → cch Γ ≤ 47 → cch Γ + dch Δ + (2 + (mch x + mch y)) ≤ 60 → NoG f x y Γ Δ → (¬ ((mch x ≤ mch y → CHo f x []) ∧ (¬ mch x ≤ mch y → CHo f y [])) ∨ LeftF f x y Γ Δ) → PRn f x y Γ Δ
theorem restd_of (R : RESTe) : RESTd := by
  intro f x y Γ Δ x1 x2 he y1 y2 hv hd' tx ty m3 n3 no1 no2 h20 h47 hb ng hL
  have rest := R f x y Γ Δ x1 x2 he y1 y2 hv hd' tx ty m3 n3 no1 no2 h20 h47 hb ng
  have nt : NtV Γ Δ f x 887 597 ∨ NtV Γ Δ f y 887 597 → PRn f x y Γ Δ := pair_ntv x1 x2 he y1 y2 hv hd' (by omega)
  rcases hL with h | ⟨Δ1, Γ0, b, e, nb, hs, h⟩
  · exact rest (Or.inl h)
  rcases h with h | h | ⟨C, eb, lf, h⟩
  · exact rest (Or.inr ⟨Δ1, Γ0, b, e, nb, hs, Or.inl h⟩)
  · exact rest (Or.inr ⟨Δ1, Γ0, b, e, nb, hs, Or.inr (Or.inl h)⟩)
  have out : RsE f x y C Γ0 Δ1 Δ → PRn f x y Γ Δ := fun r => rest (Or.inr ⟨Δ1, Γ0, b, e, nb, hs, Or.inr (Or.inr ⟨C, eb, r⟩)⟩)
  rcases h with ⟨hp, h⟩ | ⟨hp, h⟩ | ⟨nC, f0, nΔ, h8, k, hm⟩
  · exact out ⟨lf, hp, Or.inl h⟩
  · exact out ⟨lf, hp, Or.inr h⟩
  · have ho : ∀ b ∈ Γ0, nsch b = true ∨ (true = true ∧ tch b ≤ tch C + 5) := by
      have et : tch b = tch C + 5 := by rw [eb, tch_all, tch_top]; omega
      rw [et] at hs
      exact fun a ha => (hs.1 a ha).imp id (fun q => ⟨rfl, q⟩)
    subst eb
    subst e
    have hz : (tch C, cch Γ0, cch Δ1) ∈ tr9 := memt_mem k
    by_cases c : mch x ≤ mch y
    · exact nt (Or.inl (nat_r x1 he nΔ m3 (by omega) ((co_six x1).resolve_right (by omega)) h8 hz f0 ho (by omega) h20 h47))
    · exact nt (Or.inr (nat_r x2 he nΔ n3 (by omega) ((co_six x2).resolve_right (by omega)) h8 hz f0 ho (by omega) h20 h47))
