/-! WHAT IS LEFT, without choices under operations in contexts of short schemes. -/
/-- C a record, the bound ahead <Q:Top>{} -/
def RsR (x y C : Ty) (Γ0 Δ1 : List Ty) (Δ : List (Nat × Ty × Nat)) : Prop := Δ ≠ [] ∧ 8 ≤ hd C ∧ memt [(22, 11, 0), (23, 11, 0), (27, 11, 0)] (tch C) (cch Γ0) (cch Δ1) = true ∧ (mch x < 6 ∨ mch y < 6)
def RsD (f : Nat) (x y C : Ty) (Γ0 Δ1 : List Ty) (Δ : List (Nat × Ty × Nat)) : Prop := LFn f x y C Γ0 Δ1 Δ ∧ ((phf (fun _ => true) C = true ∧ ndk (cch Γ0) (cch Δ1) = true ∧ ¬ HKd 0 tTop C Γ0) ∨ (phf (fun _ => true) C = true ∧ (memt [(10, 0, 22)] (tch C) (cch Γ0) (cch Δ1) = true ∨ (kdt C ≠ 1 ∧ kdt C ≠ 4 ∧ memt exV (tch C) (cch Γ0) (cch Δ1) = true))) ∨ (noh 0 C = true ∧ (∃ b ∈ Γ0, noh 0 b = false) ∧ RsR x y C Γ0 Δ1 Δ))
def LeftE (f : Nat) (x y : Ty) (Γ : List Ty) (Δ : List (Nat × Ty × Nat)) : Prop := ∃ (Δ1 Γ0 : List Ty) (b : Ty), Γ = cxs Δ1 Γ0 b ∧ nsch b = false ∧ ((∀ a ∈ Γ0, nsch a = true ∨ tch a ≤ tch b) ∧ ∀ a ∈ Δ1, nsch a = true ∨ tch a ≤ tch b) ∧ ((∀ B C, b ≠ tAll B C) ∨ (∃ B C, b = tAll B C ∧ B ≠ tTop) ∨ ∃ (C : Ty), b = tAll tTop C ∧ RsD f x y C Γ0 Δ1 Δ)
def RESTd : Prop := ∀ (f : Nat) (x y : Ty) (Γ : List Ty) (Δ : List (Nat × Ty × Nat)), TWf f Γ.length (Δ.map (fun a => a.1)) x → TWf f Γ.length (Δ.map (fun a => a.1)) y → TE Γ Δ → NAt f x → NAt f y → noac Γ → (∀ a ∈ Δ, noal a.2.1 = true) → TNo f x → TNo f y → 3 ≤ mch x → 3 ≤ mch y → (mch x ≤ mch y → ¬ NOp f x) → (¬ mch x ≤ mch y → ¬ NOp f y) → 20 ≤ cch Γ → cch Γ ≤ 47 → cch Γ + dch Δ + (2 + (mch x + mch y)) ≤ 60 → NoG f x y Γ Δ → (¬ ((mch x ≤ mch y → CHo f x []) ∧ (¬ mch x ≤ mch y → CHo f y [])) ∨ LeftE f x y Γ Δ) → PRn f x y Γ Δ
theorem restc_of (R : RESTd) : RESTc := by
  intro f x y Γ Δ x1 x2 he y1 y2 hv hd' tx ty m3 n3 no1 no2 h20 h47 hb ng hL
  have rest := R f x y Γ Δ x1 x2 he y1 y2 hv hd' tx ty m3 n3 no1 no2 h20 h47 hb ng
  have nt : NtV Γ Δ f x 887 597 ∨ NtV Γ Δ f y 887 597 → PRn f x y Γ Δ := pair_ntv x1 x2 he y1 y2 hv hd' (by omega)
  by_cases ch : (mch x ≤ mch y → CHo f x []) ∧ (¬ mch x ≤ mch y → CHo f y [])
  rotate_left
  · exact rest (Or.inl ch)
  rcases hL with h | ⟨Δ1, Γ0, b, e, nb, hs, h⟩
  · exact absurd ch h
  rcases h with h | h | ⟨C, eb, lf, h⟩
  · exact rest (Or.inr ⟨Δ1, Γ0, b, e, nb, hs, Or.inl h⟩)
  · exact rest (Or.inr ⟨Δ1, Γ0, b, e, nb, hs, Or.inr (Or.inl h)⟩)
  have out : RsD f x y C Γ0 Δ1 Δ → PRn f x y Γ Δ := fun r => rest (Or.inr ⟨Δ1, Γ0, b, e, nb, hs, Or.inr (Or.inr ⟨C, eb, r⟩)⟩)
  have ho : (∀ b ∈ Γ0, nsch b = true ∨ (true = true ∧ tch b ≤ tch C + 5)) ∧ ∀ b ∈ Δ1, nsch b = true ∨ (true = true ∧ tch b ≤ tch C + 5) := by
    have et : tch b = tch C + 5 := by rw [eb, tch_all, tch_top]; omega
    rw [et] at hs
    exact ⟨fun a ha => (hs.1 a ha).imp id (fun q => ⟨rfl, q⟩), fun a ha => (hs.2 a ha).imp id (fun q => ⟨rfl, q⟩)⟩
  have key : Δ ≠ [] → memt tk2 (tch C) (cch Γ0) (cch Δ1) = true → (∃ s, (s = x ∨ s = y) ∧ (mch s ≤ mch x ∧ mch s ≤ mch y) ∧ 6 ≤ mch s ∧ ¬ COk f s 0) → PRn f x y Γ Δ := by
    rintro nΔ k ⟨s, -, ⟨l1, l2⟩, m6, -⟩
    subst eb
    subst e
    by_cases c : mch x ≤ mch y
    · exact nt (Or.inl (nat_p x1 he nΔ (by omega) (ch.1 c) k ho (by omega) h20 h47))
    · exact nt (Or.inr (nat_p x2 he nΔ (by omega) (ch.2 c) k ho (by omega) h20 h47))
  rcases h with h | h | ⟨nC, ⟨-, nΔ, -, k, h⟩ | ⟨f0, nΔ, h | ⟨k, h⟩⟩⟩
  · exact out ⟨lf, Or.inl h⟩
  · exact out ⟨lf, Or.inr (Or.inl h)⟩
  · exact key nΔ k h
  · exact out ⟨lf, Or.inr (Or.inr ⟨nC, f0, nΔ, h⟩)⟩
  · refine key nΔ ?_ h
    have et := List.mem_singleton.mp (memt_mem k)
    rw [Prod.mk.injEq, Prod.mk.injEq] at et
    rw [et.1, et.2.1, et.2.2]
    decide
