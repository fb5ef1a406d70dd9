/-! NO NAMES AROUND: any bound that holds schemes, contexts of 30 characters and more. -/
def B2z (kb q1 q2 : Nat) : Bool := l1z k2R fr1 fg1 fx1 1 kb q1 q2 (o1z kb q1 q2) && l1z k2G frq fgq fxq 0 kb q1 q2 (o1z kb q1 q2)
section PmHi
variable {f : Nat} {t b : Ty} {Γ0 Δ1 : List Ty} {Δ : List (Nat × Ty × Nat)}
theorem nat_b2 (w : TWf f (cxs Δ1 Γ0 b).length (Δ.map (fun a => a.1)) t) (he : TE (cxs Δ1 Γ0 b) Δ) (nΔ : Δ = []) (ch : CHo f t []) (hs : (∀ a ∈ Γ0, nsch a = true ∨ tch a ≤ tch b) ∧ ∀ a ∈ Δ1, nsch a = true ∨ tch a ≤ tch b) (hz : B2z (tch b) (cch Γ0) (cch Δ1) = true) (m8 : 8 ≤ mch t) (h30 : 30 ≤ cch (cxs Δ1 Γ0 b)) (h47 : cch (cxs Δ1 Γ0 b) ≤ 47) (q38 : cch Δ1 ≤ 38) (hb : cch (cxs Δ1 Γ0 b) + dch Δ + 2 * mch t ≤ 58) : NtV (cxs Δ1 Γ0 b) Δ f t 887 597 := by
  unfold B2z at hz
  rw [Bool.and_eq_true] at hz
  have hΔ : (true = true ∧ Δ = []) ∨ (true = false ∧ Δ ≠ []) := Or.inl ⟨rfl, nΔ⟩
  by_cases c32 : cch (cxs Δ1 Γ0 b) < 32
  · exact nat_bb (un := true) w he hΔ (Or.inl rfl) ch hs hz.1 hz.2 k2R_30_8 k2G_30_8 h30 c32 m8 (by omega) (by omega) h47 q38 hb
  by_cases c36 : cch (cxs Δ1 Γ0 b) < 36
  · exact nat_bb (un := true) w he hΔ (Or.inl rfl) ch hs hz.1 hz.2 k2R_32_8 k2G_32_8 (by omega) c36 m8 (by omega) (by omega) h47 q38 hb
  exact nat_bb (un := true) w he hΔ (Or.inl rfl) ch hs hz.1 hz.2 k2R_36_8 k2G_36_8 (by omega) (by omega) m8 (by omega) (by omega) h47 q38 hb
end PmHi
def AzC (f : Nat) (t : Ty) (Γ : List Ty) (Δ : List (Nat × Ty × Nat)) : Prop := Δ = [] ∧ 30 ≤ cch Γ ∧ ∃ (Δ1 Γ0 : List Ty) (b : Ty), Γ = cxs Δ1 Γ0 b ∧ ((∀ a ∈ Γ0, nsch a = true ∨ tch a ≤ tch b) ∧ ∀ a ∈ Δ1, nsch a = true ∨ tch a ≤ tch b) ∧ CHo (pee f t).1 (pee f t).2 [] ∧ B2z (tch b) (cch Γ0) (cch Δ1) = true ∧ 8 ≤ mch (pee f t).2 ∧ cch Δ1 ≤ 38 ∧ cch Γ + dch Δ + 2 * mch (pee f t).2 ≤ 58
theorem AzC.v {f : Nat} {t : Ty} {Γ : List Ty} {Δ : List (Nat × Ty × Nat)} (w : TWf f Γ.length (Δ.map (fun a => a.1)) t) (he : TE Γ Δ) (h47 : cch Γ ≤ 47) (h : AzC f t Γ Δ) : NtV Γ Δ f t 887 597 := by
  obtain ⟨nΔ, h30, Δ1, Γ0, b, e, hs, ch, hz, m3, q38, hb⟩ := h
  refine NtV_pee f t w he ?_
  have w' := (pee_ok f _ _ t w).1.1
  subst e
  exact nat_b2 w' he nΔ ch hs hz m3 h30 h47 q38 hb
def RESTl : Prop := ∀ (f : Nat) (x y : Ty) (Γ : List Ty) (Δ : List (Nat × Ty × Nat)), TWf f Γ.length (Δ.map (fun a => a.1)) x → TWf f Γ.length (Δ.map (fun a => a.1)) y → TE Γ Δ → NAt f x → NAt f y → noac Γ → (∀ a ∈ Δ, noal a.2.1 = true) → TNo f x → TNo f y → 3 ≤ mch x → 3 ≤ mch y → (mch x ≤ mch y → ¬ NOp f x) → (¬ mch x ≤ mch y → ¬ NOp f y) → 20 ≤ cch Γ → cch Γ ≤ 47 → cch Γ + dch Δ + (2 + (mch x + mch y)) ≤ 60 → NoO f x y Γ Δ → ¬ AzT f x Γ Δ → ¬ AzT f y Γ Δ → ¬ AzB f x Γ Δ → ¬ AzB f y Γ Δ → ¬ AzC f x Γ Δ → ¬ AzC f y Γ Δ → (¬ ((mch x ≤ mch y → CHo f x []) ∧ (¬ mch x ≤ mch y → CHo f y [])) ∨ LeftJ f x y Γ Δ) → PRn f x y Γ Δ
theorem restk_of (R : RESTl) : RESTk := by
  intro f x y Γ Δ x1 x2 he y1 y2 hv hd' tx ty m3 n3 no1 no2 h20 h47 hb ng ax ay bx bz hL
  by_cases a : AzC f x Γ Δ
  · exact pair_ntv x1 x2 he y1 y2 hv hd' (by omega) (Or.inl (a.v x1 he h47))
  by_cases b : AzC f y Γ Δ
  · exact pair_ntv x1 x2 he y1 y2 hv hd' (by omega) (Or.inr (b.v x2 he h47))
  exact R f x y Γ Δ x1 x2 he y1 y2 hv hd' tx ty m3 n3 no1 no2 h20 h47 hb ng ax ay bx bz a b hL
theorem pairn_ol (R : RESTl) : PAIRn := pairn_ok (restk_of R)
