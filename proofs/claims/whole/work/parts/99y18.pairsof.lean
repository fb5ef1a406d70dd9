/-! ALL PAIRS WITHOUT ALIASES, but for what is left. -/
theorem long_one : ∀ (Γ : List Ty), (∃ b ∈ Γ, nsch b = false) → ∃ (Δ1 Γ0 : List Ty) (b : Ty), Γ = cxs Δ1 Γ0 b ∧ nsch b = false ∧ (∀ a ∈ Γ0, nsch a = true ∨ tch a ≤ tch b) ∧ ∀ a ∈ Δ1, nsch a = true ∨ tch a ≤ tch b
  | [], h => by
    obtain ⟨b, hb, -⟩ := h
    cases hb
  | a :: Γ, h => by
    by_cases r : ∃ b ∈ Γ, nsch b = false
    · obtain ⟨Δ1, Γ0, b, e, n, h0, h1⟩ := long_one Γ r
      by_cases c : nsch a = true ∨ tch a ≤ tch b
      · refine ⟨a :: Δ1, Γ0, b, by rw [e]; rfl, n, h0, fun d hd => ?_⟩
        rcases List.mem_cons.mp hd with q | q
        · rw [q]; exact c
        · exact h1 d q
      · have na : nsch a = false := by
          cases q : nsch a with
          | false => rfl
          | true => exact absurd (Or.inl q) c
        refine ⟨[], Γ, a, rfl, na, fun d hd => ?_, fun d hd => by cases hd⟩
        have la : tch b ≤ tch a := by
          have : ¬ tch a ≤ tch b := fun q => c (Or.inr q)
          omega
        rw [e] at hd
        rcases List.mem_append.mp hd with q | q
        · exact (h1 d q).imp id (fun g => by omega)
        · rcases List.mem_cons.mp q with q | q
          · rw [q]; exact Or.inr la
          · exact (h0 d q).imp id (fun g => by omega)
    · have all : ∀ b ∈ Γ, nsch b = true := by
        intro b hb
        cases q : nsch b with
        | true => rfl
        | false => exact absurd ⟨b, hb, q⟩ r
      obtain ⟨b, hb, n⟩ := h
      rcases List.mem_cons.mp hb with q | q
      · subst q
        exact ⟨[], Γ, b, rfl, n, fun d hd => Or.inl (all d hd), fun d hd => by cases hd⟩
      · rw [all b q] at n
        cases n
/-- what is left -/
def LeftR (f : Nat) (x y : Ty) (Γ : List Ty) (Δ : List (Nat × Ty × Nat)) : Prop := ¬ ((mch x ≤ mch y → CHo f x []) ∧ (¬ mch x ≤ mch y → CHo f y [])) ∨ 48 ≤ cch Γ ∨ (∀ b ∈ Γ, nsch b = true) ∨ ∃ (Δ1 Γ0 : List Ty) (b : Ty), Γ = cxs Δ1 Γ0 b ∧ nsch b = false ∧ ((∀ a ∈ Γ0, nsch a = true ∨ tch a ≤ tch b) ∧ ∀ a ∈ Δ1, nsch a = true ∨ tch a ≤ tch b) ∧ ((∀ B C, b ≠ tAll B C) ∨ (∃ B C, b = tAll B C ∧ B ≠ tTop) ∨ ∃ (C : Ty) (o : Bool), b = tAll tTop C ∧ (o = false → (∀ a ∈ Γ0, nsch a = true) ∧ ∀ a ∈ Δ1, nsch a = true) ∧ RsA o f x y C Γ0 Δ1 Δ)
def RESTn : Prop := ∀ (f : Nat) (x y : Ty) (Γ : List Ty) (Δ : List (Nat × Ty × Nat)), TWf f Γ.length (Δ.map (fun a => a.1)) x → TWf f Γ.length (Δ.map (fun a => a.1)) y → TE Γ Δ → NAt f x → NAt f y → noac Γ → (∀ a ∈ Δ, noal a.2.1 = true) → TNo f x → TNo f y → 3 ≤ mch x → 3 ≤ mch y → (mch x ≤ mch y → ¬ NOp f x) → (¬ mch x ≤ mch y → ¬ NOp f y) → 20 ≤ cch Γ → cch Γ + dch Δ + (2 + (mch x + mch y)) ≤ 60 → LeftR f x y Γ Δ → PRn f x y Γ Δ
theorem pairs_of (R : RESTn) : PAIRn := by
  intro f x y Γ Δ x1 x2 he y1 y2 hv hd' hb
  refine PRn_tri x1 x2 he ?_
  obtain ⟨⟨x1', lx⟩, tx, nx⟩ := tri_ok f _ _ x x1
  obtain ⟨⟨x2', ly⟩, ty, ny⟩ := tri_ok f _ _ y x2
  have y1' := nx y1
  have y2' := ny y2
  have hb' : cch Γ + dch Δ + (2 + (mch (tri f x) + mch (tri f y))) ≤ 60 := by omega
  clear lx ly nx ny y1 y2 hb x1 x2
  generalize tri f x = x' at *
  generalize tri f y = y' at *
  by_cases h19 : cch Γ ≤ 19
  · exact pair_u1 x1' x2' he y1' y2' hv hd' h19
  by_cases no : (mch x' ≤ mch y' → ¬ NOp f x') ∧ (¬ mch x' ≤ mch y' → ¬ NOp f y')
  rotate_left
  · refine pair_sh x1' x2' he y1' y2' hv hd' hb' (fun c => ?_) (fun c => ?_)
    · refine Or.inl (NOp_EX f x' Γ Δ (Classical.byContradiction (fun n => no ⟨fun _ => n, fun c' => absurd c c'⟩)))
    · refine Or.inl (NOp_EX f y' Γ Δ (Classical.byContradiction (fun n => no ⟨fun c' => absurd c' c, fun _ => n⟩)))
  have m3 : 3 ≤ mch x' ∧ 3 ≤ mch y' := by
    by_cases c : mch x' ≤ mch y'
    · obtain ⟨a, b, c1, l, -, -, h3⟩ := chr_min f _ _ x' x1'
      have := h3.resolve_left (no.1 c)
      omega
    · obtain ⟨a, b, c1, l, -, -, h3⟩ := chr_min f _ _ y' x2'
      have := h3.resolve_left (no.2 c)
      omega
  have rest := R f x' y' Γ Δ x1' x2' he y1' y2' hv hd' tx ty m3.1 m3.2 no.1 no.2 (by omega) hb'
  by_cases ch : (mch x' ≤ mch y' → CHo f x' []) ∧ (¬ mch x' ≤ mch y' → CHo f y' [])
  rotate_left
  · exact rest (Or.inl ch)
  by_cases h48 : 48 ≤ cch Γ
  · exact rest (Or.inr (Or.inl h48))
  by_cases ns : ∃ b ∈ Γ, nsch b = false
  rotate_left
  · refine rest (Or.inr (Or.inr (Or.inl (fun b hb => ?_))))
    cases q : nsch b with
    | true => rfl
    | false => exact absurd ⟨b, hb, q⟩ ns
  obtain ⟨Δ1, Γ0, b, e, n, h0, h1⟩ := long_one Γ ns
  by_cases rt : ∃ B C, b = tAll B C
  rotate_left
  · exact rest (Or.inr (Or.inr (Or.inr ⟨Δ1, Γ0, b, e, n, ⟨h0, h1⟩, Or.inl (fun B C q => rt ⟨B, C, q⟩)⟩)))
  obtain ⟨B, C, rfl⟩ := rt
  by_cases bt : B = tTop
  rotate_left
  · exact rest (Or.inr (Or.inr (Or.inr ⟨Δ1, Γ0, _, e, n, ⟨h0, h1⟩, Or.inr (Or.inl ⟨B, C, rfl, bt⟩)⟩)))
  subst bt
  subst e
  have t5 : tch (tAll tTop C) = tch C + 5 := by rw [tch_all, tch_top]; omega
  obtain ⟨o, ho, hof⟩ : ∃ o : Bool, ((∀ a ∈ Γ0, nsch a = true ∨ (o = true ∧ tch a ≤ tch C + 5)) ∧ ∀ a ∈ Δ1, nsch a = true ∨ (o = true ∧ tch a ≤ tch C + 5)) ∧ (o = false → (∀ a ∈ Γ0, nsch a = true) ∧ ∀ a ∈ Δ1, nsch a = true) := by
    by_cases q : (∀ a ∈ Γ0, nsch a = true) ∧ ∀ a ∈ Δ1, nsch a = true
    · exact ⟨false, ⟨fun a ha => Or.inl (q.1 a ha), fun a ha => Or.inl (q.2 a ha)⟩, fun _ => q⟩
    · exact ⟨true, ⟨fun a ha => (h0 a ha).imp id (fun g => ⟨rfl, by omega⟩), fun a ha => (h1 a ha).imp id (fun g => ⟨rfl, by omega⟩)⟩, fun h => by cases h⟩
  rcases pair_A x1' x2' he y1' y2' hv hd' tx ty ch.1 ch.2 ho m3.1 m3.2 hb' (by omega) (by omega) with h | h
  · exact h
  · exact rest (Or.inr (Or.inr (Or.inr ⟨Δ1, Γ0, _, rfl, n, ⟨h0, h1⟩, Or.inr (Or.inr ⟨C, o, rfl, hof, h⟩)⟩)))
