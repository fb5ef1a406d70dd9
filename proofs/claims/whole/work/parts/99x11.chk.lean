/-! BY NATURE, choices under operations: at most one instance waiting, and nothing behind it. -/
def chkB : List Bool → Bool
  | [] => true
  | false :: ρ => chkB ρ
  | true :: ρ => ρ.isEmpty
theorem chkB_chk : ∀ (π : Stk), chkB (π.map Option.isSome) = true → chk π = true
  | [], _ => rfl
  | none :: ρ, h => chkB_chk ρ h
  | some z :: ρ, h => by
    have h : (ρ.map Option.isSome).isEmpty = true := h
    show ρ.isEmpty = true
    cases ρ with
    | nil => rfl
    | cons a ρ => cases h
/-- choices stand under such operations only -/
def CHo : Nat → Ty → List Bool → Prop
  | 0, _, _ => True
  | f + 1, t, σ => (nKd t = 6 ∨ nKd t = 8 → CHo f (nY t) σ.tail) ∧ (nKd t = 7 ∨ nKd t = 11 → CHo f (nX t) (false :: σ)) ∧ (nKd t = 9 → CHo f (nX t) (true :: σ)) ∧ (nKd t = 10 → ∀ g, g < 3 → bit (nMk t) g = true → CHo f (nP t g) σ.tail) ∧ (nKd t = 12 → chkB σ = true ∧ CHo f (nX t) σ ∧ CHo f (nY t) σ)
section PmXb
variable {t0 s2 : Nat} {n1 h : Nat → Nat} {E : Stk → Nat} {Z : Nat → Nat}
theorem GH_natc (hn : NC t0 n1 s2 h) (hm : ∀ y y', y ≤ y' → h y ≤ h y') : ∀ (f : Nat) (t : Ty) (π : Stk) (ω : List Nat) (Γ : List Ty) (Δ : List (Nat × Ty × Nat)), TWf f Γ.length (Δ.map (fun a => a.1)) t → TE Γ Δ → CHo f t (π.map Option.isSome) → AQh t0 n1 s2 h E Z f t π ω → CV t0 n1 s2 h ω Γ → HEk t0 n1 s2 h E Γ ω → GOk t0 n1 s2 h E f t π ω Γ Δ
  | 0, _, _, _, _, _, w, _, _, _, _, _ => w.elim
  | f + 1, t, π, ω, Γ, Δ, w, he, co, aq, hv, hE => by
    obtain ⟨w0, w5, w6, w7, w8, w9, w10, w11, w12⟩ := w
    obtain ⟨o6, o7, o9, o10, o12⟩ := co
    obtain ⟨a6, a7, a8, a9, a10, a12⟩ := aq
    have ih := fun t' π' ω' Γ' Δ' => GH_natc hn hm f t' π' ω' Γ' Δ'
    have hl := hv.len
    refine ⟨fun c6 => ?_, fun c7 => ?_, fun c8 => ?_, fun c9 => ?_, fun c10 g hg hb => ?_, fun c12 => ?_⟩
    · obtain ⟨-, x1, x2, x3⟩ := w6 c6
      refine ⟨fun e => ?_, fun ρ e => ?_⟩
      · subst e
        exact ih _ _ _ _ _ x3 (he.lam x1 x2) (o6 (Or.inl c6)) ((a6 c6).1 rfl) hv hE
      · subst e
        exact ih _ _ _ _ _ x3 (he.lam x1 x2) (o6 (Or.inl c6)) ((a6 c6).2 ρ rfl) hv hE
    · have x1 : TWf f Γ.length (Δ.map (fun a => a.1)) (nX t) := by
        rcases c7 with c | c
        · exact (w7 (Or.inl c)).1
        · exact (w11 c).2
      exact ih _ _ _ _ _ x1 he (o7 c7) (a7 c7) hv hE
    · obtain ⟨x1, x2, x3⟩ := w8 c8
      obtain ⟨k1, k2, k3⟩ := a8 c8
      refine ⟨k1, fun e => ?_, fun z ρ e => ?_⟩
      · subst e
        exact ih (nY t) [] _ (nX t :: Γ) Δ x3 (he.all x1 x2) (o6 (Or.inr c8)) (k2 rfl) (hv.ext hn he.1 x1) (hE.ext k1 _)
      · subst e
        exact ih (nY t) ρ _ (nX t :: Γ) Δ x3 (he.all x1 x2) (o6 (Or.inr c8)) (k3 z ρ rfl) (hv.extz hn he.1 x1 z) (hE.ext k1 _)
    · obtain ⟨x1, x2, x3⟩ := w9 c9
      obtain ⟨k1, k2⟩ := a9 c9
      exact ⟨k1.1, ih _ _ _ _ _ x1 he (o9 c9) k2 hv hE⟩
    · obtain ⟨m8, x1⟩ := w10 c10
      refine ⟨fun e => ?_, fun ρ e => ?_⟩
      · subst e
        exact ih _ _ _ _ _ (x1 g hg hb) he (o10 c10 g hg hb) ((a10 c10 g hg hb).1 rfl) hv hE
      · subst e
        exact ih _ _ _ _ _ (x1 g hg hb) he (o10 c10 g hg hb) ((a10 c10 g hg hb).2 ρ rfl) hv hE
    · obtain ⟨x1, x2⟩ := w7 (Or.inr c12)
      obtain ⟨k0, k1, k2⟩ := o12 c12
      refine ⟨ih _ _ _ _ _ x1 he k1 (a12 c12).1 hv hE, ih _ _ _ _ _ x2 he k2 (a12 c12).2 hv hE, fun S T R hS hT e => ?_⟩
      obtain ⟨s1, s2'⟩ := tyF_ok f _ Γ Δ S x1 he hS
      obtain ⟨t1, t2⟩ := tyF_ok f _ Γ Δ T x2 he hT
      have oR := (cmu_ok (⟨⟨he.1, s1, t1⟩, he.2.1, s2', t2⟩) e).1
      exact cu_vz hn _ Γ S T R π ω hv hE (chkB_chk π k0) ⟨he.1, s1, t1⟩ oR e
/-- a term of at most seven characters: every choice stands so -/
theorem CHo_of_COk : ∀ (f : Nat) (t : Ty) (σ : List Bool), COk f t σ.length → CHo f t σ
  | 0, _, _, _ => trivial
  | f + 1, t, σ, c => by
    obtain ⟨c6, c7, c10, c12⟩ := c
    have ih := CHo_of_COk f
    refine ⟨fun k => ih _ _ (by rw [List.length_tail]; exact c6 k), fun k => ih _ _ (by rw [List.length_cons]; exact c7 (by omega)), fun k => ih _ _ (by rw [List.length_cons]; exact c7 (by omega)), fun k g hg hb => ih _ _ (by rw [List.length_tail]; exact c10 k g hg hb), fun k => ?_⟩
    obtain ⟨k0, k1, k2⟩ := c12 k
    have e : σ = [] := List.eq_nil_of_length_eq_zero k0
    subst e
    exact ⟨rfl, ih _ _ k1, ih _ _ k2⟩
end PmXb
