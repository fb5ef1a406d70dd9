/-! WHAT IS LEFT, without contexts that have no scheme, without long ones, and without contexts in which a scheme is worth little. -/
theorem chkB_two : ∀ (σ : List Bool), chkB σ = true ∨ 2 ≤ σ.length
  | [] => Or.inl rfl
  | [false] => Or.inl rfl
  | [true] => Or.inl rfl
  | _ :: _ :: _ => Or.inr (by simp only [List.length_cons]; omega)
/-- a choice that stands under two operations, one of them an instantiation, takes eight characters -/
theorem ch_min : ∀ (f D : Nat) (sc : List Nat) (t : Ty) (σ : List Bool), TWf f D sc t → CHo f t σ ∨ 8 ≤ mch t + 2 * min 2 σ.length
  | 0, _, _, _, _, h => h.elim
  | f + 1, D, sc, t, σ, h => by
    have ih := fun D sc t σ => ch_min f D sc t σ
    have pos : ∀ u D sc, TWf f D sc u → 1 ≤ mch u := by
      intro u D sc w
      cases f with
      | zero => exact w.elim
      | succ f => exact mch_pos w
    obtain ⟨⟨kk, e, nl, -⟩, -, w6, w7, w8, w9, w10, w11, -⟩ := h
    have em := mch_is e
    have tl : min 2 σ.tail.length ≤ min 2 σ.length := by rw [List.length_tail]; omega
    by_cases c : 8 ≤ mch t + 2 * min 2 σ.length
    · exact Or.inr c
    refine Or.inl ⟨fun k => ?_, fun k => ?_, fun k => ?_, fun k g hg hb => ?_, fun k => ?_⟩
    · rw [if_neg (by omega), if_pos k] at em
      rcases k with k | k
      · exact (ih _ _ _ _ (w6 k).2.2.2).resolve_right (by omega)
      · exact (ih _ _ _ _ (w8 k).2.2).resolve_right (by omega)
    · have wx : TWf f D sc (nX t) := by
        rcases k with k | k
        · exact (w7 (Or.inl k)).1
        · exact (w11 k).2
      rw [if_neg (by omega), if_neg (by omega), if_neg (by omega), if_neg (by omega)] at em
      exact (ih _ _ _ _ wx).resolve_right (by rw [List.length_cons]; omega)
    · rw [if_neg (by omega), if_neg (by omega), if_pos k] at em
      obtain ⟨wx, o, -⟩ := w9 k
      have := tch_pos o
      exact (ih _ _ _ _ wx).resolve_right (by rw [List.length_cons]; omega)
    · rw [if_neg (by omega), if_neg (by omega), if_neg (by omega), if_pos k] at em
      have big : mch (nP t g) ≤ mch (nX t) + (mch (nY t) + mch (nZ t)) := by
        match g, hg with
        | 0, _ => show mch (nX t) ≤ _; omega
        | 1, _ => show mch (nY t) ≤ _; omega
        | 2, _ => show mch (nZ t) ≤ _; omega
      exact (ih _ _ _ _ ((w10 k).2 g hg hb)).resolve_right (by omega)
    · rw [if_neg (by omega), if_neg (by omega), if_neg (by omega), if_neg (by omega)] at em
      obtain ⟨wx, wy⟩ := w7 (Or.inr k)
      have px := pos _ _ _ wx
      have py := pos _ _ _ wy
      exact ⟨(chkB_two σ).resolve_right (fun q => by omega), (ih _ _ _ _ wx).resolve_right (by omega), (ih _ _ _ _ wy).resolve_right (by omega)⟩
theorem ch_eight {f D : Nat} {sc : List Nat} {t : Ty} (w : TWf f D sc t) : CHo f t [] ∨ 8 ≤ mch t := by
  have := ch_min f D sc t [] w
  simpa using this
def LeftD (f : Nat) (x y : Ty) (Γ : List Ty) (Δ : List (Nat × Ty × Nat)) : Prop := ∃ (Δ1 Γ0 : List Ty) (b : Ty), Γ = cxs Δ1 Γ0 b ∧ nsch b = false ∧ ((∀ a ∈ Γ0, nsch a = true ∨ tch a ≤ tch b) ∧ ∀ a ∈ Δ1, nsch a = true ∨ tch a ≤ tch b) ∧ ((∀ B C, b ≠ tAll B C) ∨ (∃ B C, b = tAll B C ∧ B ≠ tTop) ∨ ∃ (C : Ty) (o : Bool), b = tAll tTop C ∧ (o = false → (∀ a ∈ Γ0, nsch a = true) ∧ ∀ a ∈ Δ1, nsch a = true) ∧ RsA o f x y C Γ0 Δ1 Δ)
/-- no scheme of the context is worth little with all the rest small -/
def NoG (f : Nat) (x y : Ty) (Γ : List Ty) (Δ : List (Nat × Ty × Nat)) : Prop := ∀ (Δ1 Γ0 : List Ty) (B C : Ty), Γ = cxs Δ1 Γ0 (tAll B C) → ¬ (HKd (hd B) B C Γ0 ∧ ndk (cch Γ0) (cch Δ1) = true) ∧ ¬ ((noh (hd B) C = true ∧ SGc (hd B) B C tTop Γ0 Δ1 ∧ (∀ a ∈ Δ, noh (hd B) a.2.1 = true)) ∧ (NHt (hd B) f x ∧ NHt (hd B) f y) ∧ gdk (cch Γ0) (cch Δ1) = true)
def RESTm : Prop := ∀ (f : Nat) (x y : Ty) (Γ : List Ty) (Δ : List (Nat × Ty × Nat)), TWf f Γ.length (Δ.map (fun a => a.1)) x → TWf f Γ.length (Δ.map (fun a => a.1)) y → TE Γ Δ → NAt f x → NAt f y → noac Γ → (∀ a ∈ Δ, noal a.2.1 = true) → TNo f x → TNo f y → 3 ≤ mch x → 3 ≤ mch y → (mch x ≤ mch y → ¬ NOp f x) → (¬ mch x ≤ mch y → ¬ NOp f y) → 20 ≤ cch Γ → cch Γ ≤ 47 → cch Γ + dch Δ + (2 + (mch x + mch y)) ≤ 60 → NoG f x y Γ Δ → (¬ ((mch x ≤ mch y → CHo f x []) ∧ (¬ mch x ≤ mch y → CHo f y [])) ∨ LeftD f x y Γ Δ) → PRn f x y Γ Δ
theorem rest_of (R : RESTm) : RESTn := by
  intro f x y Γ Δ x1 x2 he y1 y2 hv hd' tx ty m3 n3 no1 no2 h20 hb hL
  have nt : NtV Γ Δ f x 887 597 ∨ NtV Γ Δ f y 887 597 → PRn f x y Γ Δ := pair_ntv x1 x2 he y1 y2 hv hd' (by omega)
  by_cases h48 : 48 ≤ cch Γ
  · have dΔ : Δ = [] := by
      by_cases c : Δ = []
      · exact c
      · have := dch_five he c
        omega
    have d0 : dch Δ = 0 := by rw [dΔ]; rfl
    by_cases c : mch x ≤ mch y
    · exact nt (Or.inl (c48_v x1 he ((ch_eight x1).resolve_right (by omega)) m3 (by omega) (by omega) h48 dΔ))
    · exact nt (Or.inr (c48_v x2 he ((ch_eight x2).resolve_right (by omega)) n3 (by omega) (by omega) h48 dΔ))
  by_cases ng : NoG f x y Γ Δ
  rotate_left
  · refine Classical.byContradiction (fun np => ng (fun Δ1 Γ0 B C e => ?_))
    subst e
    refine ⟨fun ⟨H, k⟩ => np (pair_nodes H x1 x2 he y1 y2 hv hd' k (by omega)), fun ⟨⟨nC, sg, nD⟩, ⟨p1, p2⟩, k⟩ => np (pair_gnodes nC sg x1 x2 he y1 y2 hv (fun a ha => ⟨nD a ha, hd' a ha⟩) p1 p2 k (by omega))⟩
  have rest := R f x y Γ Δ x1 x2 he y1 y2 hv hd' tx ty m3 n3 no1 no2 h20 (by omega) hb ng
  rcases hL with h | h | h | h
  · exact rest (Or.inl h)
  · exact absurd h h48
  · by_cases ch : (mch x ≤ mch y → CHo f x []) ∧ (¬ mch x ≤ mch y → CHo f y [])
    · by_cases c : mch x ≤ mch y
      · exact nt (Or.inl (nosch_v x1 he (ch.1 c) m3 h (by omega) h20 (by omega)))
      · exact nt (Or.inr (nosch_v x2 he (ch.2 c) n3 h (by omega) h20 (by omega)))
    · exact rest (Or.inl ch)
  · exact rest (Or.inr h)
