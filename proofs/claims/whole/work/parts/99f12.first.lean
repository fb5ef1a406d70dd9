/-! TYPES OF TERMS: the first node that breaks. -/
theorem TWf.px {F D : Nat} {sc : List Nat} {t : Ty} (w : TWf (F + 1) D sc t) (hk : sk (nKd t) (nMk t) 0 = 1) : TWf F D sc (nX t) := by
  obtain ⟨w0, w5, w6, w7, w8, w9, w10, w11, w12⟩ := w
  rcases sk_0 hk with c | c | c | c | c
  · exact (w7 (Or.inl c)).1
  · exact (w7 (Or.inr c)).1
  · exact (w9 c).1
  · exact (w10 c.1).2 0 (by decide) c.2
  · exact (w11 c).2
theorem TWf.pz {F D : Nat} {sc : List Nat} {t : Ty} (w : TWf (F + 1) D sc t) (hk : sk (nKd t) (nMk t) 2 = 1) : TWf F D sc (nZ t) := by
  obtain ⟨w0, w5, w6, w7, w8, w9, w10, w11, w12⟩ := w
  have c := sk_2 hk
  exact (w10 c.1).2 2 (by decide) c.2
/-- a place of the list of nodes: the node itself, or of a part -/
theorem nAt_cases {F : Nat} {t : Ty} {Γ : List Ty} {Δ : List (Nat × Ty × Nat)} {i : Nat} {v : Nat × Ty × List Ty × List (Nat × Ty × Nat)} (w : TWf (F + 1) Γ.length (Δ.map (fun a => a.1)) t) (hi : i < (tfl t).length) (h : nAt (F + 1) t Γ Δ i = some v) : (i = 0 ∧ v = (F + 1, t, Γ, Δ)) ∨ (∃ k, i = 1 + k ∧ k < (tfl (nX t)).length ∧ sk (nKd t) (nMk t) 0 = 1 ∧ nAt F (nX t) Γ Δ k = some v) ∨ (∃ k, i = 1 + (tfl (nX t)).length + k ∧ k < (tfl (nY t)).length ∧ sk (nKd t) (nMk t) 1 = 1) ∨ (∃ k, i = 1 + (tfl (nX t)).length + (tfl (nY t)).length + k ∧ k < (tfl (nZ t)).length ∧ sk (nKd t) (nMk t) 2 = 1 ∧ nAt F (nZ t) Γ Δ k = some v) := by
  have hl := tfl_len w.shp
  by_cases c0 : i = 0
  · subst c0
    have h : (if 0 = 0 then some (F + 1, t, Γ, Δ) else _) = some v := h
    rw [if_pos rfl] at h
    injection h with h
    exact Or.inl ⟨rfl, h.symm⟩
  by_cases c1 : i < 1 + (tfl (nX t)).length
  · obtain ⟨k, rfl⟩ : ∃ k, i = 1 + k := ⟨i - 1, by omega⟩
    rw [nAt_x (by omega)] at h
    by_cases e : sk (nKd t) (nMk t) 0 = 1
    · rw [if_pos e] at h
      exact Or.inr (Or.inl ⟨k, rfl, by omega, e, h⟩)
    · rw [if_neg e] at h; cases h
  by_cases c2 : i < 1 + (tfl (nX t)).length + (tfl (nY t)).length
  · obtain ⟨k, rfl⟩ : ∃ k, i = 1 + (tfl (nX t)).length + k := ⟨i - (1 + (tfl (nX t)).length), by omega⟩
    refine Or.inr (Or.inr (Or.inl ⟨k, rfl, by omega, ?_⟩))
    rw [nAt_y (by omega)] at h
    by_cases c6 : nKd t = 6
    · rw [c6]; rfl
    by_cases c8 : nKd t = 8
    · rw [c8]; rfl
    rw [if_neg c6, if_neg c8] at h
    by_cases e : sk (nKd t) (nMk t) 1 = 1
    · exact e
    · rw [if_neg e] at h; cases h
  · obtain ⟨k, rfl⟩ : ∃ k, i = 1 + (tfl (nX t)).length + (tfl (nY t)).length + k := ⟨i - (1 + (tfl (nX t)).length + (tfl (nY t)).length), by omega⟩
    rw [nAt_z] at h
    by_cases e : sk (nKd t) (nMk t) 2 = 1
    · rw [if_pos e] at h
      exact Or.inr (Or.inr (Or.inr ⟨k, rfl, by omega, e, h⟩))
    · rw [if_neg e] at h; cases h
/-- below a node with a type, every node has one -/
theorem all_typed : ∀ (F : Nat) (t : Ty) (Γ : List Ty) (Δ : List (Nat × Ty × Nat)) (A : Ty), TWf F Γ.length (Δ.map (fun a => a.1)) t → tyF F t Γ Δ = .inr A → ∀ (i : Nat) (v : Nat × Ty × List Ty × List (Nat × Ty × Nat)), i < (tfl t).length → nAt F t Γ Δ i = some v → ∃ A', tyF v.1 v.2.1 v.2.2.1 v.2.2.2 = .inr A'
  | 0, _, _, _, _, w, _, _, _, _, _ => w.elim
  | F + 1, t, Γ, Δ, A, w, h, i, v, hi, hv => by
    obtain ⟨hx, hy, hz⟩ := tyF_parts h
    rcases nAt_cases w hi hv with ⟨rfl, e⟩ | ⟨k, rfl, k1, k2, k3⟩ | ⟨k, rfl, k1, k2⟩ | ⟨k, rfl, k1, k2, k3⟩
    · rw [e]; exact ⟨A, h⟩
    · obtain ⟨B, hB⟩ := hx k2
      exact all_typed F _ _ _ B (w.px k2) hB k v k1 k3
    · obtain ⟨B, hB⟩ := hy k2
      obtain ⟨Γ', Δ', w', y1, y2⟩ := yAt w k2
      rw [y2 k k1] at hv
      rw [y1] at hB
      exact all_typed F _ _ _ B w' hB k v k1 hv
    · obtain ⟨B, hB⟩ := hz k2
      exact all_typed F _ _ _ B (w.pz k2) hB k v k1 k3
theorem Brk.no {f : Nat} {t : Ty} {Γ : List Ty} {Δ : List (Nat × Ty × Nat)} {A : Ty} (h : Brk f t Γ Δ) (e : tyF f t Γ Δ = .inr A) : False := by
  cases f with
  | zero => exact h
  | succ f =>
    obtain ⟨-, p, hp⟩ := h
    rw [hp] at e; cases e
/-- the first node that breaks, in the order of the nodes -/
theorem first_brk : ∀ (F : Nat) (t : Ty) (Γ : List Ty) (Δ : List (Nat × Ty × Nat)) (p : Nat), TWf F Γ.length (Δ.map (fun a => a.1)) t → tyF F t Γ Δ = .inl p → ∃ (i : Nat) (v : Nat × Ty × List Ty × List (Nat × Ty × Nat)), i < (tfl t).length ∧ nAt F t Γ Δ i = some v ∧ Brk v.1 v.2.1 v.2.2.1 v.2.2.2 ∧ nPl v.2.1 = p ∧ ∀ (i' : Nat) (v' : Nat × Ty × List Ty × List (Nat × Ty × Nat)), i' < i → nAt F t Γ Δ i' = some v' → ¬ Brk v'.1 v'.2.1 v'.2.2.1 v'.2.2.2
  | 0, _, _, _, _, w, _ => w.elim
  | F + 1, t, Γ, Δ, p, w, h => by
    have hl := tfl_len w.shp
    -- the node itself does not break where a part has no type
    have self : ∀ (v : Nat × Ty × List Ty × List (Nat × Ty × Nat)), ¬ ktd F t Γ Δ → v = (F + 1, t, Γ, Δ) → ¬ Brk v.1 v.2.1 v.2.2.1 v.2.2.2 := by
      intro v hn e hb
      rw [e] at hb
      exact hn hb.1
    by_cases gx : sk (nKd t) (nMk t) 0 = 1 → ∃ A, tyF F (nX t) Γ Δ = .inr A
    case neg =>
      have k0 : sk (nKd t) (nMk t) 0 = 1 := Classical.byContradiction (fun e => gx (fun x => absurd x e))
      cases e : tyF F (nX t) Γ Δ with
      | inr A => exact absurd (fun _ => ⟨A, e⟩) gx
      | inl q =>
        have := tyF_x k0 e
        rw [h] at this
        injection this with this
        subst this
        obtain ⟨i, v, i1, i2, i3, i4, i5⟩ := first_brk F _ _ _ p (w.px k0) e
        refine ⟨1 + i, v, by omega, by rw [nAt_x i1, if_pos k0]; exact i2, i3, i4, fun i' v' hi' hv' => ?_⟩
        rcases nAt_cases w (by omega) hv' with ⟨-, e'⟩ | ⟨k, rfl, k1, k2, k3⟩ | ⟨k, rfl, k1, k2⟩ | ⟨k, rfl, k1, k2, k3⟩
        · exact self v' (fun hk => gx hk.1) e'
        · exact i5 k v' (by omega) k3
        · omega
        · omega
    by_cases gy : sk (nKd t) (nMk t) 1 = 1 → ∃ A, yF F t Γ Δ = .inr A
    case neg =>
      have k0 : sk (nKd t) (nMk t) 1 = 1 := Classical.byContradiction (fun e => gy (fun x => absurd x e))
      obtain ⟨Γ', Δ', w', y1, y2⟩ := yAt w k0
      cases e : yF F t Γ Δ with
      | inr A => exact absurd (fun _ => ⟨A, e⟩) gy
      | inl q =>
        have := tyF_y gx k0 e
        rw [h] at this
        injection this with this
        subst this
        rw [y1] at e
        obtain ⟨i, v, i1, i2, i3, i4, i5⟩ := first_brk F _ _ _ p w' e
        refine ⟨1 + (tfl (nX t)).length + i, v, by omega, by rw [y2 i i1]; exact i2, i3, i4, fun i' v' hi' hv' => ?_⟩
        rcases nAt_cases w (by omega) hv' with ⟨-, e'⟩ | ⟨k, rfl, k1, k2, k3⟩ | ⟨k, rfl, k1, k2⟩ | ⟨k, rfl, k1, k2, k3⟩
        · exact self v' (fun hk => gy hk.2.1) e'
        · intro hb
          obtain ⟨A, hA⟩ := gx k2
          obtain ⟨A', hA'⟩ := all_typed F _ _ _ A (w.px k2) hA k v' k1 k3
          exact hb.no hA'
        · rw [y2 k k1] at hv'
          exact i5 k v' (by omega) hv'
        · omega
    by_cases gz : sk (nKd t) (nMk t) 2 = 1 → ∃ A, tyF F (nZ t) Γ Δ = .inr A
    case neg =>
      have k0 : sk (nKd t) (nMk t) 2 = 1 := Classical.byContradiction (fun e => gz (fun x => absurd x e))
      cases e : tyF F (nZ t) Γ Δ with
      | inr A => exact absurd (fun _ => ⟨A, e⟩) gz
      | inl q =>
        have := tyF_z gx gy k0 e
        rw [h] at this
        injection this with this
        subst this
        obtain ⟨i, v, i1, i2, i3, i4, i5⟩ := first_brk F _ _ _ p (w.pz k0) e
        refine ⟨1 + (tfl (nX t)).length + (tfl (nY t)).length + i, v, by omega, by rw [nAt_z, if_pos k0]; exact i2, i3, i4, fun i' v' hi' hv' => ?_⟩
        rcases nAt_cases w (by omega) hv' with ⟨-, e'⟩ | ⟨k, rfl, k1, k2, k3⟩ | ⟨k, rfl, k1, k2⟩ | ⟨k, rfl, k1, k2, k3⟩
        · exact self v' (fun hk => gz hk.2.2) e'
        · intro hb
          obtain ⟨A, hA⟩ := gx k2
          obtain ⟨A', hA'⟩ := all_typed F _ _ _ A (w.px k2) hA k v' k1 k3
          exact hb.no hA'
        · intro hb
          obtain ⟨A, hA⟩ := gy k2
          obtain ⟨Γ', Δ', w', y1, y2⟩ := yAt w k2
          rw [y2 k k1] at hv'
          rw [y1] at hA
          obtain ⟨A', hA'⟩ := all_typed F _ _ _ A w' hA k v' k1 hv'
          exact hb.no hA'
        · exact i5 k v' (by omega) k3
    · refine ⟨0, (F + 1, t, Γ, Δ), by omega, by unfold nAt; rw [if_pos rfl], ⟨⟨gx, gy, gz⟩, p, h⟩, (tyF_own w.1.1 ⟨gx, gy, gz⟩ h).symm, fun i' v' hi' _ => absurd hi' (Nat.not_lt_zero _)⟩
/-- a node that breaks has, below it, none that breaks -/
theorem brk_below {F : Nat} {t : Ty} {Γ : List Ty} {Δ : List (Nat × Ty × Nat)} (w : TWf F Γ.length (Δ.map (fun a => a.1)) t) (hb : Brk F t Γ Δ) {i : Nat} {v : Nat × Ty × List Ty × List (Nat × Ty × Nat)} (h0 : 0 < i) (hi : i < (tfl t).length) (hv : nAt F t Γ Δ i = some v) : ¬ Brk v.1 v.2.1 v.2.2.1 v.2.2.2 := by
  cases F with
  | zero => exact w.elim
  | succ F =>
    obtain ⟨⟨hx, hy, hz⟩, -⟩ := hb
    intro hb
    rcases nAt_cases w hi hv with ⟨e, -⟩ | ⟨k, rfl, k1, k2, k3⟩ | ⟨k, rfl, k1, k2⟩ | ⟨k, rfl, k1, k2, k3⟩
    · omega
    · obtain ⟨A, hA⟩ := hx k2
      obtain ⟨A', hA'⟩ := all_typed F _ _ _ A (w.px k2) hA k v k1 k3
      exact hb.no hA'
    · obtain ⟨A, hA⟩ := hy k2
      obtain ⟨Γ', Δ', w', y1, y2⟩ := yAt w k2
      rw [y2 k k1] at hv
      rw [y1] at hA
      obtain ⟨A', hA'⟩ := all_typed F _ _ _ A w' hA k v k1 hv
      exact hb.no hA'
    · obtain ⟨A, hA⟩ := hz k2
      obtain ⟨A', hA'⟩ := all_typed F _ _ _ A (w.pz k2) hA k v k1 k3
      exact hb.no hA'
