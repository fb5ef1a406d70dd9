/-! TYPES OF TERMS: which node breaks first. -/
def ktd (F : Nat) (t : Ty) (Γ : List Ty) (Δ : List (Nat × Ty × Nat)) : Prop := (sk (nKd t) (nMk t) 0 = 1 → ∃ A, tyF F (nX t) Γ Δ = .inr A) ∧ (sk (nKd t) (nMk t) 1 = 1 → ∃ A, yF F t Γ Δ = .inr A) ∧ (sk (nKd t) (nMk t) 2 = 1 → ∃ A, tyF F (nZ t) Γ Δ = .inr A)
/-- a node breaks: its parts have types, it has none -/
def Brk : Nat → Ty → List Ty → List (Nat × Ty × Nat) → Prop
  | 0, _, _, _ => False
  | F + 1, t, Γ, Δ => ktd F t Γ Δ ∧ ∃ p, tyF (F + 1) t Γ Δ = .inl p
section PmF12
variable {F : Nat} {t : Ty} {Γ : List Ty} {Δ : List (Nat × Ty × Nat)} {p : Nat}
theorem szt_inl {q p : Nat} {A : Ty} (h : szt q A = .inl p) : p = q := by
  unfold szt at h
  by_cases c : (flat A).length ≤ 16
  · rw [if_pos c] at h; cases h
  · rw [if_neg c] at h
    injection h with h
    exact h.symm
theorem tyO_inl {q p : Nat} {o : Option Ty} (h : tyO q o = .inl p) : p = q := by
  cases o with
  | none => injection h with h; exact h.symm
  | some A => exact szt_inl h
theorem tyF_x (hk : sk (nKd t) (nMk t) 0 = 1) (h : tyF F (nX t) Γ Δ = .inl p) : tyF (F + 1) t Γ Δ = .inl p := by
  unfold tyF
  rcases sk_0 hk with c | c | c | c | c
  · rw [if_neg (by omega), if_neg (by omega), if_pos c, h]; rfl
  · rw [if_neg (by omega), if_neg (by omega), if_neg (by omega), if_neg (by omega), if_neg (by omega), if_neg (by omega), if_neg (by omega), h]; rfl
  · rw [if_neg (by omega), if_neg (by omega), if_neg (by omega), if_neg (by omega), if_pos c, h]; rfl
  · rw [if_neg (by omega), if_neg (by omega), if_neg (by omega), if_neg (by omega), if_neg (by omega), if_pos c.1, if_pos c.2, h]; rfl
  · rw [if_neg (by omega), if_neg (by omega), if_neg (by omega), if_neg (by omega), if_neg (by omega), if_neg (by omega), if_pos c, h]; rfl
theorem tyF_y (hx : sk (nKd t) (nMk t) 0 = 1 → ∃ A, tyF F (nX t) Γ Δ = .inr A) (hk : sk (nKd t) (nMk t) 1 = 1) (h : yF F t Γ Δ = .inl p) : tyF (F + 1) t Γ Δ = .inl p := by
  unfold yF at h
  unfold tyF
  rcases sk_1 hk with c | c | c | c | c
  · rw [if_pos c] at h
    rw [if_neg (by omega), if_pos c, h]; rfl
  · rw [if_neg (by omega), if_pos c] at h
    rw [if_neg (by omega), if_neg (by omega), if_neg (by omega), if_pos c, h]; rfl
  · rw [if_neg (by omega), if_neg (by omega)] at h
    obtain ⟨A, hA⟩ := hx (by rw [c]; rfl)
    rw [if_neg (by omega), if_neg (by omega), if_pos c, hA]
    show tbd (tyF F (nY t) Γ Δ) _ = _
    rw [h]; rfl
  · rw [if_neg (by omega), if_neg (by omega)] at h
    obtain ⟨A, hA⟩ := hx (by rw [c]; rfl)
    rw [if_neg (by omega), if_neg (by omega), if_neg (by omega), if_neg (by omega), if_neg (by omega), if_neg (by omega), if_neg (by omega), hA]
    show tbd (tyF F (nY t) Γ Δ) _ = _
    rw [h]; rfl
  · rw [if_neg (by omega), if_neg (by omega)] at h
    have hx' : ∃ A, (if bit (nMk t) 0 = true then tyF F (nX t) Γ Δ else .inr .nil) = .inr A := by
      by_cases e : bit (nMk t) 0 = true
      · rw [if_pos e]; exact hx (by rw [c.1]; show (if bit (nMk t) 0 = true then 1 else 0) = 1; rw [if_pos e])
      · rw [if_neg e]; exact ⟨_, rfl⟩
    obtain ⟨A, hA⟩ := hx'
    rw [if_neg (by omega), if_neg (by omega), if_neg (by omega), if_neg (by omega), if_neg (by omega), if_pos c.1, hA]
    show tbd (if bit (nMk t) 1 = true then tyF F (nY t) Γ Δ else .inr .nil) _ = _
    rw [if_pos c.2, h]; rfl
theorem tyF_z (hx : sk (nKd t) (nMk t) 0 = 1 → ∃ A, tyF F (nX t) Γ Δ = .inr A) (hy : sk (nKd t) (nMk t) 1 = 1 → ∃ A, yF F t Γ Δ = .inr A) (hk : sk (nKd t) (nMk t) 2 = 1) (h : tyF F (nZ t) Γ Δ = .inl p) : tyF (F + 1) t Γ Δ = .inl p := by
  have c := sk_2 hk
  have key : ∀ g, sk (nKd t) (nMk t) g = if bit (nMk t) g = true then 1 else 0 := fun g => by rw [c.1]; rfl
  have hx' : ∃ A, (if bit (nMk t) 0 = true then tyF F (nX t) Γ Δ else .inr .nil) = .inr A := by
    by_cases e : bit (nMk t) 0 = true
    · rw [if_pos e]; exact hx (by rw [key, if_pos e])
    · rw [if_neg e]; exact ⟨_, rfl⟩
  have hy' : ∃ A, (if bit (nMk t) 1 = true then tyF F (nY t) Γ Δ else .inr .nil) = .inr A := by
    by_cases e : bit (nMk t) 1 = true
    · rw [if_pos e]
      have q := hy (by rw [key, if_pos e])
      unfold yF at q
      rw [if_neg (by omega), if_neg (by omega)] at q
      exact q
    · rw [if_neg e]; exact ⟨_, rfl⟩
  obtain ⟨A, hA⟩ := hx'
  obtain ⟨B, hB⟩ := hy'
  unfold tyF
  rw [if_neg (by omega), if_neg (by omega), if_neg (by omega), if_neg (by omega), if_neg (by omega), if_pos c.1, hA]
  show tbd (if bit (nMk t) 1 = true then tyF F (nY t) Γ Δ else .inr .nil) _ = _
  rw [hB]
  show tbd (if bit (nMk t) 2 = true then tyF F (nZ t) Γ Δ else .inr .nil) _ = _
  rw [if_pos c.2, h]; rfl
theorem tyF_own (kr : 5 ≤ nKd t ∧ nKd t ≤ 12) (hk : ktd F t Γ Δ) (h : tyF (F + 1) t Γ Δ = .inl p) : p = nPl t := by
  obtain ⟨hx, hy, hz⟩ := hk
  unfold yF at hy
  unfold tyF at h
  rcases (show nKd t = 5 ∨ nKd t = 6 ∨ nKd t = 7 ∨ nKd t = 8 ∨ nKd t = 9 ∨ nKd t = 10 ∨ nKd t = 11 ∨ nKd t = 12 by omega) with c | c | c | c | c | c | c | c
  · rw [if_pos c] at h; exact tyO_inl h
  · obtain ⟨B, hB⟩ := hy (by rw [c]; rfl)
    rw [if_pos c] at hB
    rw [if_neg (by omega), if_pos c, hB] at h
    exact szt_inl h
  · obtain ⟨A, hA⟩ := hx (by rw [c]; rfl)
    obtain ⟨B, hB⟩ := hy (by rw [c]; rfl)
    rw [if_neg (by omega), if_neg (by omega)] at hB
    rw [if_neg (by omega), if_neg (by omega), if_pos c, hA, hB] at h
    exact tyO_inl h
  · obtain ⟨B, hB⟩ := hy (by rw [c]; rfl)
    rw [if_neg (by omega), if_pos c] at hB
    rw [if_neg (by omega), if_neg (by omega), if_neg (by omega), if_pos c, hB] at h
    exact szt_inl h
  · obtain ⟨A, hA⟩ := hx (by rw [c]; rfl)
    rw [if_neg (by omega), if_neg (by omega), if_neg (by omega), if_neg (by omega), if_pos c, hA] at h
    exact tyO_inl h
  · have key : ∀ g, sk (nKd t) (nMk t) g = if bit (nMk t) g = true then 1 else 0 := fun g => by rw [c]; rfl
    have hx' : ∃ A, (if bit (nMk t) 0 = true then tyF F (nX t) Γ Δ else .inr .nil) = .inr A := by
      by_cases e : bit (nMk t) 0 = true
      · rw [if_pos e]; exact hx (by rw [key, if_pos e])
      · rw [if_neg e]; exact ⟨_, rfl⟩
    have hy' : ∃ A, (if bit (nMk t) 1 = true then tyF F (nY t) Γ Δ else .inr .nil) = .inr A := by
      by_cases e : bit (nMk t) 1 = true
      · rw [if_pos e]
        have q := hy (by rw [key, if_pos e])
        rw [if_neg (by omega), if_neg (by omega)] at q
        exact q
      · rw [if_neg e]; exact ⟨_, rfl⟩
    have hz' : ∃ A, (if bit (nMk t) 2 = true then tyF F (nZ t) Γ Δ else .inr .nil) = .inr A := by
      by_cases e : bit (nMk t) 2 = true
      · rw [if_pos e]; exact hz (by rw [key, if_pos e])
      · rw [if_neg e]; exact ⟨_, rfl⟩
    obtain ⟨A, hA⟩ := hx'
    obtain ⟨B, hB⟩ := hy'
    obtain ⟨C, hC⟩ := hz'
    rw [if_neg (by omega), if_neg (by omega), if_neg (by omega), if_neg (by omega), if_neg (by omega), if_pos c, hA, hB, hC] at h
    exact szt_inl h
  · obtain ⟨A, hA⟩ := hx (by rw [c]; rfl)
    rw [if_neg (by omega), if_neg (by omega), if_neg (by omega), if_neg (by omega), if_neg (by omega), if_neg (by omega), if_pos c, hA] at h
    exact tyO_inl h
  · obtain ⟨A, hA⟩ := hx (by rw [c]; rfl)
    obtain ⟨B, hB⟩ := hy (by rw [c]; rfl)
    rw [if_neg (by omega), if_neg (by omega)] at hB
    rw [if_neg (by omega), if_neg (by omega), if_neg (by omega), if_neg (by omega), if_neg (by omega), if_neg (by omega), if_neg (by omega), hA, hB] at h
    exact tyO_inl h
/-- a node with a type has parts with types -/
theorem tyF_parts {A : Ty} (h : tyF (F + 1) t Γ Δ = .inr A) : ktd F t Γ Δ := by
  have hx : sk (nKd t) (nMk t) 0 = 1 → ∃ A, tyF F (nX t) Γ Δ = .inr A := by
    intro hk
    cases e : tyF F (nX t) Γ Δ with
    | inl q => rw [tyF_x hk e] at h; cases h
    | inr B => exact ⟨B, rfl⟩
  have hy : sk (nKd t) (nMk t) 1 = 1 → ∃ A, yF F t Γ Δ = .inr A := by
    intro hk
    cases e : yF F t Γ Δ with
    | inl q => rw [tyF_y hx hk e] at h; cases h
    | inr B => exact ⟨B, rfl⟩
  refine ⟨hx, hy, fun hk => ?_⟩
  cases e : tyF F (nZ t) Γ Δ with
  | inl q => rw [tyF_z hx hy hk e] at h; cases h
  | inr B => exact ⟨B, rfl⟩
theorem nAt_x {k : Nat} (hl : k < (tfl (nX t)).length) : nAt (F + 1) t Γ Δ (1 + k) = if sk (nKd t) (nMk t) 0 = 1 then nAt F (nX t) Γ Δ k else none := by
  conv => lhs; unfold nAt
  rw [if_neg (by omega), if_pos (by omega), show 1 + k - 1 = k by omega]
end PmF12
/-- the part of y, by its kind -/
theorem yAt {F : Nat} {t : Ty} {Γ : List Ty} {Δ : List (Nat × Ty × Nat)} (w : TWf (F + 1) Γ.length (Δ.map (fun a => a.1)) t) (hk : sk (nKd t) (nMk t) 1 = 1) : ∃ (Γ' : List Ty) (Δ' : List (Nat × Ty × Nat)), TWf F Γ'.length (Δ'.map (fun a => a.1)) (nY t) ∧ yF F t Γ Δ = tyF F (nY t) Γ' Δ' ∧ ∀ k, k < (tfl (nY t)).length → nAt (F + 1) t Γ Δ (1 + (tfl (nX t)).length + k) = nAt F (nY t) Γ' Δ' k := by
  obtain ⟨w0, w5, w6, w7, w8, w9, w10, w11, w12⟩ := w
  by_cases c6 : nKd t = 6
  · refine ⟨Γ, (nPl t, nX t, Γ.length) :: Δ, (w6 c6).2.2.2, by unfold yF; rw [if_pos c6], fun k hl => by rw [nAt_y hl, if_pos c6]⟩
  by_cases c8 : nKd t = 8
  · refine ⟨nX t :: Γ, Δ, (w8 c8).2.2, by unfold yF; rw [if_neg c6, if_pos c8], fun k hl => by rw [nAt_y hl, if_neg c6, if_pos c8]⟩
  · refine ⟨Γ, Δ, ?_, by unfold yF; rw [if_neg c6, if_neg c8], fun k hl => by rw [nAt_y hl, if_neg c6, if_neg c8, if_pos hk]⟩
    rcases sk_1 hk with c | c | c | c | c
    · exact absurd c c6
    · exact absurd c c8
    · exact (w7 (Or.inl c)).2
    · exact (w7 (Or.inr c)).2
    · exact (w10 c.1).2 1 (by decide) c.2
