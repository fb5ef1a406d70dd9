/-! CONTEXTS WITH AN ALIAS THAT NO BOUND NAMES: only the lists are left (RSTg2). -/
def LeftGc (f : Nat) (t : Ty) (Γ : List Ty) (Δ : List (Nat × Ty × Nat)) : Prop := ∃ (Δ1 Γ0 : List Ty) (b b' B C : Ty), Γ = cxs Δ1 Γ0 b ∧ LBd Γ0 Δ1 b b' B C ∧ ¬ IS2 (fun _ => False) b ∧ inBA Δ.isEmpty (ccq Γ) (mch t) (tch B) (tch C) (tch b - tch (tAll B C)) (ccq Γ0) (ccq Δ1) = true
def RSTg2 : Prop := ∀ (f : Nat) (x y : Ty) (Γ : List Ty) (Δ : List (Nat × Ty × Nat)), TWf f Γ.length (Δ.map (fun a => a.1)) x → TWf f Γ.length (Δ.map (fun a => a.1)) y → TE Γ Δ → NAt f x → NAt f y → noaw Γ → (∀ a ∈ Δ, noal a.2.1 = true) → 1 ≤ nal Γ → TNo f x → TNo f y → cch Γ + dch Δ + (2 + (mch x + mch y)) ≤ 60 → (¬ (∀ j, j < Γ.length → vw (lsf fa Γ) j ≤ 1)) ∨ (20 ≤ ccq Γ ∧ 3 ≤ mch x ∧ 3 ≤ mch y ∧ (mch x ≤ mch y → ¬ NOp f x ∧ LeftGc f x Γ Δ) ∧ (¬ mch x ≤ mch y → ¬ NOp f y ∧ LeftGc f y Γ Δ)) → PRn f x y Γ Δ
section PmZx1a
variable {f : Nat} {t : Ty} {Γ : List Ty} {Δ : List (Nat × Ty × Nat)}
theorem nosch_Qa (w : TWf f Γ.length (Δ.map (fun a => a.1)) t) (he : TE Γ Δ) (tn : TNo f t) (i : ∀ b ∈ Γ, IS2 (fun _ => False) b) (h20 : 20 ≤ ccq Γ) (hb : ccq Γ + dch Δ + 2 * mch t ≤ 53) (k : ¬ ShQ f t Δ) : NtQ Γ Δ f t 780 597 := by
  by_cases e : Δ = []
  · refine nat_0qnQ w he tn e i ?_ h20 hb
    rcases Nat.lt_or_ge (mch t) 14 with q | q
    · exact absurd (Or.inl ⟨e, by omega⟩) k
    · exact q
  by_cases d9 : dch Δ ≤ 9
  · obtain ⟨a, ea⟩ := dch_one he e d9
    have l1 : Δ.length = 1 := by rw [ea]; rfl
    refine nat_0qoQ w he tn (by omega) e i ?_ h20 hb
    rcases Nat.lt_or_ge (mch t) 9 with q | q
    · exact absurd (Or.inr (Or.inl ⟨l1, by omega⟩)) k
    · exact q
  · refine nat_0qQ w he (by omega) i ?_ h20 hb
    rcases Nat.lt_or_ge (mch t) 8 with q | q
    · exact absurd (Or.inr (Or.inr ⟨e, by omega⟩)) k
    · exact q
end PmZx1a
theorem rstg1_of (R : RSTg2) : RSTg1 := by
  intro f x y Γ Δ x1 x2 he y1 y2 hv hd' ha tx ty hb h
  have rest := R f x y Γ Δ x1 x2 he y1 y2 hv hd' ha tx ty hb
  by_cases hM : ∀ j, j < Γ.length → vw (lsf fa Γ) j ≤ 1
  rotate_left
  · exact rest (Or.inl hM)
  rcases h with h | ⟨h20, mx, my, hx, hy⟩
  · exact absurd hM h
  have ec := ccq_nal he.1
  have one : ∀ {t : Ty}, TWf f Γ.length (Δ.map (fun a => a.1)) t → TNo f t → ccq Γ + dch Δ + 2 * mch t ≤ 53 → LeftGb f t Γ Δ → NtQ Γ Δ f t 780 597 ∨ LeftGc f t Γ Δ := by
    intro t w tn hb' l
    rcases l with ⟨i, k⟩ | l
    · exact Or.inl (nosch_Qa w he tn i h20 hb' k)
    · exact Or.inr l
  have c56 : cch Γ ≤ 56 := by omega
  by_cases c : mch x ≤ mch y
  · obtain ⟨no, l⟩ := hx c
    rcases one x1 tx (by omega) l with z | z
    · exact pair_M1 x1 x2 he y1 y2 hv hd' c56 hM (Or.inl (z.le (by decide) (by decide)))
    · exact rest (Or.inr ⟨h20, mx, my, fun _ => ⟨no, z⟩, fun c' => absurd c c'⟩)
  · obtain ⟨no, l⟩ := hy c
    rcases one x2 ty (by omega) l with z | z
    · exact pair_M1 x1 x2 he y1 y2 hv hd' c56 hM (Or.inr (z.le (by decide) (by decide)))
    · exact rest (Or.inr ⟨h20, mx, my, fun c' => absurd c' c, fun _ => ⟨no, z⟩⟩)
theorem pairg_r2 (R : RSTg2) : PAIRg := pairg_of (rstg_of (rstg1_of R))
