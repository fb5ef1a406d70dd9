/-! ALL PAIRS IN CONTEXTS WITH AN ALIAS: what is left where no bound names an alias. -/
def PAIRg : Prop := ∀ (f : Nat) (x y : Ty) (Γ : List Ty) (Δ : List (Nat × Ty × Nat)), TWf f Γ.length (Δ.map (fun a => a.1)) x → TWf f Γ.length (Δ.map (fun a => a.1)) y → TE Γ Δ → NAt f x → NAt f y → noaw Γ → (∀ a ∈ Δ, noal a.2.1 = true) → 1 ≤ nal Γ → cch Γ + dch Δ + (2 + (mch x + mch y)) ≤ 60 → PRn f x y Γ Δ
/-- no natural value: no scheme is reached, or the lists -/
def LeftGa (f : Nat) (t : Ty) (Γ : List Ty) (Δ : List (Nat × Ty × Nat)) : Prop := (∀ b ∈ Γ, IS2 (fun _ => False) b) ∨ ∃ (Δ1 Γ0 : List Ty) (b b' B C : Ty), Γ = cxs Δ1 Γ0 b ∧ LBd Γ0 Δ1 b b' B C ∧ ¬ IS2 (fun _ => False) b ∧ inBA Δ.isEmpty (ccq Γ) (mch t) (tch B) (tch C) (tch b - tch (tAll B C)) (ccq Γ0) (ccq Δ1) = true
def RSTg : Prop := ∀ (f : Nat) (x y : Ty) (Γ : List Ty) (Δ : List (Nat × Ty × Nat)), TWf f Γ.length (Δ.map (fun a => a.1)) x → TWf f Γ.length (Δ.map (fun a => a.1)) y → TE Γ Δ → NAt f x → NAt f y → noaw Γ → (∀ a ∈ Δ, noal a.2.1 = true) → 1 ≤ nal Γ → TNo f x → TNo f y → cch Γ + dch Δ + (2 + (mch x + mch y)) ≤ 60 → (¬ (∀ j, j < Γ.length → vw (lsf fa Γ) j ≤ 1)) ∨ (20 ≤ ccq Γ ∧ 3 ≤ mch x ∧ 3 ≤ mch y ∧ (mch x ≤ mch y → ¬ NOp f x ∧ LeftGa f x Γ Δ) ∧ (¬ mch x ≤ mch y → ¬ NOp f y ∧ LeftGa f y Γ Δ)) → PRn f x y Γ Δ
section PmZt1a
variable {f : Nat} {x y t : Ty} {Γ : List Ty} {Δ : List (Nat × Ty × Nat)}
theorem natG (w : TWf f Γ.length (Δ.map (fun a => a.1)) t) (he : TE Γ Δ) (tn : TNo f t) (no : ¬ NOp f t) (hv : noaw Γ) (ha : 1 ≤ nal Γ) (h20 : 20 ≤ ccq Γ) (m3 : 3 ≤ mch t) (hb : cch Γ + dch Δ + 2 * mch t ≤ 58) : NtQ Γ Δ f t 780 597 ∨ LeftGa f t Γ Δ := by
  by_cases ty : ∃ S, tyF f t Γ Δ = .inr S
  rotate_left
  · exact Or.inl (fun S hS => absurd ⟨S, hS⟩ ty)
  obtain ⟨S, hS⟩ := ty
  have ec := ccq_nal he.1
  have m6 : Δ = [] → 6 ≤ mch t := by
    intro e
    subst e
    rcases Nat.lt_or_ge (mch t) 8 with q | q
    · exact absurd (cl_op f t Γ S w he.1 tn hS (by omega)) no
    · omega
  have h47 : cch Γ ≤ 47 := by
    by_cases e : Δ = []
    · have := m6 e; omega
    · have := dch_five he e; omega
  have na : ∀ a ∈ Γ, noal a = true := fun a ha => by
    obtain ⟨j, hj, ej⟩ := mem_bnd9 Γ a ha
    rw [← ej]
    exact (hv j hj).1
  rcases lb_ex2 Γ he.1 na h47 with i | ⟨Δ1, Γ0, b, b', B, C, eΓ, lb, nf⟩
  · exact Or.inr (Or.inl i)
  have hc := he.1
  rw [eΓ] at hc
  obtain ⟨oc0, ob⟩ := okc_low Δ1 hc
  have cσ := lb.1.ch
  have ho : tch b - tch (tAll B C) = 0 ∨ 3 ≤ tch b - tch (tAll B C) := by
    by_cases h2 : hd b = 2
    · left
      obtain ⟨p, r, rfl, -, -⟩ := hd_is_all ob h2
      rcases IS2_all lb.1.2.2.2.2 with q | ⟨-, -, q, -⟩
      · rw [q]; exact Nat.sub_self _
      · exfalso; omega
    · right
      have := ov_three lb.1 ob nf h2
      omega
  have b53 : ccq Γ + dch Δ + 2 * mch t ≤ 53 := by omega
  have w' := w
  have he' := he
  have h20' := h20
  rw [eΓ] at w' he' h20' b53
  rcases natA lb ho w' he' tn m3 m6 h20' b53 with z | z
  · rw [← eΓ] at z
    exact Or.inl z
  · rw [← eΓ] at z
    exact Or.inr (Or.inr ⟨Δ1, Γ0, b, b', B, C, eΓ, lb, nf, z⟩)
theorem pairg_of (R : RSTg) : PAIRg := by
  intro f x y Γ Δ x1 x2 he y1 y2 hv hd' ha hb
  refine PRn_tri x1 x2 he ?_
  obtain ⟨⟨x1', lx⟩, tx, nx⟩ := tri_ok f _ _ x x1
  obtain ⟨⟨x2', ly⟩, ty, ny⟩ := tri_ok f _ _ y x2
  have y1' := nx y1
  have y2' := ny y2
  have hb' : cch Γ + dch Δ + (2 + (mch (tri f x) + mch (tri f y))) ≤ 60 := by omega
  clear lx ly nx ny y1 y2 hb x1 x2
  generalize tri f x = x' at *
  generalize tri f y = y' at *
  have rest := R f x' y' Γ Δ x1' x2' he y1' y2' hv hd' ha tx ty hb'
  by_cases hM : ∀ j, j < Γ.length → vw (lsf fa Γ) j ≤ 1
  rotate_left
  · exact rest (Or.inl hM)
  have c56 : cch Γ ≤ 56 := by
    obtain ⟨_, _, _, l1, -⟩ := chr_min f _ _ x' x1'
    obtain ⟨_, _, _, l2, -⟩ := chr_min f _ _ y' x2'
    omega
  have fin : ∀ {r g : Nat}, r ≤ 788 → g ≤ 597 → (mch x' ≤ mch y' → NtQ Γ Δ f x' r g) → (¬ mch x' ≤ mch y' → NtQ Γ Δ f y' r g) → PRn f x' y' Γ Δ := by
    intro r g h1 h2 z1 z2
    refine pair_M1 x1' x2' he y1' y2' hv hd' c56 hM ?_
    by_cases c : mch x' ≤ mch y'
    · exact Or.inl ((z1 c).le h1 h2)
    · exact Or.inr ((z2 c).le h1 h2)
  by_cases h19 : ccq Γ ≤ 19
  · exact fin (r := 788) (g := 503) (by decide) (by decide) (fun _ => ntq_small x1' he h19) (fun _ => ntq_small x2' he h19)
  by_cases no : (mch x' ≤ mch y' → ¬ NOp f x') ∧ (¬ mch x' ≤ mch y' → ¬ NOp f y')
  rotate_left
  · refine fin (r := 570) (g := 430) (by decide) (by decide) (fun c => ?_) (fun c => ?_)
    · exact ntq_first x1' he (NOp_EX f x' Γ Δ (Classical.byContradiction (fun n => no ⟨fun _ => n, fun c' => absurd c c'⟩))) (by omega)
    · exact ntq_first x2' he (NOp_EX f y' Γ Δ (Classical.byContradiction (fun n => no ⟨fun c' => absurd c' c, fun _ => n⟩))) (by omega)
  have m3 : 3 ≤ mch x' ∧ 3 ≤ mch y' := by
    by_cases c : mch x' ≤ mch y'
    · obtain ⟨a, b, c1, l, -, -, h3⟩ := chr_min f _ _ x' x1'
      have := h3.resolve_left (no.1 c)
      omega
    · obtain ⟨a, b, c1, l, -, -, h3⟩ := chr_min f _ _ y' x2'
      have := h3.resolve_left (no.2 c)
      omega
  by_cases z : (mch x' ≤ mch y' → NtQ Γ Δ f x' 780 597) ∧ (¬ mch x' ≤ mch y' → NtQ Γ Δ f y' 780 597)
  · exact fin (by decide) (by decide) z.1 z.2
  refine rest (Or.inr ⟨by omega, m3.1, m3.2, fun c => ⟨no.1 c, ?_⟩, fun c => ⟨no.2 c, ?_⟩⟩)
  · rcases natG x1' he tx (no.1 c) hv ha (by omega) m3.1 (by omega) with q | q
    · exact absurd ⟨fun _ => q, fun c' => absurd c c'⟩ z
    · exact q
  · rcases natG x2' he ty (no.2 c) hv ha (by omega) m3.2 (by omega) with q | q
    · exact absurd ⟨fun c' => absurd c' c, fun _ => q⟩ z
    · exact q
end PmZt1a
