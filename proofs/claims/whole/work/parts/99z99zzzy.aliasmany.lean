/-! CONTEXTS IN WHICH BOUNDS NAME ALIASES a few times: (B) with the greatest count M. -/
section PmZy1a
variable {f : Nat} {x y t : Ty} {Γ : List Ty} {Δ : List (Nat × Ty × Nat)}
theorem pair_MM {M r : Nat} (x1 : TWf f Γ.length (Δ.map (fun a => a.1)) x) (x2 : TWf f Γ.length (Δ.map (fun a => a.1)) y) (he : TE Γ Δ) (y1 : NAt f x) (y2 : NAt f y) (hv : noaw Γ) (hd' : ∀ a ∈ Δ, noal a.2.1 = true) (hb : cch Γ ≤ 56) (hM : ∀ j, j < Γ.length → vw (lsf fa Γ) j ≤ M) (hr : r + 72 * M ≤ 887) (z : NtQ Γ Δ f x r 597 ∨ NtQ Γ Δ f y r 597) : PRn f x y Γ Δ :=
  pair_B (r := r) (m := 36 * M) x1 x2 he y1 y2 hv hd' hb (fun U oU nU lU => Aq_nodes hM oU nU lU) (by omega) z
/-- terms without operations, counts up to four -/
theorem pair_Mno (x1 : TWf f Γ.length (Δ.map (fun a => a.1)) x) (x2 : TWf f Γ.length (Δ.map (fun a => a.1)) y) (he : TE Γ Δ) (y1 : NAt f x) (y2 : NAt f y) (hv : noaw Γ) (hd' : ∀ a ∈ Δ, noal a.2.1 = true) (hb : cch Γ + dch Δ + (2 + (mch x + mch y)) ≤ 60) (c56 : cch Γ ≤ 56) (hM : ∀ j, j < Γ.length → vw (lsf fa Γ) j ≤ 4) (no : (mch x ≤ mch y ∧ NOp f x) ∨ (¬ mch x ≤ mch y ∧ NOp f y)) : PRn f x y Γ Δ := by
  refine pair_MM (M := 4) (r := 570) x1 x2 he y1 y2 hv hd' c56 hM (by decide) ?_
  rcases no with ⟨c, n⟩ | ⟨c, n⟩
  · exact Or.inl ((ntq_first x1 he (NOp_EX f x Γ Δ n) (by omega)).le (Nat.le_refl _) (by decide))
  · exact Or.inr ((ntq_first x2 he (NOp_EX f y Γ Δ n) (by omega)).le (Nat.le_refl _) (by decide))
end PmZy1a
