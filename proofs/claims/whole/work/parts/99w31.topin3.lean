/-! ONE LONG SCHEME WITH BOUND TOP AND NO OTHER BOUND. -/
section PmWI
variable {f : Nat} {x y C : Ty} {Γ0 Δ1 : List Ty} {Δ : List (Nat × Ty × Nat)}
/-- few characters in the other bounds: any two terms, or a kind of body that stands in the way -/
theorem pair_c3 (x1 : TWf f (cxs Δ1 Γ0 (tAll tTop C)).length (Δ.map (fun a => a.1)) x) (x2 : TWf f (cxs Δ1 Γ0 (tAll tTop C)).length (Δ.map (fun a => a.1)) y) (he : TE (cxs Δ1 Γ0 (tAll tTop C)) Δ) (y1 : NAt f x) (y2 : NAt f y) (hv : noac (cxs Δ1 Γ0 (tAll tTop C))) (n0 : ∀ b ∈ Γ0, noh 0 b = true) (hd1 : ∀ a ∈ Δ, noal a.2.1 = true) (k2 : 2 ≤ tch C) (h10 : cch Γ0 ≤ 10) (h7 : cch Δ1 ≤ 7) (hb : cch (cxs Δ1 Γ0 (tAll tTop C)) ≤ 56) : PRn f x y (cxs Δ1 Γ0 (tAll tTop C)) Δ ∨ phf (Kis (kdt C)) C = true ∨ phl (updt (tauc Γ0) Γ0.length tTop) (Γ0.length + 1) C = true := by
  rcases HKd_or he.1 k2 n0 with H | hp
  · refine Or.inl (pair_hk x1 x2 he y1 y2 hv hd1 hb ⟨0, tTop, C, Γ0, Δ1, rfl, H, h10, ?_⟩)
    clear hb
    match Δ1, h7 with
    | [], _ => exact Or.inl rfl
    | [W], h7 =>
      have h7 : (tch W + 4) + 0 ≤ 7 := h7
      exact Or.inr ⟨W, rfl, by omega⟩
    | W :: V :: r, h7 =>
      have h7 : (tch W + 4) + ((tch V + 4) + cch r) ≤ 7 := h7
      omega
  · exact Or.inr hp
/-- the other bounds hold no scheme with bound Top, or few characters: put together; what is left is a kind of body -/
def Rs3 (C : Ty) (Γ0 : List Ty) (q1 q2 : Nat) : Prop := ¬ FlW C q1 q2 ∧ (phf (Kis (kdt C)) C = true ∨ phl (updt (tauc Γ0) Γ0.length tTop) (Γ0.length + 1) C = true)
theorem pair_c4 (x1 : TWf f (cxs Δ1 Γ0 (tAll tTop C)).length (Δ.map (fun a => a.1)) x) (x2 : TWf f (cxs Δ1 Γ0 (tAll tTop C)).length (Δ.map (fun a => a.1)) y) (he : TE (cxs Δ1 Γ0 (tAll tTop C)) Δ) (y1 : NAt f x) (y2 : NAt f y) (hv : noac (cxs Δ1 Γ0 (tAll tTop C))) (n0 : ∀ b ∈ Γ0, noh 0 b = true) (hd1 : ∀ a ∈ Δ, noal a.2.1 = true) (s1 : smq f x) (s2 : smq f y) (k18 : 18 ≤ tch C) (ho : (∀ b ∈ Γ0, nsch b = true ∨ tch b ≤ tch C + 5) ∧ ∀ b ∈ Δ1, nsch b = true ∨ tch b ≤ tch C + 5) (h5 : 5 ≤ dch Δ) (hb : cch (cxs Δ1 Γ0 (tAll tTop C)) + dch Δ + (2 + (mch x + mch y)) ≤ 60) (h47 : cch (cxs Δ1 Γ0 (tAll tTop C)) ≤ 47) (h40 : cch (cxs Δ1 Γ0 (tAll tTop C)) = 40 → mch x + mch y ≠ 13) (hx : (CFt f x ∧ CFt f y) ∨ (nxe fc3 (tch C) (cch Γ0) (cch Δ1) = true ∧ six6 (tch C) (cch Γ0) (cch Δ1) = false)) : PRn f x y (cxs Δ1 Γ0 (tAll tTop C)) Δ ∨ Rs3 C Γ0 (cch Γ0) (cch Δ1) := by
  have hs : (mch x ≤ mch y ∧ smq f x) ∨ (mch y ≤ mch x ∧ smq f y) := by
    by_cases c : mch x ≤ mch y
    · exact Or.inl ⟨c, s1⟩
    · exact Or.inr ⟨by omega, s2⟩
  by_cases fl : FlW C (cch Γ0) (cch Δ1)
  · exact Or.inl (pair_flagw x1 x2 he y1 y2 hv hd1 hs fl k18 h5 hb h47)
  · rcases HKd_or he.1 (by omega) n0 with H | hp
    · cases hC : noh 0 C with
      | true => exact Or.inl (pair_k2x x1 x2 he y1 y2 hv hC n0 hd1 s1 s2 k18 ho h5 hb h47 h40 (hx.imp (fun h => ⟨Or.inl h.1, Or.inl h.2⟩) (fun h => h.2)))
      | false => exact Or.inl (pair_c1 H x1 x2 he y1 y2 hv hC hd1 s1 s2 k18 ho h5 hb h47 (hx.imp id (fun h => Or.inr h.1)))
    · exact Or.inr ⟨fl, hp⟩
end PmWI
