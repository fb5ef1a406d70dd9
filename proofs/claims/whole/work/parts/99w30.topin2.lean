/-! THE BODY OF THE LONG SCHEME HOLDS A SCHEME WITH BOUND TOP, other bounds there. -/
section PmWH
variable {f : Nat} {x y C : Ty} {Γ0 Δ1 : List Ty} {Δ : List (Nat × Ty × Nat)}
theorem nxe_yes {l : List (Nat × Nat × Nat)} {k q1 q2 : Nat} (h : ∀ s ∈ l, s.2.1 + s.2.2 = 0) (hq : 1 ≤ q1 + q2) : nxe l k q1 q2 = true := by
  cases e : nxe l k q1 q2 with
  | true => rfl
  | false =>
    have : q1 + q2 = 0 := h _ (nxe_no e)
    omega
/-- what is left where other bounds stand about -/
def Rs2 (C : Ty) (Γ0 : List Ty) (q1 q2 : Nat) : Prop := (zfk 0 (tch C) q1 q2 && nxe nxa (tch C) q1 q2) = false ∧ (phl (updt (tauc Γ0) Γ0.length tTop) (Γ0.length + 1) C = true ∨ (kdt C = 2 ∧ phf (Kis 2) C = true))
theorem pair_c2 (x1 : TWf f (cxs Δ1 Γ0 (tAll tTop C)).length (Δ.map (fun a => a.1)) x) (x2 : TWf f (cxs Δ1 Γ0 (tAll tTop C)).length (Δ.map (fun a => a.1)) y) (he : TE (cxs Δ1 Γ0 (tAll tTop C)) Δ) (y1 : NAt f x) (y2 : NAt f y) (hv : noac (cxs Δ1 Γ0 (tAll tTop C))) (hC : noh 0 C = false) (n0 : ∀ b ∈ Γ0, noh 0 b = true) (hd1 : ∀ a ∈ Δ, noal a.2.1 = true) (s1 : smq f x) (s2 : smq f y) (k18 : 18 ≤ tch C) (hq : 1 ≤ cch Γ0 + cch Δ1) (ho : (∀ b ∈ Γ0, nsch b = true ∨ tch b ≤ tch C + 5) ∧ ∀ b ∈ Δ1, nsch b = true ∨ tch b ≤ tch C + 5) (h5 : 5 ≤ dch Δ) (hb : cch (cxs Δ1 Γ0 (tAll tTop C)) + dch Δ + (2 + (mch x + mch y)) ≤ 60) (h47 : cch (cxs Δ1 Γ0 (tAll tTop C)) ≤ 47) (hx : (CFt f x ∧ CFt f y) ∨ (hasq f x = false ∨ hasq f y = false) ∨ nxe fc3 (tch C) (cch Γ0) (cch Δ1) = true) : PRn f x y (cxs Δ1 Γ0 (tAll tTop C)) Δ ∨ Rs2 C Γ0 (cch Γ0) (cch Δ1) := by
  obtain ⟨oc0, oA⟩ := okc_low Δ1 he.1
  have oC := (ok_all.mp oA).2
  have ec : cch (cxs Δ1 Γ0 (tAll tTop C)) = 9 + tch C + cch Γ0 + cch Δ1 := by
    rw [cch_cx, tch_all, tch_top]
    omega
  have hs : (mch x ≤ mch y ∧ smq f x) ∨ (mch y ≤ mch x ∧ smq f y) := by
    by_cases c : mch x ≤ mch y
    · exact Or.inl ⟨c, s1⟩
    · exact Or.inr ⟨by omega, s2⟩
  have k33 : tch C ≤ 33 := by
    have a1 := cch_five oc0
    have a2 := cch_fiv he.1
    omega
  have fl := fun z => Or.inl (b := Rs2 C Γ0 (cch Γ0) (cch Δ1)) (pair_flagw x1 x2 he y1 y2 hv hd1 hs z k18 h5 hb h47)
  cases hz : (zfk 0 (tch C) (cch Γ0) (cch Δ1) && nxe nxa (tch C) (cch Γ0) (cch Δ1)) with
  | true =>
    rw [Bool.and_eq_true] at hz
    exact fl (Or.inr (Or.inr (Or.inr ⟨nph C hC, hz.1, hz.2⟩)))
  | false =>
    rcases HKd_or he.1 (by omega) n0 with H | hp | hl
    · exact Or.inl (pair_c1 H x1 x2 he y1 y2 hv hC hd1 s1 s2 k18 ho h5 hb h47 hx)
    · rcases kdt_cases oC with ⟨k, h⟩ | ⟨k, h⟩ | ⟨k, h⟩ | ⟨k, h⟩ | ⟨k, h⟩
      · rcases h with rfl | ⟨j, -, rfl⟩
        · rw [tch_top] at k18; omega
        · rw [tch_var] at k18; omega
      · rw [k] at hp
        exact fl (Or.inr (Or.inl ⟨k, hp, by omega, nxe_yes (by decide) hq⟩))
      · rw [k] at hp
        exact fl (Or.inr (Or.inr (Or.inl ⟨k, hp, by omega, nxe_yes (by decide) hq⟩)))
      · rw [k] at hp
        exact Or.inr ⟨hz, Or.inr ⟨k, hp⟩⟩
      · rw [k] at hp
        exact fl (Or.inl ⟨k, hp, by omega, nxe_yes (by decide) hq⟩)
    · exact Or.inr ⟨hz, Or.inl hl⟩
end PmWH
