/-! ANY BOUND THAT HOLDS SCHEMES: pairs. -/
/-- the contexts where that is enough: no names around (e), characters of the term, of the bound, before it, behind it -/
def B1z (e : Bool) (m kb q1 q2 : Nat) : Bool := if e then false else if Nat.ble m 5 then (l1z k0R fr1 fg1 fx1 1 kb q1 q2 (o1z kb q1 q2) && l1z k0G frq fgq fxq 0 kb q1 q2 (o1z kb q1 q2)) else (l1z k1R fr1 fg1 fx1 1 kb q1 q2 (o1z kb q1 q2) && l1z k1G frq fgq fxq 0 kb q1 q2 (o1z kb q1 q2))
section PmHh
variable {f : Nat} {t b : Ty} {Γ0 Δ1 : List Ty} {Δ : List (Nat × Ty × Nat)}
theorem nat_b1 (w : TWf f (cxs Δ1 Γ0 b).length (Δ.map (fun a => a.1)) t) (he : TE (cxs Δ1 Γ0 b) Δ) (ch : CHo f t []) (hs : (∀ a ∈ Γ0, nsch a = true ∨ tch a ≤ tch b) ∧ ∀ a ∈ Δ1, nsch a = true ∨ tch a ≤ tch b) (hz : B1z Δ.isEmpty (mch t) (tch b) (cch Γ0) (cch Δ1) = true) (m3 : 3 ≤ mch t) (h20 : 20 ≤ cch (cxs Δ1 Γ0 b)) (h47 : cch (cxs Δ1 Γ0 b) ≤ 47) (q38 : cch Δ1 ≤ 38) (hb : cch (cxs Δ1 Γ0 b) + dch Δ + 2 * mch t ≤ 58) : NtV (cxs Δ1 Γ0 b) Δ f t 887 597 := by
  unfold B1z at hz
  by_cases c : Δ = []
  · rw [if_pos (List.isEmpty_iff.mpr c)] at hz
    cases hz
  · have hΔ : (false = true ∧ Δ = []) ∨ (false = false ∧ Δ ≠ []) := Or.inr ⟨rfl, c⟩
    rw [if_neg (by intro q; exact c (List.isEmpty_iff.mp q))] at hz
    by_cases m5 : mch t ≤ 5
    · rw [if_pos (Nat.ble_eq_true_of_le m5), Bool.and_eq_true] at hz
      exact nat_bb (un := false) w he hΔ (Or.inr ((co_six w).resolve_right (by omega))) ch hs hz.1 hz.2 k0R_20_3 k0G_20_3 h20 (by omega) m3 (by omega) h20 h47 q38 hb
    · rw [if_neg (by intro q; exact m5 (Nat.le_of_ble_eq_true q)), Bool.and_eq_true] at hz
      by_cases c21 : cch (cxs Δ1 Γ0 b) < 21
      · exact nat_bb (un := true) w he hΔ (Or.inl rfl) ch hs hz.1 hz.2 k1R_20_6 k1G_20_6 h20 c21 (by omega) (by omega) h20 h47 q38 hb
      by_cases c22 : cch (cxs Δ1 Γ0 b) < 22
      · exact nat_bb (un := true) w he hΔ (Or.inl rfl) ch hs hz.1 hz.2 k1R_21_6 k1G_21_6 (by omega) c22 (by omega) (by omega) h20 h47 q38 hb
      by_cases c23 : cch (cxs Δ1 Γ0 b) < 23
      · exact nat_bb (un := true) w he hΔ (Or.inl rfl) ch hs hz.1 hz.2 k1R_22_6 k1G_22_6 (by omega) c23 (by omega) (by omega) h20 h47 q38 hb
      by_cases c24 : cch (cxs Δ1 Γ0 b) < 24
      · exact nat_bb (un := true) w he hΔ (Or.inl rfl) ch hs hz.1 hz.2 k1R_23_6 k1G_23_6 (by omega) c24 (by omega) (by omega) h20 h47 q38 hb
      by_cases c26 : cch (cxs Δ1 Γ0 b) < 26
      · exact nat_bb (un := true) w he hΔ (Or.inl rfl) ch hs hz.1 hz.2 k1R_24_6 k1G_24_6 (by omega) c26 (by omega) (by omega) h20 h47 q38 hb
      by_cases c28 : cch (cxs Δ1 Γ0 b) < 28
      · exact nat_bb (un := true) w he hΔ (Or.inl rfl) ch hs hz.1 hz.2 k1R_26_6 k1G_26_6 (by omega) c28 (by omega) (by omega) h20 h47 q38 hb
      by_cases c32 : cch (cxs Δ1 Γ0 b) < 32
      · exact nat_bb (un := true) w he hΔ (Or.inl rfl) ch hs hz.1 hz.2 k1R_28_6 k1G_28_6 (by omega) c32 (by omega) (by omega) h20 h47 q38 hb
      exact nat_bb (un := true) w he hΔ (Or.inl rfl) ch hs hz.1 hz.2 k1R_32_6 k1G_32_6 (by omega) (by omega) (by omega) (by omega) h20 h47 q38 hb
end PmHh
def AzB (f : Nat) (t : Ty) (Γ : List Ty) (Δ : List (Nat × Ty × Nat)) : Prop := ∃ (Δ1 Γ0 : List Ty) (b : Ty), Γ = cxs Δ1 Γ0 b ∧ ((∀ a ∈ Γ0, nsch a = true ∨ tch a ≤ tch b) ∧ ∀ a ∈ Δ1, nsch a = true ∨ tch a ≤ tch b) ∧ CHo (pee f t).1 (pee f t).2 [] ∧ B1z Δ.isEmpty (mch (pee f t).2) (tch b) (cch Γ0) (cch Δ1) = true ∧ 3 ≤ mch (pee f t).2 ∧ cch Δ1 ≤ 38 ∧ cch Γ + dch Δ + 2 * mch (pee f t).2 ≤ 58
theorem AzB.v {f : Nat} {t : Ty} {Γ : List Ty} {Δ : List (Nat × Ty × Nat)} (w : TWf f Γ.length (Δ.map (fun a => a.1)) t) (he : TE Γ Δ) (h20 : 20 ≤ cch Γ) (h47 : cch Γ ≤ 47) (h : AzB f t Γ Δ) : NtV Γ Δ f t 887 597 := by
  obtain ⟨Δ1, Γ0, b, e, hs, ch, hz, m3, q38, hb⟩ := h
  refine NtV_pee f t w he ?_
  have w' := (pee_ok f _ _ t w).1.1
  subst e
  exact nat_b1 w' he ch hs hz m3 h20 h47 q38 hb
def RESTk : Prop := ∀ (f : Nat) (x y : Ty) (Γ : List Ty) (Δ : List (Nat × Ty × Nat)), TWf f Γ.length (Δ.map (fun a => a.1)) x → TWf f Γ.length (Δ.map (fun a => a.1)) y → TE Γ Δ → NAt f x → NAt f y → noac Γ → (∀ a ∈ Δ, noal a.2.1 = true) → TNo f x → TNo f y → 3 ≤ mch x → 3 ≤ mch y → (mch x ≤ mch y → ¬ NOp f x) → (¬ mch x ≤ mch y → ¬ NOp f y) → 20 ≤ cch Γ → cch Γ ≤ 47 → cch Γ + dch Δ + (2 + (mch x + mch y)) ≤ 60 → NoO f x y Γ Δ → ¬ AzT f x Γ Δ → ¬ AzT f y Γ Δ → ¬ AzB f x Γ Δ → ¬ AzB f y Γ Δ → (¬ ((mch x ≤ mch y → CHo f x []) ∧ (¬ mch x ≤ mch y → CHo f y [])) ∨ LeftJ f x y Γ Δ) → PRn f x y Γ Δ
theorem restj_of (R : RESTk) : RESTj := by
  intro f x y Γ Δ x1 x2 he y1 y2 hv hd' tx ty m3 n3 no1 no2 h20 h47 hb ng ax ay hL
  by_cases a : AzB f x Γ Δ
  · exact pair_ntv x1 x2 he y1 y2 hv hd' (by omega) (Or.inl (a.v x1 he h20 h47))
  by_cases b : AzB f y Γ Δ
  · exact pair_ntv x1 x2 he y1 y2 hv hd' (by omega) (Or.inr (b.v x2 he h20 h47))
  exact R f x y Γ Δ x1 x2 he y1 y2 hv hd' tx ty m3 n3 no1 no2 h20 h47 hb ng ax ay a b hL
theorem pairn_ok (R : RESTk) : PAIRn := pairn_oj (restj_of R)
