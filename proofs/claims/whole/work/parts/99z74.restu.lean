/-! ROOT SCHEMES with a bound that names variables, whose body holds the very bound, other binders longer. -/
def w0R : LnT := [[], [], [], [], [], [], [], [], [], [], [], [], [], [], [], [], [], [], [], [], [], [], [], [], [], [], [], [], [], [], [], [], [], [], [], [], [], [], [], [], [], [], [], [], [], [], [(79, 0, 34, 3, 0, 18)], [(115, 0, 64, 3, 1, 19)]]
def w0G : LnT := [[], [], [], [], [], [], [], [], [], [], [], [], [], [], [], [], [], [], [], [], [], [], [], [], [], [], [], [], [], [], [], [], [], [], [], [], [], [], [], [], [], [], [], [], [], [], [(35, 0, 15, 3, 0, 18)], [(75, 0, 48, 3, 1, 19)]]
theorem w0R_46 : lnf false false w0R fr1 fg1 1 2 3 2 2 2 2 887 46 48 3 6 = true := by decide +kernel
theorem w0G_46 : lnf false false w0G frq fgq 0 1 1 1 3 2 1 597 46 48 3 6 = true := by decide +kernel
def B9z (be k q1 q2 : Nat) : Bool := Nat.ble 46 (8 + be + k + q1 + q2) && (zgR w0R be k q1 q2 && zgG w0G be k q1 q2)
section PmHk9
variable {f : Nat} {t B C : Ty} {Γ0 Δ1 : List Ty} {Δ : List (Nat × Ty × Nat)}
theorem nat_bn (q13 : cch Γ0 ≤ 13) (lb : LBd Γ0 Δ1 (tAll B C) tTop B C) (nB : nsch B = true) (b2 : 4 ≤ tch B) (b16 : tch B ≤ 16) (fl : sB B C = true) (w : TWf f (cxs Δ1 Γ0 (tAll B C)).length (Δ.map (fun a => a.1)) t) (he : TE (cxs Δ1 Γ0 (tAll B C)) Δ) (ch : CHo f t []) (nΔ : Δ ≠ []) (m5 : mch t ≤ 5) (hz : B9z (tch B) (tch C) (cch Γ0) (cch Δ1) = true) (m3 : 3 ≤ mch t) (h20 : 20 ≤ cch (cxs Δ1 Γ0 (tAll B C))) (h47 : cch (cxs Δ1 Γ0 (tAll B C)) ≤ 47) (q38 : cch Δ1 ≤ 38) (hb : cch (cxs Δ1 Γ0 (tAll B C)) + dch Δ + 2 * mch t ≤ 58) : NtV (cxs Δ1 Γ0 (tAll B C)) Δ f t 887 597 := by
  have ec := cch_cx (Γ0 := Γ0) (β := tAll B C) Δ1
  have eσ := tch_all B C
  have ez : tch (tAll B C) - tch (tAll B C) = 0 := Nat.sub_self _
  have eq : 8 + tch B + tch C + cch Γ0 + cch Δ1 = cch (cxs Δ1 Γ0 (tAll B C)) := by omega
  have oσ := lb.1.2.1
  have oC : ok (Γ0.length + 1) C = true := (ok_all.mp oσ).2
  have oc0 := (okc_low Δ1 he.1).1
  have oB := (ok_all.mp oσ).1
  have fR := fun d => so_rows (d := d) oc0 q13 oB nB b2 b16 oC lb.2.2.2.1 fl
  have fG := so_goals oc0 q13 oB nB b2 b16 oC lb.2.2.2.1 fl
  have key : ∀ {un e : Bool} {LR LG : LnT} {c0 c1 m0 m1 : Nat}, ((e = true ∧ Δ = []) ∨ (e = false ∧ Δ ≠ [])) → (un = true ∨ COk f t 0) → zgR LR (tch B) (tch C) (cch Γ0) (cch Δ1) = true → zgG LG (tch B) (tch C) (cch Γ0) (cch Δ1) = true → lnf un e LR fr1 fg1 1 2 3 2 2 2 2 887 c0 c1 m0 m1 = true → lnf un e LG frq fgq 0 1 1 1 3 2 1 597 c0 c1 m0 m1 = true → c0 ≤ cch (cxs Δ1 Γ0 (tAll B C)) → cch (cxs Δ1 Γ0 (tAll B C)) < c1 → m0 ≤ mch t → mch t < m1 → NtV (cxs Δ1 Γ0 (tAll B C)) Δ f t 887 597 := by
    intro un e LR LG c0 c1 m0 m1 hΔ cu zR zG tR tG h0 h1 g0 g1
    unfold zgR at zR
    unfold zgG at zG
    rw [eq] at zR zG
    exact zone_k (un := un) (e := e) fR fG lb w he hΔ cu ch (by rw [ez]; exact zR) (by rw [ez]; exact zG) tR tG h0 h1 g0 g1 h47 q38 hb
  unfold B9z at hz
  rw [eq, Bool.and_eq_true, Bool.and_eq_true] at hz
  obtain ⟨h46, zR, zG⟩ := hz
  exact key (un := false) (Or.inr ⟨rfl, nΔ⟩) (Or.inr ((co_six w).resolve_right (by omega))) zR zG w0R_46 w0G_46 (Nat.le_of_ble_eq_true h46) (by omega) m3 (by omega)
end PmHk9
def AzN (f : Nat) (t : Ty) (Γ : List Ty) (Δ : List (Nat × Ty × Nat)) : Prop := ∃ (Δ1 Γ0 : List Ty) (B C : Ty), Γ = cxs Δ1 Γ0 (tAll B C) ∧ cch Γ0 ≤ 13 ∧ LBd Γ0 Δ1 (tAll B C) tTop B C ∧ nsch B = true ∧ 4 ≤ tch B ∧ tch B ≤ 16 ∧ sB B C = true ∧ CHo (pee f t).1 (pee f t).2 [] ∧ Δ ≠ [] ∧ mch (pee f t).2 ≤ 5 ∧ B9z (tch B) (tch C) (cch Γ0) (cch Δ1) = true ∧ 3 ≤ mch (pee f t).2 ∧ cch Δ1 ≤ 38 ∧ cch Γ + dch Δ + 2 * mch (pee f t).2 ≤ 58
theorem AzN.v {f : Nat} {t : Ty} {Γ : List Ty} {Δ : List (Nat × Ty × Nat)} (w : TWf f Γ.length (Δ.map (fun a => a.1)) t) (he : TE Γ Δ) (h20 : 20 ≤ cch Γ) (h47 : cch Γ ≤ 47) (h : AzN f t Γ Δ) : NtV Γ Δ f t 887 597 := by
  obtain ⟨Δ1, Γ0, B, C, e, oB, lb, nB, b2, b16, fl, ch, nΔ, m5, hz, m3, q38, hb⟩ := h
  refine NtV_pee f t w he ?_
  have w' := (pee_ok f _ _ t w).1.1
  subst e
  exact nat_bn oB lb nB b2 b16 fl w' he ch nΔ m5 hz m3 h20 h47 q38 hb
def RESTu9 : Prop := ∀ (f : Nat) (x y : Ty) (Γ : List Ty) (Δ : List (Nat × Ty × Nat)), TWf f Γ.length (Δ.map (fun a => a.1)) x → TWf f Γ.length (Δ.map (fun a => a.1)) y → TE Γ Δ → NAt f x → NAt f y → noac Γ → (∀ a ∈ Δ, noal a.2.1 = true) → TNo f x → TNo f y → 3 ≤ mch x → 3 ≤ mch y → (mch x ≤ mch y → ¬ NOp f x) → (¬ mch x ≤ mch y → ¬ NOp f y) → 20 ≤ cch Γ → cch Γ ≤ 47 → cch Γ + dch Δ + (2 + (mch x + mch y)) ≤ 60 → NoO f x y Γ Δ → ¬ AzT f x Γ Δ → ¬ AzT f y Γ Δ → ¬ AzB f x Γ Δ → ¬ AzB f y Γ Δ → ¬ AzC f x Γ Δ → ¬ AzC f y Γ Δ → ¬ AzI f x Γ Δ → ¬ AzI f y Γ Δ → ¬ AzF f x Γ Δ → ¬ AzF f y Γ Δ → ¬ AzG f x Γ Δ → ¬ AzG f y Γ Δ → ¬ AzH f x Γ Δ → ¬ AzH f y Γ Δ → ¬ PrS f x y Γ Δ → ¬ AzK f x Γ Δ → ¬ AzK f y Γ Δ → ¬ AzL f x Γ Δ → ¬ AzL f y Γ Δ → ¬ AzM f x Γ Δ → ¬ AzM f y Γ Δ → ¬ PrG f x y Γ Δ → ¬ AzN f x Γ Δ → ¬ AzN f y Γ Δ → (¬ ((mch x ≤ mch y → CHo f x []) ∧ (¬ mch x ≤ mch y → CHo f y [])) ∨ LeftJ f x y Γ Δ) → PRn f x y Γ Δ
theorem restt9_of (R : RESTu9) : RESTt9 := by
  intro f x y Γ Δ x1 x2 he y1 y2 hv hd' tx ty m3 n3 no1 no2 h20 h47 hb ng ax ay bx bz cx cy dx dy ex ey gx gy ix iy jx kx ky lx ly mx my px hL
  by_cases a : AzN f x Γ Δ
  · exact pair_ntv x1 x2 he y1 y2 hv hd' (by omega) (Or.inl (a.v x1 he h20 h47))
  by_cases b : AzN f y Γ Δ
  · exact pair_ntv x1 x2 he y1 y2 hv hd' (by omega) (Or.inr (b.v x2 he h20 h47))
  exact R f x y Γ Δ x1 x2 he y1 y2 hv hd' tx ty m3 n3 no1 no2 h20 h47 hb ng ax ay bx bz cx cy dx dy ex ey gx gy ix iy jx kx ky lx ly mx my px a b hL
theorem pairn_ou (R : RESTu9) : PAIRn := pairn_ot (restt9_of R)
