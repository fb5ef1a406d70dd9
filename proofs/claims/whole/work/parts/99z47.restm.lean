/-! ANY CONTEXT, BY THE SCHEME WITH THE LONGEST BODY: pairs. -/
def zjR (L : LnT) (be k ov q1 q2 : Nat) : Bool := liz L xr1 fr1 fg1 1 3 (kpz fr1 0 (max 1 (fx1.getD q1 0)) ov) (wbz fr1 1 (max 1 (fx1.getD q1 0)) be) (max 1 (fx1.getD q1 0)) (ojz k ov q1 q2) k q2 (8 + be + k + ov + q1 + q2)
def zjG (L : LnT) (be k ov q1 q2 : Nat) : Bool := liz L xrq frq fgq 0 1 (kpz frq 1 (max 1 (fxq.getD q1 0)) ov) (wbz frq 0 (max 1 (fxq.getD q1 0)) be) (max 1 (fxq.getD q1 0)) (ojz k ov q1 q2) k q2 (8 + be + k + ov + q1 + q2)
/-- the contexts where that is enough: no names around (e), characters of the term, of the bound, of the body, around the scheme, before, behind -/
def B3z (e : Bool) (m be k ov q1 q2 : Nat) : Bool := if e then (Nat.ble 8 m && (Nat.ble 30 (8 + be + k + ov + q1 + q2) && (zjR j2R be k ov q1 q2 && zjG j2G be k ov q1 q2))) else if Nat.ble m 5 then zjR j0R be k ov q1 q2 && zjG j0G be k ov q1 q2 else zjR j1R be k ov q1 q2 && zjG j1G be k ov q1 q2
section PmHs
variable {f : Nat} {t b b' B C : Ty} {Γ0 Δ1 : List Ty} {Δ : List (Nat × Ty × Nat)}
theorem nat_bj (lb : LBd Γ0 Δ1 b b' B C) (w : TWf f (cxs Δ1 Γ0 b).length (Δ.map (fun a => a.1)) t) (he : TE (cxs Δ1 Γ0 b) Δ) (ch : CHo f t []) (hz : B3z Δ.isEmpty (mch t) (tch B) (tch C) (tch b - tch (tAll B C)) (cch Γ0) (cch Δ1) = true) (m3 : 3 ≤ mch t) (h20 : 20 ≤ cch (cxs Δ1 Γ0 b)) (h47 : cch (cxs Δ1 Γ0 b) ≤ 47) (q38 : cch Δ1 ≤ 38) (hb : cch (cxs Δ1 Γ0 b) + dch Δ + 2 * mch t ≤ 58) : NtV (cxs Δ1 Γ0 b) Δ f t 887 597 := by
  have ec := cch_cx (Γ0 := Γ0) (β := b) Δ1
  have cσ := lb.1.ch
  have eσ := tch_all B C
  have eq : 8 + tch B + tch C + (tch b - tch (tAll B C)) + cch Γ0 + cch Δ1 = cch (cxs Δ1 Γ0 b) := by omega
  unfold B3z zjR zjG at hz
  rw [eq] at hz
  by_cases c : Δ = []
  · have hΔ : (true = true ∧ Δ = []) ∨ (true = false ∧ Δ ≠ []) := Or.inl ⟨rfl, c⟩
    rw [if_pos (List.isEmpty_iff.mpr c), Bool.and_eq_true, Bool.and_eq_true, Bool.and_eq_true] at hz
    obtain ⟨m8, h30, zR, zG⟩ := hz
    have m8 := Nat.le_of_ble_eq_true m8
    have h30 := Nat.le_of_ble_eq_true h30
    by_cases c32 : cch (cxs Δ1 Γ0 b) < 32
    · exact zone_j (un := true) lb w he hΔ (Or.inl rfl) ch zR zG j2R_30 j2G_30 h30 c32 m8 (by omega) h47 q38 hb
    by_cases c36 : cch (cxs Δ1 Γ0 b) < 36
    · exact zone_j (un := true) lb w he hΔ (Or.inl rfl) ch zR zG j2R_32 j2G_32 (by omega) c36 m8 (by omega) h47 q38 hb
    exact zone_j (un := true) lb w he hΔ (Or.inl rfl) ch zR zG j2R_36 j2G_36 (by omega) (by omega) m8 (by omega) h47 q38 hb
  · have hΔ : (false = true ∧ Δ = []) ∨ (false = false ∧ Δ ≠ []) := Or.inr ⟨rfl, c⟩
    rw [if_neg (by intro q; exact c (List.isEmpty_iff.mp q))] at hz
    by_cases m5 : mch t ≤ 5
    · rw [if_pos (Nat.ble_eq_true_of_le m5), Bool.and_eq_true] at hz
      by_cases c36 : cch (cxs Δ1 Γ0 b) < 36
      · exact zone_j (un := false) lb w he hΔ (Or.inr ((co_six w).resolve_right (by omega))) ch hz.1 hz.2 j0R_20 j0G_20 h20 c36 m3 (by omega) h47 q38 hb
      exact zone_j (un := false) lb w he hΔ (Or.inr ((co_six w).resolve_right (by omega))) ch hz.1 hz.2 j0R_36 j0G_36 (by omega) (by omega) m3 (by omega) h47 q38 hb
    · rw [if_neg (by intro q; exact m5 (Nat.le_of_ble_eq_true q)), Bool.and_eq_true] at hz
      by_cases c21 : cch (cxs Δ1 Γ0 b) < 21
      · exact zone_j (un := true) lb w he hΔ (Or.inl rfl) ch hz.1 hz.2 j1R_20 j1G_20 (by omega) c21 (by omega) (by omega) h47 q38 hb
      by_cases c22 : cch (cxs Δ1 Γ0 b) < 22
      · exact zone_j (un := true) lb w he hΔ (Or.inl rfl) ch hz.1 hz.2 j1R_21 j1G_21 (by omega) c22 (by omega) (by omega) h47 q38 hb
      by_cases c23 : cch (cxs Δ1 Γ0 b) < 23
      · exact zone_j (un := true) lb w he hΔ (Or.inl rfl) ch hz.1 hz.2 j1R_22 j1G_22 (by omega) c23 (by omega) (by omega) h47 q38 hb
      by_cases c24 : cch (cxs Δ1 Γ0 b) < 24
      · exact zone_j (un := true) lb w he hΔ (Or.inl rfl) ch hz.1 hz.2 j1R_23 j1G_23 (by omega) c24 (by omega) (by omega) h47 q38 hb
      by_cases c26 : cch (cxs Δ1 Γ0 b) < 26
      · exact zone_j (un := true) lb w he hΔ (Or.inl rfl) ch hz.1 hz.2 j1R_24 j1G_24 (by omega) c26 (by omega) (by omega) h47 q38 hb
      by_cases c28 : cch (cxs Δ1 Γ0 b) < 28
      · exact zone_j (un := true) lb w he hΔ (Or.inl rfl) ch hz.1 hz.2 j1R_26 j1G_26 (by omega) c28 (by omega) (by omega) h47 q38 hb
      by_cases c32 : cch (cxs Δ1 Γ0 b) < 32
      · exact zone_j (un := true) lb w he hΔ (Or.inl rfl) ch hz.1 hz.2 j1R_28 j1G_28 (by omega) c32 (by omega) (by omega) h47 q38 hb
      exact zone_j (un := true) lb w he hΔ (Or.inl rfl) ch hz.1 hz.2 j1R_32 j1G_32 (by omega) (by omega) (by omega) (by omega) h47 q38 hb
end PmHs
def AzI (f : Nat) (t : Ty) (Γ : List Ty) (Δ : List (Nat × Ty × Nat)) : Prop := ∃ (Δ1 Γ0 : List Ty) (b b' B C : Ty), Γ = cxs Δ1 Γ0 b ∧ LBd Γ0 Δ1 b b' B C ∧ CHo (pee f t).1 (pee f t).2 [] ∧ B3z Δ.isEmpty (mch (pee f t).2) (tch B) (tch C) (tch b - tch (tAll B C)) (cch Γ0) (cch Δ1) = true ∧ 3 ≤ mch (pee f t).2 ∧ cch Δ1 ≤ 38 ∧ cch Γ + dch Δ + 2 * mch (pee f t).2 ≤ 58
theorem AzI.v {f : Nat} {t : Ty} {Γ : List Ty} {Δ : List (Nat × Ty × Nat)} (w : TWf f Γ.length (Δ.map (fun a => a.1)) t) (he : TE Γ Δ) (h20 : 20 ≤ cch Γ) (h47 : cch Γ ≤ 47) (h : AzI f t Γ Δ) : NtV Γ Δ f t 887 597 := by
  obtain ⟨Δ1, Γ0, b, b', B, C, e, lb, ch, hz, m3, q38, hb⟩ := h
  refine NtV_pee f t w he ?_
  have w' := (pee_ok f _ _ t w).1.1
  subst e
  exact nat_bj lb w' he ch hz m3 h20 h47 q38 hb
def RESTm9 : Prop := ∀ (f : Nat) (x y : Ty) (Γ : List Ty) (Δ : List (Nat × Ty × Nat)), TWf f Γ.length (Δ.map (fun a => a.1)) x → TWf f Γ.length (Δ.map (fun a => a.1)) y → TE Γ Δ → NAt f x → NAt f y → noac Γ → (∀ a ∈ Δ, noal a.2.1 = true) → TNo f x → TNo f y → 3 ≤ mch x → 3 ≤ mch y → (mch x ≤ mch y → ¬ NOp f x) → (¬ mch x ≤ mch y → ¬ NOp f y) → 20 ≤ cch Γ → cch Γ ≤ 47 → cch Γ + dch Δ + (2 + (mch x + mch y)) ≤ 60 → NoO f x y Γ Δ → ¬ AzT f x Γ Δ → ¬ AzT f y Γ Δ → ¬ AzB f x Γ Δ → ¬ AzB f y Γ Δ → ¬ AzC f x Γ Δ → ¬ AzC f y Γ Δ → ¬ AzI f x Γ Δ → ¬ AzI f y Γ Δ → (¬ ((mch x ≤ mch y → CHo f x []) ∧ (¬ mch x ≤ mch y → CHo f y [])) ∨ LeftJ f x y Γ Δ) → PRn f x y Γ Δ
theorem restl_of (R : RESTm9) : RESTl := by
  intro f x y Γ Δ x1 x2 he y1 y2 hv hd' tx ty m3 n3 no1 no2 h20 h47 hb ng ax ay bx bz cx cy hL
  by_cases a : AzI f x Γ Δ
  · exact pair_ntv x1 x2 he y1 y2 hv hd' (by omega) (Or.inl (a.v x1 he h20 h47))
  by_cases b : AzI f y Γ Δ
  · exact pair_ntv x1 x2 he y1 y2 hv hd' (by omega) (Or.inr (b.v x2 he h20 h47))
  exact R f x y Γ Δ x1 x2 he y1 y2 hv hd' tx ty m3 n3 no1 no2 h20 h47 hb ng ax ay bx bz cx cy a b hL
theorem pairn_om (R : RESTm9) : PAIRn := pairn_ol (restl_of R)
