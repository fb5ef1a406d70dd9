/-! CONTEXTS WITHOUT ROOT SCHEMES: pairs. -/
/-- the contexts where that is enough: no names around (e), characters of the term, of the bound, of the body, around the scheme, before, behind -/
def B6z (e : Bool) (m be k ov q1 q2 : Nat) : Bool := if e then (Nat.ble 8 m && (Nat.ble 34 (8 + be + k + ov + q1 + q2) && (zjR s2R be k ov q1 q2 && zjG s2G be k ov q1 q2))) else if Nat.ble m 5 then (Nat.ble 39 (8 + be + k + ov + q1 + q2) && (zjR s0R be k ov q1 q2 && zjG s0G be k ov q1 q2)) else (Nat.ble 30 (8 + be + k + ov + q1 + q2) && (zjR s1R be k ov q1 q2 && zjG s1G be k ov q1 q2))
section PmHx9
variable {f : Nat} {t b b' B C : Ty} {Γ0 Δ1 : List Ty} {Δ : List (Nat × Ty × Nat)}
theorem nat_bs (hr : ∀ a ∈ cxs Δ1 Γ0 b, hd a ≠ 2) (lb : LBd Γ0 Δ1 b b' B C) (w : TWf f (cxs Δ1 Γ0 b).length (Δ.map (fun a => a.1)) t) (he : TE (cxs Δ1 Γ0 b) Δ) (ch : CHo f t []) (hz : B6z Δ.isEmpty (mch t) (tch B) (tch C) (tch b - tch (tAll B C)) (cch Γ0) (cch Δ1) = true) (m3 : 3 ≤ mch t) (h20 : 20 ≤ cch (cxs Δ1 Γ0 b)) (h47 : cch (cxs Δ1 Γ0 b) ≤ 47) (q38 : cch Δ1 ≤ 38) (hb : cch (cxs Δ1 Γ0 b) + dch Δ + 2 * mch t ≤ 58) : NtV (cxs Δ1 Γ0 b) Δ f t 887 597 := by
  have ec := cch_cx (Γ0 := Γ0) (β := b) Δ1
  have cσ := lb.1.ch
  have eσ := tch_all B C
  have eq : 8 + tch B + tch C + (tch b - tch (tAll B C)) + cch Γ0 + cch Δ1 = cch (cxs Δ1 Γ0 b) := by omega
  unfold B6z zjR zjG at hz
  rw [eq] at hz
  by_cases c : Δ = []
  · have hΔ : (true = true ∧ Δ = []) ∨ (true = false ∧ Δ ≠ []) := Or.inl ⟨rfl, c⟩
    rw [if_pos (List.isEmpty_iff.mpr c), Bool.and_eq_true, Bool.and_eq_true, Bool.and_eq_true] at hz
    obtain ⟨m8, h30, zR, zG⟩ := hz
    have m8 := Nat.le_of_ble_eq_true m8
    have h30 := Nat.le_of_ble_eq_true h30
    exact zone_hs (un := true) hr lb w he hΔ (Or.inl rfl) ch zR zG s2R_34 s2G_34 h30 (by omega) m8 (by omega) h47 q38 hb
  · have hΔ : (false = true ∧ Δ = []) ∨ (false = false ∧ Δ ≠ []) := Or.inr ⟨rfl, c⟩
    rw [if_neg (by intro q; exact c (List.isEmpty_iff.mp q))] at hz
    by_cases m5 : mch t ≤ 5
    · rw [if_pos (Nat.ble_eq_true_of_le m5), Bool.and_eq_true, Bool.and_eq_true] at hz
      obtain ⟨h39, zR, zG⟩ := hz
      have h39 := Nat.le_of_ble_eq_true h39
      exact zone_hs (un := false) hr lb w he hΔ (Or.inr ((co_six w).resolve_right (by omega))) ch zR zG s0R_39 s0G_39 h39 (by omega) m3 (by omega) h47 q38 hb
    · rw [if_neg (by intro q; exact m5 (Nat.le_of_ble_eq_true q)), Bool.and_eq_true, Bool.and_eq_true] at hz
      obtain ⟨h30, zR, zG⟩ := hz
      have h30 := Nat.le_of_ble_eq_true h30
      by_cases c36 : cch (cxs Δ1 Γ0 b) < 36
      · exact zone_hs (un := true) hr lb w he hΔ (Or.inl rfl) ch zR zG s1R_30 s1G_30 h30 c36 (by omega) (by omega) h47 q38 hb
      exact zone_hs (un := true) hr lb w he hΔ (Or.inl rfl) ch zR zG s1R_36 s1G_36 (by omega) (by omega) (by omega) (by omega) h47 q38 hb
end PmHx9
def AzH (f : Nat) (t : Ty) (Γ : List Ty) (Δ : List (Nat × Ty × Nat)) : Prop := ∃ (Δ1 Γ0 : List Ty) (b b' B C : Ty), Γ = cxs Δ1 Γ0 b ∧ (∀ a ∈ cxs Δ1 Γ0 b, hd a ≠ 2) ∧ LBd Γ0 Δ1 b b' B C ∧ CHo (pee f t).1 (pee f t).2 [] ∧ B6z Δ.isEmpty (mch (pee f t).2) (tch B) (tch C) (tch b - tch (tAll B C)) (cch Γ0) (cch Δ1) = true ∧ 3 ≤ mch (pee f t).2 ∧ cch Δ1 ≤ 38 ∧ cch Γ + dch Δ + 2 * mch (pee f t).2 ≤ 58
theorem AzH.v {f : Nat} {t : Ty} {Γ : List Ty} {Δ : List (Nat × Ty × Nat)} (w : TWf f Γ.length (Δ.map (fun a => a.1)) t) (he : TE Γ Δ) (h20 : 20 ≤ cch Γ) (h47 : cch Γ ≤ 47) (h : AzH f t Γ Δ) : NtV Γ Δ f t 887 597 := by
  obtain ⟨Δ1, Γ0, b, b', B, C, e, hr, lb, ch, hz, m3, q38, hb⟩ := h
  refine NtV_pee f t w he ?_
  have w' := (pee_ok f _ _ t w).1.1
  subst e
  exact nat_bs hr lb w' he ch hz m3 h20 h47 q38 hb
def RESTp9 : Prop := ∀ (f : Nat) (x y : Ty) (Γ : List Ty) (Δ : List (Nat × Ty × Nat)), TWf f Γ.length (Δ.map (fun a => a.1)) x → TWf f Γ.length (Δ.map (fun a => a.1)) y → TE Γ Δ → NAt f x → NAt f y → noac Γ → (∀ a ∈ Δ, noal a.2.1 = true) → TNo f x → TNo f y → 3 ≤ mch x → 3 ≤ mch y → (mch x ≤ mch y → ¬ NOp f x) → (¬ mch x ≤ mch y → ¬ NOp f y) → 20 ≤ cch Γ → cch Γ ≤ 47 → cch Γ + dch Δ + (2 + (mch x + mch y)) ≤ 60 → NoO f x y Γ Δ → ¬ AzT f x Γ Δ → ¬ AzT f y Γ Δ → ¬ AzB f x Γ Δ → ¬ AzB f y Γ Δ → ¬ AzC f x Γ Δ → ¬ AzC f y Γ Δ → ¬ AzI f x Γ Δ → ¬ AzI f y Γ Δ → ¬ AzF f x Γ Δ → ¬ AzF f y Γ Δ → ¬ AzG f x Γ Δ → ¬ AzG f y Γ Δ → ¬ AzH f x Γ Δ → ¬ AzH f y Γ Δ → (¬ ((mch x ≤ mch y → CHo f x []) ∧ (¬ mch x ≤ mch y → CHo f y [])) ∨ LeftJ f x y Γ Δ) → PRn f x y Γ Δ
theorem resto9_of (R : RESTp9) : RESTo9 := by
  intro f x y Γ Δ x1 x2 he y1 y2 hv hd' tx ty m3 n3 no1 no2 h20 h47 hb ng ax ay bx bz cx cy dx dy ex ey gx gy hL
  by_cases a : AzH f x Γ Δ
  · exact pair_ntv x1 x2 he y1 y2 hv hd' (by omega) (Or.inl (a.v x1 he h20 h47))
  by_cases b : AzH f y Γ Δ
  · exact pair_ntv x1 x2 he y1 y2 hv hd' (by omega) (Or.inr (b.v x2 he h20 h47))
  exact R f x y Γ Δ x1 x2 he y1 y2 hv hd' tx ty m3 n3 no1 no2 h20 h47 hb ng ax ay bx bz cx cy dx dy ex ey gx gy a b hL
theorem pairn_op (R : RESTp9) : PAIRn := pairn_oo (resto9_of R)
