/-! ANY CONTEXT, by nature: the leaves of all schemes counted alike. -/
theorem azR_a1 : z0R true (lmx fr1 43) 20 48 3 8 = true := by decide +kernel
theorem azG_a1 : z0G true (lmx fr1 43) 20 48 3 8 = true := by decide +kernel
theorem azR_a2 : z0R true (lmx fr1 25) 20 30 8 11 = true := by decide +kernel
theorem azG_a2 : z0G true (lmx fr1 25) 20 30 8 11 = true := by decide +kernel
theorem azR_a3 : z0R true (lmx fr1 21) 20 26 11 14 = true := by decide +kernel
theorem azG_a3 : z0G true (lmx fr1 21) 20 26 11 14 = true := by decide +kernel
theorem azR_b1 : z0R false (lmx fr1 26) 20 31 3 6 = true := by decide +kernel
theorem azG_b1 : z0G false (lmx fr1 26) 20 31 3 6 = true := by decide +kernel
theorem azR_b2 : z0R false (lmx fr1 21) 20 26 6 10 = true := by decide +kernel
theorem azG_b2 : z0G false (lmx fr1 21) 20 26 6 10 = true := by decide +kernel
theorem azR_b3 : z0R false (lmx fr1 18) 20 23 10 13 = true := by decide +kernel
theorem azG_b3 : z0G false (lmx fr1 18) 20 23 10 13 = true := by decide +kernel
/-- no names around (e), characters of the term, of the context -/
def az (e : Bool) (m c : Nat) : Bool := Nat.ble 20 c && (Nat.ble 3 m && (if e then (Nat.ble m 7 && Nat.ble c 47) || ((Nat.ble m 10 && Nat.ble c 29) || (Nat.ble m 13 && Nat.ble c 25)) else (Nat.ble m 5 && Nat.ble c 30) || ((Nat.ble m 9 && Nat.ble c 25) || (Nat.ble m 12 && Nat.ble c 22))))
section PmHd
variable {f : Nat} {t : Ty} {Γ : List Ty} {Δ : List (Nat × Ty × Nat)}
theorem any_z {c0 c1 m0 m1 : Nat} {e : Bool} {k : Nat} (w : TWf f Γ.length (Δ.map (fun a => a.1)) t) (he : TE Γ Δ) (hΔ : (e = true ∧ Δ = []) ∨ (e = false ∧ Δ ≠ [])) (ch : CHo f t []) (hb : cch Γ + dch Δ + 2 * mch t ≤ 58) (R : z0R e (lmx fr1 k) c0 c1 m0 m1 = true) (G : z0G e (lmx fr1 k) c0 c1 m0 m1 = true) (k1 : c1 ≤ k + 5) (k56 : k ≤ 56) (h0 : c0 ≤ cch Γ) (h1 : cch Γ < c1) (g0 : m0 ≤ mch t) (g1 : mch t < m1) (c56 : cch Γ ≤ 47) (c20 : 20 ≤ cch Γ) : NtV Γ Δ f t 887 597 := by
  refine zone_0 (un := true) (e := e) (ob := lmx fr1 k) (cd := 58 - 2 * mch t - cch Γ) w he hΔ (Or.inl rfl) ch (by omega) (by omega) (by omega) (fun b hb' => ?_) (by omega) (z0R_get R h0 h1 g0 g1 (by omega)) (z0G_get G h0 h1 g0 g1 (by omega))
  obtain ⟨d, o1, o2⟩ := okc_mch he.1 hb'
  exact Or.inr (flv_lmx (k := k) o1 (by omega) k56)
theorem any_v (w : TWf f Γ.length (Δ.map (fun a => a.1)) t) (he : TE Γ Δ) (ch : CHo f t []) (hz : az Δ.isEmpty (mch t) (cch Γ) = true) (hb : cch Γ + dch Δ + 2 * mch t ≤ 58) : NtV Γ Δ f t 887 597 := by
  unfold az at hz
  rw [Bool.and_eq_true, Bool.and_eq_true] at hz
  obtain ⟨h20, m3, hz⟩ := hz
  have h20 : 20 ≤ cch Γ := Nat.le_of_ble_eq_true h20
  have m3 : 3 ≤ mch t := Nat.le_of_ble_eq_true m3
  by_cases c : Δ = []
  · have hΔ : (true = true ∧ Δ = []) ∨ (true = false ∧ Δ ≠ []) := Or.inl ⟨rfl, c⟩
    rw [if_pos (List.isEmpty_iff.mpr c), Bool.or_eq_true, Bool.or_eq_true, Bool.and_eq_true, Bool.and_eq_true, Bool.and_eq_true] at hz
    by_cases q7 : mch t < 8
    · have h47 : cch Γ ≤ 47 := by
        rcases hz with ⟨-, q⟩ | ⟨-, q⟩ | ⟨-, q⟩
        · exact Nat.le_of_ble_eq_true q
        · have := Nat.le_of_ble_eq_true q
          omega
        · have := Nat.le_of_ble_eq_true q
          omega
      exact any_z w he hΔ ch hb azR_a1 azG_a1 (by decide) (by decide) h20 (by omega) m3 q7 h47 h20
    · by_cases q10 : mch t < 11
      · have h29 : cch Γ ≤ 29 := by
          rcases hz with ⟨q, -⟩ | ⟨-, q⟩ | ⟨-, q⟩
          · have := Nat.le_of_ble_eq_true q
            omega
          · exact Nat.le_of_ble_eq_true q
          · have := Nat.le_of_ble_eq_true q
            omega
        exact any_z w he hΔ ch hb azR_a2 azG_a2 (by decide) (by decide) h20 (by omega) (by omega) q10 (by omega) h20
      · have h25 : mch t ≤ 13 ∧ cch Γ ≤ 25 := by
          rcases hz with ⟨q, -⟩ | ⟨q, -⟩ | ⟨q, q'⟩
          · have := Nat.le_of_ble_eq_true q
            omega
          · have := Nat.le_of_ble_eq_true q
            omega
          · exact ⟨Nat.le_of_ble_eq_true q, Nat.le_of_ble_eq_true q'⟩
        exact any_z w he hΔ ch hb azR_a3 azG_a3 (by decide) (by decide) h20 (by omega) (by omega) (by omega) (by omega) h20
  · have hΔ : (false = true ∧ Δ = []) ∨ (false = false ∧ Δ ≠ []) := Or.inr ⟨rfl, c⟩
    rw [if_neg (by intro q; exact c (List.isEmpty_iff.mp q)), Bool.or_eq_true, Bool.or_eq_true, Bool.and_eq_true, Bool.and_eq_true, Bool.and_eq_true] at hz
    by_cases q5 : mch t < 6
    · have h30 : cch Γ ≤ 30 := by
        rcases hz with ⟨-, q⟩ | ⟨-, q⟩ | ⟨-, q⟩
        · exact Nat.le_of_ble_eq_true q
        · have := Nat.le_of_ble_eq_true q
          omega
        · have := Nat.le_of_ble_eq_true q
          omega
      exact any_z w he hΔ ch hb azR_b1 azG_b1 (by decide) (by decide) h20 (by omega) m3 q5 (by omega) h20
    · by_cases q9 : mch t < 10
      · have h25 : cch Γ ≤ 25 := by
          rcases hz with ⟨q, -⟩ | ⟨-, q⟩ | ⟨-, q⟩
          · have := Nat.le_of_ble_eq_true q
            omega
          · exact Nat.le_of_ble_eq_true q
          · have := Nat.le_of_ble_eq_true q
            omega
        exact any_z w he hΔ ch hb azR_b2 azG_b2 (by decide) (by decide) h20 (by omega) (by omega) q9 (by omega) h20
      · have h22 : mch t ≤ 12 ∧ cch Γ ≤ 22 := by
          rcases hz with ⟨q, -⟩ | ⟨q, -⟩ | ⟨q, q'⟩
          · have := Nat.le_of_ble_eq_true q
            omega
          · have := Nat.le_of_ble_eq_true q
            omega
          · exact ⟨Nat.le_of_ble_eq_true q, Nat.le_of_ble_eq_true q'⟩
        exact any_z w he hΔ ch hb azR_b3 azG_b3 (by decide) (by decide) h20 (by omega) (by omega) (by omega) (by omega) h20
end PmHd
/-- what is left of t when the outer operations are taken away is worth little in any context -/
def AzT (f : Nat) (t : Ty) (Γ : List Ty) (Δ : List (Nat × Ty × Nat)) : Prop := CHo (pee f t).1 (pee f t).2 [] ∧ az Δ.isEmpty (mch (pee f t).2) (cch Γ) = true ∧ cch Γ + dch Δ + 2 * mch (pee f t).2 ≤ 58
theorem AzT.v {f : Nat} {t : Ty} {Γ : List Ty} {Δ : List (Nat × Ty × Nat)} (w : TWf f Γ.length (Δ.map (fun a => a.1)) t) (he : TE Γ Δ) (h : AzT f t Γ Δ) : NtV Γ Δ f t 887 597 := NtV_pee f t w he (any_v (pee_ok f _ _ t w).1.1 he h.1 h.2.1 h.2.2)
def RESTj : Prop := ∀ (f : Nat) (x y : Ty) (Γ : List Ty) (Δ : List (Nat × Ty × Nat)), TWf f Γ.length (Δ.map (fun a => a.1)) x → TWf f Γ.length (Δ.map (fun a => a.1)) y → TE Γ Δ → NAt f x → NAt f y → noac Γ → (∀ a ∈ Δ, noal a.2.1 = true) → TNo f x → TNo f y → 3 ≤ mch x → 3 ≤ mch y → (mch x ≤ mch y → ¬ NOp f x) → (¬ mch x ≤ mch y → ¬ NOp f y) → 20 ≤ cch Γ → cch Γ ≤ 47 → cch Γ + dch Δ + (2 + (mch x + mch y)) ≤ 60 → NoO f x y Γ Δ → ¬ AzT f x Γ Δ → ¬ AzT f y Γ Δ → (¬ ((mch x ≤ mch y → CHo f x []) ∧ (¬ mch x ≤ mch y → CHo f y [])) ∨ LeftJ f x y Γ Δ) → PRn f x y Γ Δ
theorem resti_of (R : RESTj) : RESTi := by
  intro f x y Γ Δ x1 x2 he y1 y2 hv hd' tx ty m3 n3 no1 no2 h20 h47 hb ng hL
  by_cases a : AzT f x Γ Δ
  · exact pair_ntv x1 x2 he y1 y2 hv hd' (by omega) (Or.inl (a.v x1 he))
  by_cases b : AzT f y Γ Δ
  · exact pair_ntv x1 x2 he y1 y2 hv hd' (by omega) (Or.inr (b.v x2 he))
  exact R f x y Γ Δ x1 x2 he y1 y2 hv hd' tx ty m3 n3 no1 no2 h20 h47 hb ng a b hL
theorem pairn_oj (R : RESTj) : PAIRn := pairn_oi (resti_of R)
