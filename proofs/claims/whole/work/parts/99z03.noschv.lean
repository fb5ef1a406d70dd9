/-! CONTEXTS WITHOUT A SCHEME, and contexts of 48 characters and more: pairs. -/
theorem z48R : z0R true (lmx fr1 56) 48 53 3 6 = true := by decide +kernel
theorem z48G : z0G true (lmx fr1 56) 48 53 3 6 = true := by decide +kernel
section PmZ3
variable {f : Nat} {t x y : Ty} {Γ : List Ty} {Δ : List (Nat × Ty × Nat)}
theorem nosch_v (w : TWf f Γ.length (Δ.map (fun a => a.1)) t) (he : TE Γ Δ) (ch : CHo f t []) (m3 : 3 ≤ mch t) (hb0 : ∀ b ∈ Γ, nsch b = true) (hb : cch Γ + dch Δ + 2 * mch t ≤ 58) (h20 : 20 ≤ cch Γ) (h47 : cch Γ ≤ 47) : NtV Γ Δ f t 887 597 := by
  have c2 : cch Γ + 2 * mch t ≤ 58 := by omega
  by_cases c : Δ = []
  · exact zone_0 (un := true) (e := true) (ob := 0) (cd := 58 - 2 * mch t - cch Γ) w he (Or.inl ⟨rfl, c⟩) (Or.inl rfl) ch (by omega) (by omega) (by omega) (fun b hb => Or.inl (hb0 b hb)) (by omega) (z0R1_all h20 h47 m3 c2) (z0G1_all h20 h47 m3 c2)
  · exact zone_0 (un := true) (e := false) (ob := 0) (cd := 58 - 2 * mch t - cch Γ) w he (Or.inr ⟨rfl, c⟩) (Or.inl rfl) ch (by omega) (by omega) (by omega) (fun b hb => Or.inl (hb0 b hb)) (by omega) (z0R0_all h20 h47 m3 c2) (z0G0_all h20 h47 m3 c2)
theorem c48_v (w : TWf f Γ.length (Δ.map (fun a => a.1)) t) (he : TE Γ Δ) (ch : CHo f t []) (m3 : 3 ≤ mch t) (m5 : mch t < 6) (hb : cch Γ + 2 * mch t ≤ 58) (h48 : 48 ≤ cch Γ) (hΔ : Δ = []) : NtV Γ Δ f t 887 597 := by
  refine zone_0 (un := true) (e := true) (ob := lmx fr1 56) (cd := 58 - 2 * mch t - cch Γ) w he (Or.inl ⟨rfl, hΔ⟩) (Or.inl rfl) ch (by omega) (by rw [hΔ]; exact Nat.zero_le _) (by omega) (fun b hb' => ?_) (by omega) (z0R_get z48R h48 (by omega) m3 m5 hb) (z0G_get z48G h48 (by omega) m3 m5 hb)
  obtain ⟨d, h1, h2⟩ := okc_mch he.1 hb'
  exact Or.inr (flv_lmx (k := 56) h1 (by omega) (by omega))
end PmZ3
