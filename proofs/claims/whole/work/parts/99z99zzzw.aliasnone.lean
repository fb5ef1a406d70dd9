/-! CONTEXTS WITH AN ALIAS IN WHICH OPERATIONS REACH NO SCHEME: longer terms. -/
theorem z0oQ_9 : (lnqo [[(62, 7, 6, 2, 0, 0)]] fr1 fg1 1 2 3 2 2 2 2 780 15 9 7 3 && lnqo [[(48, 7, 7, 2, 0, 0)]] frq fgq 0 1 1 1 3 2 1 597 15 9 7 3) = true ∧ ∀ c, c < 32 → max 1 (fx1.getD c 0) ≤ 62 ∧ max 1 (fxq.getD c 0) ≤ 48 := ⟨by decide +kernel, by decide +kernel⟩
theorem z0oQ_10 : (lnqo [[(50, 5, 6, 2, 0, 0)]] fr1 fg1 1 2 3 2 2 2 2 780 13 10 5 3 && lnqo [[(38, 5, 7, 2, 0, 0)]] frq fgq 0 1 1 1 3 2 1 597 13 10 5 3) = true ∧ ∀ c, c < 30 → max 1 (fx1.getD c 0) ≤ 50 ∧ max 1 (fxq.getD c 0) ≤ 38 := ⟨by decide +kernel, by decide +kernel⟩
theorem z0oQ_11 : (lnqo [[(50, 5, 6, 2, 0, 0)]] fr1 fg1 1 2 3 2 2 2 2 780 11 11 5 3 && lnqo [[(38, 5, 7, 2, 0, 0)]] frq fgq 0 1 1 1 3 2 1 597 11 11 5 3) = true ∧ ∀ c, c < 30 → max 1 (fx1.getD c 0) ≤ 50 ∧ max 1 (fxq.getD c 0) ≤ 38 := ⟨by decide +kernel, by decide +kernel⟩
theorem z0oQ_12 : (lnqo [[(50, 5, 6, 2, 0, 0)]] fr1 fg1 1 2 3 2 2 2 2 780 9 12 5 4 && lnqo [[(38, 5, 7, 2, 0, 0)]] frq fgq 0 1 1 1 3 2 1 597 9 12 5 4) = true ∧ ∀ c, c < 30 → max 1 (fx1.getD c 0) ≤ 50 ∧ max 1 (fxq.getD c 0) ≤ 38 := ⟨by decide +kernel, by decide +kernel⟩
theorem z0oQ_13 : (lnqo [[(26, 5, 58, 2, 0, 0)]] fr1 fg1 1 2 3 2 2 2 2 780 7 13 5 5 && lnqo [[(19, 5, 41, 2, 0, 0)]] frq fgq 0 1 1 1 3 2 1 597 7 13 5 5) = true ∧ ∀ c, c < 23 → max 1 (fx1.getD c 0) ≤ 26 ∧ max 1 (fxq.getD c 0) ≤ 19 := ⟨by decide +kernel, by decide +kernel⟩
theorem z0oQ_14 : (lnqo [[(22, 6, 50, 2, 0, 0)]] fr1 fg1 1 2 3 2 2 2 2 780 5 14 6 6 && lnqo [[(18, 6, 42, 2, 0, 0)]] frq fgq 0 1 1 1 3 2 1 597 5 14 6 6) = true ∧ ∀ c, c < 21 → max 1 (fx1.getD c 0) ≤ 22 ∧ max 1 (fxq.getD c 0) ≤ 18 := ⟨by decide +kernel, by decide +kernel⟩
theorem z0mQ_8 : (lnqm [[(50, 9, 6, 3, 0, 0)]] fr1 fg1 1 2 3 2 2 2 2 780 17 8 9 3 && lnqm [[(36, 9, 7, 3, 0, 0)]] frq fgq 0 1 1 1 3 2 1 597 17 8 9 3) = true ∧ ∀ c, c < 29 → max 1 (fx1.getD c 0) ≤ 50 ∧ max 1 (fxq.getD c 0) ≤ 36 := ⟨by decide +kernel, by decide +kernel⟩
theorem z0mQ_9 : (lnqm [[(34, 7, 6, 2, 0, 0)]] fr1 fg1 1 2 3 2 2 2 2 780 15 9 7 3 && lnqm [[(30, 7, 8, 2, 0, 0)]] frq fgq 0 1 1 1 3 2 1 597 15 9 7 3) = true ∧ ∀ c, c < 27 → max 1 (fx1.getD c 0) ≤ 34 ∧ max 1 (fxq.getD c 0) ≤ 30 := ⟨by decide +kernel, by decide +kernel⟩
theorem z0mQ_10 : (lnqm [[(34, 5, 6, 2, 0, 0)]] fr1 fg1 1 2 3 2 2 2 2 780 13 10 5 3 && lnqm [[(30, 5, 8, 2, 0, 0)]] frq fgq 0 1 1 1 3 2 1 597 13 10 5 3) = true ∧ ∀ c, c < 27 → max 1 (fx1.getD c 0) ≤ 34 ∧ max 1 (fxq.getD c 0) ≤ 30 := ⟨by decide +kernel, by decide +kernel⟩
theorem z0mQ_11 : (lnqm [[(34, 5, 6, 2, 0, 0)]] fr1 fg1 1 2 3 2 2 2 2 780 11 11 5 4 && lnqm [[(30, 5, 8, 2, 0, 0)]] frq fgq 0 1 1 1 3 2 1 597 11 11 5 4) = true ∧ ∀ c, c < 27 → max 1 (fx1.getD c 0) ≤ 34 ∧ max 1 (fxq.getD c 0) ≤ 30 := ⟨by decide +kernel, by decide +kernel⟩
theorem z0nQ_14 : (lnqn [[(34, 5, 74, 2, 0, 0)]] fr1 fg1 1 2 3 2 2 2 2 780 14 5 5 && lnqn [[(27, 5, 57, 2, 0, 0)]] frq fgq 0 1 1 1 3 2 1 597 14 5 5) = true ∧ ∀ c, c < 26 → max 1 (fx1.getD c 0) ≤ 34 ∧ max 1 (fxq.getD c 0) ≤ 27 := ⟨by decide +kernel, by decide +kernel⟩
theorem z0nQ_15 : (lnqn [[(26, 6, 58, 2, 0, 0)]] fr1 fg1 1 2 3 2 2 2 2 780 15 6 6 && lnqn [[(24, 6, 54, 2, 0, 0)]] frq fgq 0 1 1 1 3 2 1 597 15 6 6) = true ∧ ∀ c, c < 24 → max 1 (fx1.getD c 0) ≤ 26 ∧ max 1 (fxq.getD c 0) ≤ 24 := ⟨by decide +kernel, by decide +kernel⟩
theorem z0nQ_16 : (lnqn [[(23, 7, 58, 2, 0, 0)]] fr1 fg1 1 2 3 2 2 2 2 780 16 7 7 && lnqn [[(18, 7, 42, 2, 0, 0)]] frq fgq 0 1 1 1 3 2 1 597 16 7 7) = true ∧ ∀ c, c < 22 → max 1 (fx1.getD c 0) ≤ 23 ∧ max 1 (fxq.getD c 0) ≤ 18 := ⟨by decide +kernel, by decide +kernel⟩
section PmZw1a
variable {f : Nat} {t : Ty} {Γ : List Ty} {Δ : List (Nat × Ty × Nat)}
theorem nat_0qoQ (w : TWf f Γ.length (Δ.map (fun a => a.1)) t) (he : TE Γ Δ) (cu : TNo f t) (hΔ1 : Δ.length ≤ 1) (nD : Δ ≠ []) (hb0 : ∀ b ∈ Γ, IS2 (fun _ => False) b) (m0 : 9 ≤ mch t) (h20 : 20 ≤ ccq Γ) (hb : ccq Γ + dch Δ + 2 * mch t ≤ 53) : NtQ Γ Δ f t 780 597 := by
  have d5 := dch_five he nD
  have hm : mch t = 9 ∨ mch t = 10 ∨ mch t = 11 ∨ mch t = 12 ∨ mch t = 13 ∨ mch t = 14 := by omega
  rcases hm with e | e | e | e | e | e
  · have q := z0oQ_9
    rw [Bool.and_eq_true] at q
    have q2 := q.2 (ccq Γ) (by omega)
    exact zone_0qoQ (cd := 15) (K := 7) (La := 3) (sR := (62, 7, 6, 2, 0, 0)) (sG := (48, 7, 7, 2, 0, 0)) w he cu hΔ1 nD hb0 (by omega) (by omega) (by omega) (by omega) (by omega) (by omega) q2.1 q2.2 (by rw [e]; exact q.1.1) (by rw [e]; exact q.1.2) (by omega) (by omega) (by omega) (by omega)
  · have q := z0oQ_10
    rw [Bool.and_eq_true] at q
    have q2 := q.2 (ccq Γ) (by omega)
    exact zone_0qoQ (cd := 13) (K := 5) (La := 3) (sR := (50, 5, 6, 2, 0, 0)) (sG := (38, 5, 7, 2, 0, 0)) w he cu hΔ1 nD hb0 (by omega) (by omega) (by omega) (by omega) (by omega) (by omega) q2.1 q2.2 (by rw [e]; exact q.1.1) (by rw [e]; exact q.1.2) (by omega) (by omega) (by omega) (by omega)
  · have q := z0oQ_11
    rw [Bool.and_eq_true] at q
    have q2 := q.2 (ccq Γ) (by omega)
    exact zone_0qoQ (cd := 11) (K := 5) (La := 3) (sR := (50, 5, 6, 2, 0, 0)) (sG := (38, 5, 7, 2, 0, 0)) w he cu hΔ1 nD hb0 (by omega) (by omega) (by omega) (by omega) (by omega) (by omega) q2.1 q2.2 (by rw [e]; exact q.1.1) (by rw [e]; exact q.1.2) (by omega) (by omega) (by omega) (by omega)
  · have q := z0oQ_12
    rw [Bool.and_eq_true] at q
    have q2 := q.2 (ccq Γ) (by omega)
    exact zone_0qoQ (cd := 9) (K := 5) (La := 4) (sR := (50, 5, 6, 2, 0, 0)) (sG := (38, 5, 7, 2, 0, 0)) w he cu hΔ1 nD hb0 (by omega) (by omega) (by omega) (by omega) (by omega) (by omega) q2.1 q2.2 (by rw [e]; exact q.1.1) (by rw [e]; exact q.1.2) (by omega) (by omega) (by omega) (by omega)
  · have q := z0oQ_13
    rw [Bool.and_eq_true] at q
    have q2 := q.2 (ccq Γ) (by omega)
    exact zone_0qoQ (cd := 7) (K := 5) (La := 5) (sR := (26, 5, 58, 2, 0, 0)) (sG := (19, 5, 41, 2, 0, 0)) w he cu hΔ1 nD hb0 (by omega) (by omega) (by omega) (by omega) (by omega) (by omega) q2.1 q2.2 (by rw [e]; exact q.1.1) (by rw [e]; exact q.1.2) (by omega) (by omega) (by omega) (by omega)
  · have q := z0oQ_14
    rw [Bool.and_eq_true] at q
    have q2 := q.2 (ccq Γ) (by omega)
    exact zone_0qoQ (cd := 5) (K := 6) (La := 6) (sR := (22, 6, 50, 2, 0, 0)) (sG := (18, 6, 42, 2, 0, 0)) w he cu hΔ1 nD hb0 (by omega) (by omega) (by omega) (by omega) (by omega) (by omega) q2.1 q2.2 (by rw [e]; exact q.1.1) (by rw [e]; exact q.1.2) (by omega) (by omega) (by omega) (by omega)
theorem nat_0qQ (w : TWf f Γ.length (Δ.map (fun a => a.1)) t) (he : TE Γ Δ) (d10 : 10 ≤ dch Δ) (hb0 : ∀ b ∈ Γ, IS2 (fun _ => False) b) (m0 : 8 ≤ mch t) (h20 : 20 ≤ ccq Γ) (hb : ccq Γ + dch Δ + 2 * mch t ≤ 53) : NtQ Γ Δ f t 780 597 := by
  have hm : mch t = 8 ∨ mch t = 9 ∨ mch t = 10 ∨ mch t = 11 := by omega
  rcases hm with e | e | e | e
  · have q := z0mQ_8
    rw [Bool.and_eq_true] at q
    have q2 := q.2 (ccq Γ) (by omega)
    exact zone_0qQ (cd := 17) (K := 9) (La := 3) (sR := (50, 9, 6, 3, 0, 0)) (sG := (36, 9, 7, 3, 0, 0)) w he hb0 (by omega) (by omega) (by omega) (by omega) (by omega) (by omega) q2.1 q2.2 (by rw [e]; exact q.1.1) (by rw [e]; exact q.1.2) (by omega) (by omega) (by omega) (by omega)
  · have q := z0mQ_9
    rw [Bool.and_eq_true] at q
    have q2 := q.2 (ccq Γ) (by omega)
    exact zone_0qQ (cd := 15) (K := 7) (La := 3) (sR := (34, 7, 6, 2, 0, 0)) (sG := (30, 7, 8, 2, 0, 0)) w he hb0 (by omega) (by omega) (by omega) (by omega) (by omega) (by omega) q2.1 q2.2 (by rw [e]; exact q.1.1) (by rw [e]; exact q.1.2) (by omega) (by omega) (by omega) (by omega)
  · have q := z0mQ_10
    rw [Bool.and_eq_true] at q
    have q2 := q.2 (ccq Γ) (by omega)
    exact zone_0qQ (cd := 13) (K := 5) (La := 3) (sR := (34, 5, 6, 2, 0, 0)) (sG := (30, 5, 8, 2, 0, 0)) w he hb0 (by omega) (by omega) (by omega) (by omega) (by omega) (by omega) q2.1 q2.2 (by rw [e]; exact q.1.1) (by rw [e]; exact q.1.2) (by omega) (by omega) (by omega) (by omega)
  · have q := z0mQ_11
    rw [Bool.and_eq_true] at q
    have q2 := q.2 (ccq Γ) (by omega)
    exact zone_0qQ (cd := 11) (K := 5) (La := 4) (sR := (34, 5, 6, 2, 0, 0)) (sG := (30, 5, 8, 2, 0, 0)) w he hb0 (by omega) (by omega) (by omega) (by omega) (by omega) (by omega) q2.1 q2.2 (by rw [e]; exact q.1.1) (by rw [e]; exact q.1.2) (by omega) (by omega) (by omega) (by omega)
theorem nat_0qnQ (w : TWf f Γ.length (Δ.map (fun a => a.1)) t) (he : TE Γ Δ) (cu : TNo f t) (eD : Δ = []) (hb0 : ∀ b ∈ Γ, IS2 (fun _ => False) b) (m0 : 14 ≤ mch t) (h20 : 20 ≤ ccq Γ) (hb : ccq Γ + dch Δ + 2 * mch t ≤ 53) : NtQ Γ Δ f t 780 597 := by
  have hm : mch t = 14 ∨ mch t = 15 ∨ mch t = 16 := by omega
  rcases hm with e | e | e
  · have q := z0nQ_14
    rw [Bool.and_eq_true] at q
    have q2 := q.2 (ccq Γ) (by omega)
    exact zone_0qnQ (K := 5) (La := 5) (sR := (34, 5, 74, 2, 0, 0)) (sG := (27, 5, 57, 2, 0, 0)) w he cu eD hb0 (by omega) (by omega) (by omega) (by omega) (by omega) q2.1 q2.2 (by rw [e]; exact q.1.1) (by rw [e]; exact q.1.2) (by omega) (by omega)
  · have q := z0nQ_15
    rw [Bool.and_eq_true] at q
    have q2 := q.2 (ccq Γ) (by omega)
    exact zone_0qnQ (K := 6) (La := 6) (sR := (26, 6, 58, 2, 0, 0)) (sG := (24, 6, 54, 2, 0, 0)) w he cu eD hb0 (by omega) (by omega) (by omega) (by omega) (by omega) q2.1 q2.2 (by rw [e]; exact q.1.1) (by rw [e]; exact q.1.2) (by omega) (by omega)
  · have q := z0nQ_16
    rw [Bool.and_eq_true] at q
    have q2 := q.2 (ccq Γ) (by omega)
    exact zone_0qnQ (K := 7) (La := 7) (sR := (23, 7, 58, 2, 0, 0)) (sG := (18, 7, 42, 2, 0, 0)) w he cu eD hb0 (by omega) (by omega) (by omega) (by omega) (by omega) q2.1 q2.2 (by rw [e]; exact q.1.1) (by rw [e]; exact q.1.2) (by omega) (by omega)
end PmZw1a
