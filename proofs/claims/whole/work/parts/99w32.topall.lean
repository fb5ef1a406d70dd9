/-! LONG SCHEMES WITH BOUND TOP: put together. -/
def h22 : List (Nat × Nat × Nat) := [(18, 0, 13), (22, 0, 9)]
def kz4 : Bool := (List.range 21).all (fun k => (List.range 21).all (fun q1 => !q5 q1 || (List.range 21).all (fun q2 => !q5 q2 || ((Nat.ble q1 10 && Nat.ble q2 7) || (!Nat.beq 40 (9 + (18 + k) + q1 + q2) || (znw true (18 + k) q1 q2 || !nxe h22 (18 + k) q1 q2))))))
theorem kz4_ok : kz4 = true := by decide +kernel
theorem kz4_get {k q1 q2 : Nat} (k18 : 18 ≤ k) (z1 : q5 q1 = true) (z2 : q5 q2 = true) (h0 : ¬ (q1 ≤ 10 ∧ q2 ≤ 7)) (hc : 9 + k + q1 + q2 = 40) : znw true k q1 q2 = true ∨ nxe h22 k q1 q2 = false := by
  have q := kz4_ok
  unfold kz4 at q
  have q := rng_all (rng_all q (i := k - 18) (by omega)) (i := q1) (by omega)
  rw [z1, Bool.not_true, Bool.false_or] at q
  have q := rng_all q (i := q2) (by omega)
  rw [z2, Bool.not_true, Bool.false_or, show 18 + (k - 18) = k by omega, hc, Bool.or_eq_true, Bool.or_eq_true, Bool.or_eq_true, Bool.and_eq_true] at q
  rcases q with q | q | q | q
  · exact (h0 ⟨Nat.le_of_ble_eq_true q.1, Nat.le_of_ble_eq_true q.2⟩).elim
  · exact absurd q (by decide)
  · exact Or.inl q
  · refine Or.inr ?_
    cases e : nxe h22 k q1 q2 with
    | false => rfl
    | true => rw [e] at q; cases q
section PmWJ
variable {f : Nat} {x y C : Ty} {Γ0 Δ1 : List Ty} {Δ : List (Nat × Ty × Nat)}
theorem nob {L : List Ty} (h : ¬ ∃ b ∈ L, noh 0 b = false) : ∀ b ∈ L, noh 0 b = true := by
  intro b hb
  cases e : noh 0 b with
  | true => rfl
  | false => exact (h ⟨b, hb, e⟩).elim
theorem pair_k2w (x1 : TWf f (cxs Δ1 Γ0 (tAll tTop C)).length (Δ.map (fun a => a.1)) x) (x2 : TWf f (cxs Δ1 Γ0 (tAll tTop C)).length (Δ.map (fun a => a.1)) y) (he : TE (cxs Δ1 Γ0 (tAll tTop C)) Δ) (y1 : NAt f x) (y2 : NAt f y) (hv : noac (cxs Δ1 Γ0 (tAll tTop C))) (nC : noh 0 C = true) (n0 : ∀ b ∈ Γ0, noh 0 b = true) (hd1 : ∀ a ∈ Δ, noal a.2.1 = true) (s1 : smq f x) (s2 : smq f y) (k18 : 18 ≤ tch C) (ho : (∀ b ∈ Γ0, nsch b = true ∨ tch b ≤ tch C + 5) ∧ ∀ b ∈ Δ1, nsch b = true ∨ tch b ≤ tch C + 5) (h5 : 5 ≤ dch Δ) (hb : cch (cxs Δ1 Γ0 (tAll tTop C)) + dch Δ + (2 + (mch x + mch y)) ≤ 60) (h47 : cch (cxs Δ1 Γ0 (tAll tTop C)) ≤ 47) (h40 : nxe h22 (tch C) (cch Γ0) (cch Δ1) = true ∨ mch x + mch y ≠ 13 ∨ (NHt 0 f x ∧ NHt 0 f y)) (hx : (CFt f x ∨ NHt 0 f x) ∧ (CFt f y ∨ NHt 0 f y) ∨ six6 (tch C) (cch Γ0) (cch Δ1) = false) : PRn f x y (cxs Δ1 Γ0 (tAll tTop C)) Δ := by
  obtain ⟨oc0, oA⟩ := okc_low Δ1 he.1
  have ec : cch (cxs Δ1 Γ0 (tAll tTop C)) = 9 + tch C + cch Γ0 + cch Δ1 := by
    rw [cch_cx, tch_all, tch_top]
    omega
  have hs : (mch x ≤ mch y ∧ smq f x) ∨ (mch y ≤ mch x ∧ smq f y) := by
    by_cases c : mch x ≤ mch y
    · exact Or.inl ⟨c, s1⟩
    · exact Or.inr ⟨by omega, s2⟩
  by_cases h4 : cch (cxs Δ1 Γ0 (tAll tTop C)) = 40 ∧ mch x + mch y = 13
  · by_cases zk : cch Γ0 ≤ 10 ∧ cch Δ1 ≤ 7
    · exact pair_k2z x1 x2 he y1 y2 hv nC n0 hd1 (by omega) zk.1 zk.2 (by omega)
    by_cases hfl : ∃ b ∈ Δ1, noh 0 b = false
    · exact pair_k2c x1 x2 he y1 y2 hv nC n0 hd1 hs s1.2.1 s2.2.1 k18 ho hfl h5 hb h47
    rcases kz4_get k18 (cch_q5 oc0) (cxs_q5 he.1) zk (by omega) with z | z
    · exact pair_zonew (o := true) x1 x2 he y1 y2 hv hd1 hs z ⟨fun b hb => (ho.1 b hb).imp id (fun h => ⟨rfl, h⟩), fun b hb => (ho.2 b hb).imp id (fun h => ⟨rfl, h⟩)⟩ h5 hb h47
    · have nd : ∀ a ∈ Δ, noh 0 a.2.1 = true ∧ noal a.2.1 = true := by
        intro a ha
        refine ⟨?_, hd1 a ha⟩
        cases e : noh 0 a.2.1 with
        | true => rfl
        | false =>
          have q1 := noh_six (he.2.2 a ha).2.1 e
          have q2 := dch_mm ha
          omega
      rcases h40 with h | h | h
      · rw [h] at z; cases z
      · exact (h h4.2).elim
      · exact pair_lgonew x1 x2 he y1 y2 hv nC ⟨by decide, hd_top, he.1, cxd_okc (ok_top _) Δ1 he.1, nob hfl, n0⟩ nd h.1 h.2 (Or.inl s1) s1.2.1 s2.2.1 k18 h5 hb h47
  · exact pair_k2x x1 x2 he y1 y2 hv nC n0 hd1 s1 s2 k18 ho h5 hb h47 (fun a b => h4 ⟨a, b⟩) hx
/-- all pairs of such terms behind one long scheme, but those with a body of a kind that stands in the way -/
theorem pair_top (x1 : TWf f (cxs Δ1 Γ0 (tAll tTop C)).length (Δ.map (fun a => a.1)) x) (x2 : TWf f (cxs Δ1 Γ0 (tAll tTop C)).length (Δ.map (fun a => a.1)) y) (he : TE (cxs Δ1 Γ0 (tAll tTop C)) Δ) (y1 : NAt f x) (y2 : NAt f y) (hv : noac (cxs Δ1 Γ0 (tAll tTop C))) (hd1 : ∀ a ∈ Δ, noal a.2.1 = true) (s1 : smq f x) (s2 : smq f y) (k18 : 18 ≤ tch C) (ho : (∀ b ∈ Γ0, nsch b = true ∨ tch b ≤ tch C + 5) ∧ ∀ b ∈ Δ1, nsch b = true ∨ tch b ≤ tch C + 5) (h5 : 5 ≤ dch Δ) (hb : cch (cxs Δ1 Γ0 (tAll tTop C)) + dch Δ + (2 + (mch x + mch y)) ≤ 60) (h47 : cch (cxs Δ1 Γ0 (tAll tTop C)) ≤ 47) (h40 : nxe h22 (tch C) (cch Γ0) (cch Δ1) = true ∨ mch x + mch y ≠ 13 ∨ (NHt 0 f x ∧ NHt 0 f y)) (hx : ((CFt f x ∨ NHt 0 f x) ∧ (CFt f y ∨ NHt 0 f y)) ∨ six6 (tch C) (cch Γ0) (cch Δ1) = false) (hx3 : (CFt f x ∧ CFt f y) ∨ (hasq f x = false ∨ hasq f y = false) ∨ nxe fc3 (tch C) (cch Γ0) (cch Δ1) = true) (h27 : tch C = 27 → cch Γ0 = 11 → cch Δ1 = 0 → ∀ b ∈ Γ0, noh 0 b = true) : PRn f x y (cxs Δ1 Γ0 (tAll tTop C)) Δ ∨ Rs3 C Γ0 (cch Γ0) (cch Δ1) := by
  obtain ⟨oc0, oA⟩ := okc_low Δ1 he.1
  have ec : cch (cxs Δ1 Γ0 (tAll tTop C)) = 9 + tch C + cch Γ0 + cch Δ1 := by
    rw [cch_cx, tch_all, tch_top]
    omega
  have hs : (mch x ≤ mch y ∧ smq f x) ∨ (mch y ≤ mch x ∧ smq f y) := by
    by_cases c : mch x ≤ mch y
    · exact Or.inl ⟨c, s1⟩
    · exact Or.inr ⟨by omega, s2⟩
  by_cases fl : FlW C (cch Γ0) (cch Δ1)
  · exact Or.inl (pair_flagw x1 x2 he y1 y2 hv hd1 hs fl k18 h5 hb h47)
  by_cases hf : ∃ b ∈ Γ0, noh 0 b = false
  · have h10 : 10 ≤ cch Γ0 := by
      obtain ⟨b, hb, e⟩ := hf
      obtain ⟨d, o, q⟩ := okc_mch oc0 hb
      have := noh_six o e
      omega
    cases hC : noh 0 C with
    | true =>
      refine Or.inl ?_
      rcases kzb_get k18 (by omega) h10 (cxs_q5 he.1) (by omega) with z | z | z | z
      · exact pair_zonew (o := true) x1 x2 he y1 y2 hv hd1 hs z ⟨fun b hb => (ho.1 b hb).imp id (fun h => ⟨rfl, h⟩), fun b hb => (ho.2 b hb).imp id (fun h => ⟨rfl, h⟩)⟩ h5 hb h47
      · exact pair_k2y x1 x2 he y1 y2 hv hC hd1 (by omega) z.1 z.2 (by omega)
      · exact pair_k2b x1 x2 he y1 y2 hv hd1 hs k18 hf h10 z.1 z.2 ho.2 h5 hb h47
      · obtain ⟨b, hb, e⟩ := hf
        rw [h27 z.1 z.2.1 z.2.2 b hb] at e
        cases e
    | false =>
      refine (fl (Or.inr (Or.inr (Or.inr ⟨nph C hC, ?_, ?_⟩)))).elim
      · unfold zfk
        have e0 : Nat.beq (cch Γ0) 0 = false := by
          cases e : Nat.beq (cch Γ0) 0 with
          | false => rfl
          | true =>
            have := Nat.eq_of_beq_eq_true e
            omega
        have e7 : Nat.beq (cch Γ0) 7 = false := by
          cases e : Nat.beq (cch Γ0) 7 with
          | false => rfl
          | true =>
            have := Nat.eq_of_beq_eq_true e
            omega
        rw [if_pos rfl, e0, e7, Nat.ble_eq_true_of_le (show 7 ≤ cch Γ0 + cch Δ1 by omega)]
        simp
      · cases e : nxe nxa (tch C) (cch Γ0) (cch Δ1) with
        | true => rfl
        | false =>
          have k : ∀ s ∈ nxa, s.2.1 = 0 := by decide
          have : cch Γ0 = 0 := k _ (nxe_no e)
          omega
  · cases hC : noh 0 C with
    | true => exact Or.inl (pair_k2w x1 x2 he y1 y2 hv hC (nob hf) hd1 s1 s2 k18 ho h5 hb h47 h40 hx)
    | false =>
      rcases HKd_or he.1 (by omega) (nob hf) with H | hp
      · exact Or.inl (pair_c1 H x1 x2 he y1 y2 hv hC hd1 s1 s2 k18 ho h5 hb h47 hx3)
      · exact Or.inr ⟨fl, hp⟩
end PmWJ
