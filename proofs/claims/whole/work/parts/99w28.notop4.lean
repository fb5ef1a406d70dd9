/-! THE BODY OF THE LONG SCHEME HOLDS NO SCHEME WITH BOUND TOP: put together. -/
def kzb : Bool := (List.range 21).all (fun k => (List.range 11).all (fun j => (List.range 11).all (fun q2 => !q5 q2 || (Nat.blt 47 (9 + (18 + k) + (10 + j) + q2) || (znw true (18 + k) (10 + j) q2 || ((Nat.ble (10 + j) 10 && Nat.ble q2 7) || ((Nat.ble (10 + j) 12 && znw true (18 + k) 10 q2) || (Nat.beq (18 + k) 27 && (Nat.beq (10 + j) 11 && Nat.beq q2 0)))))))))
theorem kzb_ok : kzb = true := by decide +kernel
theorem kzb_get {k q1 q2 : Nat} (k18 : 18 ≤ k) (k38 : k ≤ 38) (h10 : 10 ≤ q1) (z2 : q5 q2 = true) (hc : 9 + k + q1 + q2 ≤ 47) : znw true k q1 q2 = true ∨ (q1 ≤ 10 ∧ q2 ≤ 7) ∨ (q1 ≤ 12 ∧ znw true k 10 q2 = true) ∨ (k = 27 ∧ q1 = 11 ∧ q2 = 0) := by
  have q := kzb_ok
  unfold kzb at q
  have q := rng_all (rng_all (rng_all q (i := k - 18) (by omega)) (i := q1 - 10) (by omega)) (i := q2) (by omega)
  rw [z2, Bool.not_true, Bool.false_or, show 18 + (k - 18) = k by omega, show 10 + (q1 - 10) = q1 by omega, Bool.or_eq_true, Bool.or_eq_true, Bool.or_eq_true, Bool.or_eq_true, Bool.and_eq_true, Bool.and_eq_true, Bool.and_eq_true, Bool.and_eq_true] at q
  rcases q with q | q | q | q | q
  · exact (blt_no hc q).elim
  · exact Or.inl q
  · exact Or.inr (Or.inl ⟨Nat.le_of_ble_eq_true q.1, Nat.le_of_ble_eq_true q.2⟩)
  · exact Or.inr (Or.inr (Or.inl ⟨Nat.le_of_ble_eq_true q.1, q.2⟩))
  · exact Or.inr (Or.inr (Or.inr ⟨Nat.eq_of_beq_eq_true q.1, Nat.eq_of_beq_eq_true q.2.1, Nat.eq_of_beq_eq_true q.2.2⟩))
section PmWF
variable {f : Nat} {x y C : Ty} {Γ0 Δ1 : List Ty} {Δ : List (Nat × Ty × Nat)}
theorem pair_c0 (x1 : TWf f (cxs Δ1 Γ0 (tAll tTop C)).length (Δ.map (fun a => a.1)) x) (x2 : TWf f (cxs Δ1 Γ0 (tAll tTop C)).length (Δ.map (fun a => a.1)) y) (he : TE (cxs Δ1 Γ0 (tAll tTop C)) Δ) (y1 : NAt f x) (y2 : NAt f y) (hv : noac (cxs Δ1 Γ0 (tAll tTop C))) (nC : noh 0 C = true) (hd1 : ∀ a ∈ Δ, noal a.2.1 = true) (s1 : smq f x) (s2 : smq f y) (k18 : 18 ≤ tch C) (ho : (∀ b ∈ Γ0, nsch b = true ∨ tch b ≤ tch C + 5) ∧ ∀ b ∈ Δ1, nsch b = true ∨ tch b ≤ tch C + 5) (h5 : 5 ≤ dch Δ) (hb : cch (cxs Δ1 Γ0 (tAll tTop C)) + dch Δ + (2 + (mch x + mch y)) ≤ 60) (h47 : cch (cxs Δ1 Γ0 (tAll tTop C)) ≤ 47) (h40 : cch (cxs Δ1 Γ0 (tAll tTop C)) = 40 → mch x + mch y ≠ 13) (hx : (CFt f x ∨ NHt 0 f x) ∧ (CFt f y ∨ NHt 0 f y) ∨ six6 (tch C) (cch Γ0) (cch Δ1) = false) (h27 : tch C = 27 → cch Γ0 = 11 → cch Δ1 = 0 → ∀ b ∈ Γ0, noh 0 b = true) : PRn f x y (cxs Δ1 Γ0 (tAll tTop C)) Δ := by
  obtain ⟨oc0, oA⟩ := okc_low Δ1 he.1
  have ec : cch (cxs Δ1 Γ0 (tAll tTop C)) = 9 + tch C + cch Γ0 + cch Δ1 := by
    rw [cch_cx, tch_all, tch_top]
    omega
  by_cases hf : ∃ b ∈ Γ0, noh 0 b = false
  · have h10 : 10 ≤ cch Γ0 := by
      obtain ⟨b, hb, e⟩ := hf
      obtain ⟨d, o, q⟩ := okc_mch oc0 hb
      have := noh_six o e
      omega
    have hs : (mch x ≤ mch y ∧ smq f x) ∨ (mch y ≤ mch x ∧ smq f y) := by
      by_cases c : mch x ≤ mch y
      · exact Or.inl ⟨c, s1⟩
      · exact Or.inr ⟨by omega, s2⟩
    rcases kzb_get k18 (by omega) h10 (cxs_q5 he.1) (by omega) with z | z | z | z
    · exact pair_zonew (o := true) x1 x2 he y1 y2 hv hd1 hs z ⟨fun b hb => (ho.1 b hb).imp id (fun h => ⟨rfl, h⟩), fun b hb => (ho.2 b hb).imp id (fun h => ⟨rfl, h⟩)⟩ h5 hb h47
    · exact pair_k2y x1 x2 he y1 y2 hv nC hd1 (by omega) z.1 z.2 (by omega)
    · exact pair_k2b x1 x2 he y1 y2 hv hd1 hs k18 hf h10 z.1 z.2 ho.2 h5 hb h47
    · obtain ⟨b, hb, e⟩ := hf
      rw [h27 z.1 z.2.1 z.2.2 b hb] at e
      cases e
  · refine pair_k2x x1 x2 he y1 y2 hv nC (fun b hb => ?_) hd1 s1 s2 k18 ho h5 hb h47 h40 hx
    cases e : noh 0 b with
    | true => rfl
    | false => exact (hf ⟨b, hb, e⟩).elim
end PmWF
