/-! THE BODY OF THE LONG SCHEME AND THE LOWER BOUNDS HOLD NO SCHEME WITH BOUND TOP: all such pairs of terms without a choice under an operation. -/
/-- a term of five characters holds no scheme with bound Top -/
theorem NH_five : ∀ (f : Nat) (t : Ty) (D : Nat) (sc : List Nat), TWf f D sc t → mch t ≤ 5 → NHt 0 f t
  | 0, _, _, _, _, _ => trivial
  | f + 1, t, D, sc, w, h => by
    obtain ⟨w0, w5, w6, w7, w8, w9, w10, w11, w12⟩ := w
    have em := mch_is w0.2.1
    have ih := fun u D sc => NH_five f u D sc
    have mpos : ∀ D sc (u : Ty), TWf f D sc u → 1 ≤ mch u := by
      intro D sc u wu
      cases f with
      | zero => exact wu.elim
      | succ f => exact mch_pos wu
    refine ⟨fun c => ?_, fun c => ?_, fun c => ?_, fun c => ?_, fun c g hg hb => ?_, fun c => ?_⟩
    · rw [if_neg (by omega), if_pos (Or.inl c)] at em
      have a1 := mpos _ _ _ (w6 c).2.2.2
      have a2 := tch_pos (w6 c).2.1
      omega
    · rw [if_neg (by omega), if_neg (by omega), if_neg (by omega), if_neg (by omega)] at em
      exact ⟨ih _ _ _ (w7 c).1 (by omega), ih _ _ _ (w7 c).2 (by omega)⟩
    · rw [if_neg (by omega), if_pos (Or.inr c)] at em
      have a1 := mpos _ _ _ (w8 c).2.2
      have a2 := tch_pos (w8 c).1
      omega
    · rw [if_neg (by omega), if_neg (by omega), if_pos c] at em
      refine ⟨ih _ _ _ (w9 c).1 (by omega), ?_⟩
      cases e : noh 0 (nY t) with
      | true => rfl
      | false =>
        have := noh_six (w9 c).2.1 e
        omega
    · rw [if_neg (by omega), if_neg (by omega), if_neg (by omega), if_pos c] at em
      refine ih _ _ _ ((w10 c).2 g hg hb) ?_
      rcases (show g = 0 ∨ g = 1 ∨ g = 2 by omega) with rfl | rfl | rfl
      · show mch (nX t) ≤ 5
        omega
      · show mch (nY t) ≤ 5
        omega
      · show mch (nZ t) ≤ 5
        omega
    · rw [if_neg (by omega), if_neg (by omega), if_neg (by omega), if_neg (by omega)] at em
      exact ih _ _ _ (w11 c).2 (by omega)
/-- a choice and a scheme with bound Top take nine characters -/
theorem CN_nine : ∀ (f : Nat) (t : Ty) (D : Nat) (sc : List Nat), TWf f D sc t → mch t ≤ 8 → CFt f t ∨ NHt 0 f t
  | 0, _, _, _, _, _ => Or.inl trivial
  | f + 1, t, D, sc, w, h => by
    obtain ⟨w0, w5, w6, w7, w8, w9, w10, w11, w12⟩ := w
    have em := mch_is w0.2.1
    have ih := fun u D sc => CN_nine f u D sc
    have k1 := w0.1.1
    have k2 := w0.1.2
    have mpos : ∀ D sc (u : Ty), TWf f D sc u → 1 ≤ mch u := by
      intro D sc u wu
      cases f with
      | zero => exact wu.elim
      | succ f => exact mch_pos wu
    by_cases c5 : nKd t = 5
    · exact Or.inl ⟨fun c => by omega, fun c => by omega, fun c => by omega, by omega⟩
    rw [if_neg c5] at em
    by_cases c68 : nKd t = 6 ∨ nKd t = 8
    · rw [if_pos c68] at em
      refine Or.inl ⟨fun c => ?_, fun c => by omega, fun c => by omega, by omega⟩
      rcases c with c | c
      · have := tch_pos (w6 c).2.1
        exact CF_three f _ _ _ (w6 c).2.2.2 (by omega)
      · have := tch_pos (w8 c).1
        exact CF_three f _ _ _ (w8 c).2.2 (by omega)
    rw [if_neg c68] at em
    by_cases c9 : nKd t = 9
    · rw [if_pos c9] at em
      have a2 := tch_pos (w9 c9).2.1
      rcases ih _ _ _ (w9 c9).1 (by omega) with q | q
      · exact Or.inl ⟨fun c => by omega, fun c => q, fun c => by omega, by omega⟩
      · cases e : noh 0 (nY t) with
        | true => exact Or.inr ⟨fun c => by omega, fun c => by omega, fun c => by omega, fun c => ⟨q, e⟩, fun c => by omega, fun c => by omega⟩
        | false =>
          have := noh_six (w9 c9).2.1 e
          exact Or.inl ⟨fun c => by omega, fun c => CF_three f _ _ _ (w9 c9).1 (by omega), fun c => by omega, by omega⟩
    rw [if_neg c9] at em
    by_cases c10 : nKd t = 10
    · rw [if_pos c10] at em
      refine Or.inr ⟨fun c => by omega, fun c => by omega, fun c => by omega, fun c => by omega, fun c g hg hb => ?_, fun c => by omega⟩
      have q : 1 ≤ nlb (nMk t) := by
        have key : ∀ m, m < 8 → ∀ g, g < 3 → bit m g = true → 1 ≤ nlb m := by decide
        exact key _ (w10 c10).1 g hg hb
      have q2 : 4 ≤ (if nMk t = 0 then 2 else 1 + 3 * nlb (nMk t)) := by
        by_cases m0 : nMk t = 0
        · rw [m0] at q
          exact absurd q (by decide)
        · rw [if_neg m0]
          omega
      refine NH_five f _ _ _ ((w10 c10).2 g hg hb) ?_
      rcases (show g = 0 ∨ g = 1 ∨ g = 2 by omega) with rfl | rfl | rfl
      · show mch (nX t) ≤ 5
        omega
      · show mch (nY t) ≤ 5
        omega
      · show mch (nZ t) ≤ 5
        omega
    rw [if_neg c10] at em
    by_cases c11 : nKd t = 11
    · rcases ih _ _ _ (w11 c11).2 (by omega) with q | q
      · exact Or.inl ⟨fun c => by omega, fun c => q, fun c => by omega, by omega⟩
      · exact Or.inr ⟨fun c => by omega, fun c => by omega, fun c => by omega, fun c => by omega, fun c => by omega, fun c => q⟩
    have c7 : nKd t = 7 ∨ nKd t = 12 := by omega
    have a1 := mpos _ _ _ (w7 c7).1
    have a2 := mpos _ _ _ (w7 c7).2
    exact Or.inr ⟨fun c => by omega, fun c => ⟨NH_five f _ _ _ (w7 c7).1 (by omega), NH_five f _ _ _ (w7 c7).2 (by omega)⟩, fun c => by omega, fun c => by omega, fun c => by omega, fun c => by omega⟩
def six6 (k q1 q2 : Nat) : Bool := [(18, 0, 9), (18, 0, 10), (19, 0, 9), (22, 0, 9), (22, 0, 10), (23, 0, 9)].any (fun s => Nat.beq s.1 k && (Nat.beq s.2.1 q1 && Nat.beq s.2.2 q2))
def kze : Bool := (List.range 21).all (fun k => (List.range 21).all (fun q1 => !q5 q1 || (List.range 21).all (fun q2 => !q5 q2 || ((Nat.ble q1 10 && Nat.ble q2 7) || (Nat.blt 47 (9 + (18 + k) + q1 + q2) || (znw true (18 + k) q1 q2 || (zn2 (18 + k) q1 q2 || six6 (18 + k) q1 q2)))))))
theorem kze_ok : kze = true := by decide +kernel
theorem kze_get {k q1 q2 : Nat} (k18 : 18 ≤ k) (k38 : k ≤ 38) (z1 : q5 q1 = true) (z2 : q5 q2 = true) (h0 : ¬ (q1 ≤ 10 ∧ q2 ≤ 7)) (hc : 9 + k + q1 + q2 ≤ 47) : znw true k q1 q2 = true ∨ zn2 k q1 q2 = true ∨ six6 k q1 q2 = true := by
  have q := kze_ok
  unfold kze at q
  have q := rng_all (rng_all q (i := k - 18) (by omega)) (i := q1) (by omega)
  rw [z1, Bool.not_true, Bool.false_or] at q
  have q := rng_all q (i := q2) (by omega)
  rw [z2, Bool.not_true, Bool.false_or, show 18 + (k - 18) = k by omega, Bool.or_eq_true, Bool.or_eq_true, Bool.or_eq_true, Bool.or_eq_true, Bool.and_eq_true] at q
  rcases q with q | q | q | q | q
  · exact (h0 ⟨Nat.le_of_ble_eq_true q.1, Nat.le_of_ble_eq_true q.2⟩).elim
  · exact (blt_no hc q).elim
  · exact Or.inl q
  · exact Or.inr (Or.inl q)
  · exact Or.inr (Or.inr q)
section PmWA
variable {f : Nat} {x y C : Ty} {Γ0 Δ1 : List Ty} {Δ : List (Nat × Ty × Nat)}
/-- few characters in the other bounds: any two terms -/
theorem pair_k2z (x1 : TWf f (cxs Δ1 Γ0 (tAll tTop C)).length (Δ.map (fun a => a.1)) x) (x2 : TWf f (cxs Δ1 Γ0 (tAll tTop C)).length (Δ.map (fun a => a.1)) y) (he : TE (cxs Δ1 Γ0 (tAll tTop C)) Δ) (y1 : NAt f x) (y2 : NAt f y) (hv : noac (cxs Δ1 Γ0 (tAll tTop C))) (nC : noh 0 C = true) (n0 : ∀ b ∈ Γ0, noh 0 b = true) (hd1 : ∀ a ∈ Δ, noal a.2.1 = true) (k2 : 2 ≤ tch C) (h10 : cch Γ0 ≤ 10) (h7 : cch Δ1 ≤ 7) (hb : cch (cxs Δ1 Γ0 (tAll tTop C)) ≤ 56) : PRn f x y (cxs Δ1 Γ0 (tAll tTop C)) Δ := by
  refine pair_hk x1 x2 he y1 y2 hv hd1 hb ⟨0, tTop, C, Γ0, Δ1, rfl, HKd_noh he.1 k2 nC n0, h10, ?_⟩
  match Δ1, he.1, h7 with
  | [], _, _ => exact Or.inl rfl
  | [W], _, h7 =>
    have h7 : (tch W + 4) + 0 ≤ 7 := h7
    exact Or.inr ⟨W, rfl, by omega⟩
  | W :: V :: r, hc, h7 =>
    have h7 : (tch W + 4) + ((tch V + 4) + cch r) ≤ 7 := h7
    omega
theorem dch_mm : ∀ {Δ : List (Nat × Ty × Nat)} {a : Nat × Ty × Nat}, a ∈ Δ → tch a.2.1 + 4 ≤ dch Δ
  | b :: Δ, a, h => by
    show _ ≤ (tch b.2.1 + 4) + dch Δ
    rcases List.mem_cons.mp h with rfl | h
    · omega
    · have := dch_mm h
      omega
/-- all such pairs -/
theorem pair_k2x (x1 : TWf f (cxs Δ1 Γ0 (tAll tTop C)).length (Δ.map (fun a => a.1)) x) (x2 : TWf f (cxs Δ1 Γ0 (tAll tTop C)).length (Δ.map (fun a => a.1)) y) (he : TE (cxs Δ1 Γ0 (tAll tTop C)) Δ) (y1 : NAt f x) (y2 : NAt f y) (hv : noac (cxs Δ1 Γ0 (tAll tTop C))) (nC : noh 0 C = true) (n0 : ∀ b ∈ Γ0, noh 0 b = true) (hd1 : ∀ a ∈ Δ, noal a.2.1 = true) (s1 : smq f x) (s2 : smq f y) (k18 : 18 ≤ tch C) (ho : (∀ b ∈ Γ0, nsch b = true ∨ tch b ≤ tch C + 5) ∧ ∀ b ∈ Δ1, nsch b = true ∨ tch b ≤ tch C + 5) (h5 : 5 ≤ dch Δ) (hb : cch (cxs Δ1 Γ0 (tAll tTop C)) + dch Δ + (2 + (mch x + mch y)) ≤ 60) (h47 : cch (cxs Δ1 Γ0 (tAll tTop C)) ≤ 47) (h40 : cch (cxs Δ1 Γ0 (tAll tTop C)) = 40 → mch x + mch y ≠ 13) (hx : (CFt f x ∨ NHt 0 f x) ∧ (CFt f y ∨ NHt 0 f y) ∨ six6 (tch C) (cch Γ0) (cch Δ1) = false) : PRn f x y (cxs Δ1 Γ0 (tAll tTop C)) Δ := by
  obtain ⟨oc0, oA⟩ := okc_low Δ1 he.1
  have oC := (ok_all.mp oA).2
  have ec : cch (cxs Δ1 Γ0 (tAll tTop C)) = 9 + tch C + cch Γ0 + cch Δ1 := by
    rw [cch_cx, tch_all, tch_top]
    omega
  have hs : (mch x ≤ mch y ∧ smq f x) ∨ (mch y ≤ mch x ∧ smq f y) := by
    by_cases c : mch x ≤ mch y
    · exact Or.inl ⟨c, s1⟩
    · exact Or.inr ⟨by omega, s2⟩
  by_cases zk : cch Γ0 ≤ 10 ∧ cch Δ1 ≤ 7
  · exact pair_k2z x1 x2 he y1 y2 hv nC n0 hd1 (by omega) zk.1 zk.2 (by omega)
  by_cases hfl : ∃ b ∈ Δ1, noh 0 b = false
  · exact pair_k2c x1 x2 he y1 y2 hv nC n0 hd1 hs s1.2.1 s2.2.1 k18 ho hfl h5 hb h47
  have n1 : ∀ b ∈ Δ1, noh 0 b = true := by
    intro b hb
    cases e : noh 0 b with
    | true => rfl
    | false => exact (hfl ⟨b, hb, e⟩).elim
  by_cases hdl : ∃ a ∈ Δ, noh 0 a.2.1 = false
  · obtain ⟨a, ha, e⟩ := hdl
    have q1 := noh_six (he.2.2 a ha).2.1 e
    have q2 := dch_mm ha
    exact pair_k2d x1 x2 he y1 y2 hv nC n0 hd1 hs s1.2.1 s2.2.1 k18 ho (by omega) (by omega) hb h47
  have nd : ∀ a ∈ Δ, noh 0 a.2.1 = true := by
    intro a ha
    cases e : noh 0 a.2.1 with
    | true => rfl
    | false => exact (hdl ⟨a, ha, e⟩).elim
  have sg : SGc 0 tTop C tTop Γ0 Δ1 := ⟨by decide, hd_top, he.1, cxd_okc (ok_top _) Δ1 he.1, n1, n0⟩
  by_cases cc : (CFt f x ∨ NHt 0 f x) ∧ (CFt f y ∨ NHt 0 f y)
  · exact pair_mixw (HKd_noh he.1 (by omega) nC n0) x1 x2 he y1 y2 hv hd1 ⟨s1, cc.1.imp id (fun h => ⟨nC, h, sg, nd⟩)⟩ ⟨s2, cc.2.imp id (fun h => ⟨nC, h, sg, nd⟩)⟩ k18 h5 hb h47 h40
  have n9 : 9 ≤ mch x ∨ 9 ≤ mch y := by
    by_cases a1 : mch x ≤ 8
    · by_cases a2 : mch y ≤ 8
      · exact (cc ⟨CN_nine f x _ _ x1 a1, CN_nine f y _ _ x2 a2⟩).elim
      · omega
    · omega
  have hx : six6 (tch C) (cch Γ0) (cch Δ1) = false := by
    rcases hx with h | h
    · exact (cc h).elim
    · exact h
  rcases kze_get k18 (by omega) (cch_q5 oc0) (cxs_q5 he.1) zk (by omega) with z | z | z
  · exact pair_zonew (o := true) x1 x2 he y1 y2 hv hd1 hs z ⟨fun b hb => (ho.1 b hb).imp id (fun h => ⟨rfl, h⟩), fun b hb => (ho.2 b hb).imp id (fun h => ⟨rfl, h⟩)⟩ h5 hb h47
  · refine pair_zone2 x1 x2 he y1 y2 hv hd1 hs z ho h5 hb h47 ?_
    by_cases c : mch x ≤ mch y
    · exact Or.inr (Or.inl ⟨c, by omega⟩)
    · exact Or.inr (Or.inr ⟨by omega, by omega⟩)
  · rw [z] at hx; cases hx
end PmWA
