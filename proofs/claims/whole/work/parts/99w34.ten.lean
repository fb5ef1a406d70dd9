/-! A CHOICE, AN INSTANCE AND A SCHEME WITH BOUND TOP TAKE ELEVEN CHARACTERS. -/
theorem hasi_hasq : ∀ (f : Nat) (t : Ty), hasi f t = true → hasq f t = true
  | 0, _, e => e
  | f + 1, t, e => by
    have ih := fun u => hasi_hasq f u
    unfold hasi at e
    unfold hasq
    by_cases c5 : nKd t = 5
    · rw [if_pos c5] at e; cases e
    rw [if_neg c5] at e ⊢
    by_cases c6 : nKd t = 6
    · rw [if_pos (Or.inl c6)] at e
      rw [if_pos c6]
      exact ih _ e
    rw [if_neg c6]
    by_cases c8 : nKd t = 8
    · rw [if_neg (by omega), if_pos (Or.inl c8)]
    rw [if_neg (by omega)] at e
    by_cases c7 : nKd t = 7 ∨ nKd t = 11
    · rw [if_pos c7] at e ⊢
      exact ih _ e
    rw [if_neg c7] at e ⊢
    by_cases c9 : nKd t = 9
    · rw [if_pos (Or.inr c9)]
    rw [if_neg c9] at e
    rw [if_neg (by omega)]
    by_cases c10 : nKd t = 10
    · rw [if_pos c10] at e ⊢
      rw [Bool.or_eq_true, Bool.or_eq_true] at e
      rcases e with e | e | e
      · rw [ih _ e]; rfl
      · rw [ih _ e, Bool.true_or, Bool.or_true]
      · rw [ih _ e, Bool.or_true, Bool.or_true]
    rw [if_neg c10] at e ⊢
    rw [Bool.or_eq_true] at e
    rcases e with e | e
    · rw [ih _ e]; rfl
    · rw [ih _ e, Bool.or_true]
theorem hasi_two {f D : Nat} {sc : List Nat} {t : Ty} (w : TWf f D sc t) (h : mch t ≤ 2) : hasi f t = false := by
  cases e : hasi f t with
  | false => rfl
  | true =>
    have := hasi_hasq f t e
    rw [hasq_two w h] at this
    cases this
/-- seven characters: no scheme with bound Top or no instance -/
theorem NI_seven : ∀ (f : Nat) (t : Ty) (D : Nat) (sc : List Nat), TWf f D sc t → mch t ≤ 7 → NHt 0 f t ∨ hasi f t = false
  | 0, _, _, _, _, _ => Or.inl trivial
  | f + 1, t, D, sc, w, h => by
    by_cases h5 : mch t ≤ 5
    · exact Or.inl (NH_five _ _ _ _ w h5)
    obtain ⟨w0, w5, w6, w7, w8, w9, w10, w11, w12⟩ := w
    have em := mch_is w0.2.1
    have ih := fun u D sc => NI_seven f u D sc
    have k1 := w0.1.1
    have k2 := w0.1.2
    have mpos : ∀ D sc (u : Ty), TWf f D sc u → 1 ≤ mch u := by
      intro D sc u wu
      cases f with
      | zero => exact wu.elim
      | succ f => exact mch_pos wu
    by_cases c5 : nKd t = 5
    · rw [if_pos c5] at em; omega
    rw [if_neg c5] at em
    by_cases c68 : nKd t = 6 ∨ nKd t = 8
    · rw [if_pos c68] at em
      refine Or.inr ?_
      unfold hasi
      rw [if_neg c5, if_pos c68]
      rcases c68 with c | c
      · have := tch_pos (w6 c).2.1
        exact hasi_two (w6 c).2.2.2 (by omega)
      · have := tch_pos (w8 c).1
        exact hasi_two (w8 c).2.2 (by omega)
    rw [if_neg c68] at em
    by_cases c9 : nKd t = 9
    · rw [if_pos c9] at em
      have a1 := mpos _ _ _ (w9 c9).1
      have a2 := tch_pos (w9 c9).2.1
      refine Or.inl ⟨fun c => by omega, fun c => by omega, fun c => by omega, fun c => ⟨NH_five f _ _ _ (w9 c9).1 (by omega), ?_⟩, fun c => by omega, fun c => by omega⟩
      cases e : noh 0 (nY t) with
      | true => rfl
      | false =>
        have := noh_six (w9 c9).2.1 e
        omega
    rw [if_neg c9] at em
    by_cases c10 : nKd t = 10
    · rw [if_pos c10] at em
      refine Or.inl ⟨fun c => by omega, fun c => by omega, fun c => by omega, fun c => by omega, fun c g hg hb => ?_, fun c => by omega⟩
      have q2 : 2 ≤ (if nMk t = 0 then 2 else 1 + 3 * nlb (nMk t)) := by
        by_cases m0 : nMk t = 0
        · rw [if_pos m0]; omega
        · rw [if_neg m0]
          have key : ∀ m, m < 8 → m ≠ 0 → 1 ≤ nlb m := by decide
          have := key _ (w10 c10).1 m0
          omega
      refine NH_five f _ _ _ ((w10 c10).2 g hg hb) ?_
      rcases (show g = 0 ∨ g = 1 ∨ g = 2 by omega) with rfl | rfl | rfl
      · show mch (nX t) ≤ 5
        omega
      · show mch (nY t) ≤ 5
        omega
      · show mch (nZ t) ≤ 5
        omega
    rw [if_neg c10] at em
    by_cases c11 : nKd t = 11
    · exact Or.inl ⟨fun c => by omega, fun c => by omega, fun c => by omega, fun c => by omega, fun c => by omega, fun c => NH_five f _ _ _ (w11 c11).2 (by omega)⟩
    have c7 : nKd t = 7 ∨ nKd t = 12 := by omega
    exact Or.inl ⟨fun c => by omega, fun c => ⟨NH_five f _ _ _ (w7 c7).1 (by omega), NH_five f _ _ _ (w7 c7).2 (by omega)⟩, fun c => by omega, fun c => by omega, fun c => by omega, fun c => by omega⟩
/-- ten characters -/
theorem CNI_ten : ∀ (f : Nat) (t : Ty) (D : Nat) (sc : List Nat), TWf f D sc t → mch t ≤ 10 → CFt f t ∨ NHt 0 f t ∨ hasi f t = false
  | 0, _, _, _, _, _ => Or.inl trivial
  | f + 1, t, D, sc, w, h => by
    obtain ⟨w0, w5, w6, w7, w8, w9, w10, w11, w12⟩ := w
    have em := mch_is w0.2.1
    have k1 := w0.1.1
    have k2 := w0.1.2
    have mpos : ∀ D sc (u : Ty), TWf f D sc u → 1 ≤ mch u := by
      intro D sc u wu
      cases f with
      | zero => exact wu.elim
      | succ f => exact mch_pos wu
    by_cases c5 : nKd t = 5
    · exact Or.inl ⟨fun c => by omega, fun c => by omega, fun c => by omega, by omega⟩
    rw [if_neg c5] at em
    by_cases c68 : nKd t = 6 ∨ nKd t = 8
    · rw [if_pos c68] at em
      have key : ∀ D sc, TWf f D sc (nY t) → mch (nY t) ≤ 5 → CFt (f + 1) t ∨ NHt 0 (f + 1) t ∨ hasi (f + 1) t = false := by
        intro D sc wy hy
        cases e : hasi f (nY t) with
        | true => exact Or.inl ⟨fun _ => CF_five wy (hasi_hasq f _ e) hy, fun c => by omega, fun c => by omega, by omega⟩
        | false =>
          refine Or.inr (Or.inr ?_)
          unfold hasi
          rw [if_neg c5, if_pos c68]
          exact e
      rcases c68 with c | c
      · have := tch_pos (w6 c).2.1
        exact key _ _ (w6 c).2.2.2 (by omega)
      · have := tch_pos (w8 c).1
        exact key _ _ (w8 c).2.2 (by omega)
    rw [if_neg c68] at em
    by_cases c9 : nKd t = 9
    · rw [if_pos c9] at em
      have a2 := tch_pos (w9 c9).2.1
      rcases CN_nine f _ _ _ (w9 c9).1 (by omega) with q | q
      · exact Or.inl ⟨fun c => by omega, fun c => q, fun c => by omega, by omega⟩
      · cases e : noh 0 (nY t) with
        | true => exact Or.inr (Or.inl ⟨fun c => by omega, fun c => by omega, fun c => by omega, fun c => ⟨q, e⟩, fun c => by omega, fun c => by omega⟩)
        | false =>
          have := noh_six (w9 c9).2.1 e
          exact Or.inl ⟨fun c => by omega, fun c => CF_three f _ _ _ (w9 c9).1 (by omega), fun c => by omega, by omega⟩
    rw [if_neg c9] at em
    by_cases c10 : nKd t = 10
    · rw [if_pos c10] at em
      have u0 : ∀ m, m < 8 → ∀ g, g < 3 → ∀ g', g' < 3 → (decide (nlb m ≤ 1) && (bit m g && (bit m g' && !decide (g = g')))) = false := by decide
      have u1 : ∀ m, m < 8 → ∀ g, g < 3 → ∀ g', g' < 3 → nlb m ≤ 1 → bit m g = true → bit m g' = true → g = g' := by
        intro m hm g hg g' hg' a b c
        have q := u0 m hm g hg g' hg'
        rw [decide_eq_true a, b, c] at q
        by_cases e : g = g'
        · exact e
        · rw [decide_eq_false e] at q
          cases q
      by_cases n2 : 2 ≤ nlb (nMk t)
      · have m0 : nMk t ≠ 0 := by
          intro e
          rw [e] at n2
          exact absurd n2 (by decide)
        rw [if_neg m0] at em
        refine Or.inl ⟨fun c => by omega, fun c => by omega, fun c g hg hb => ?_, by omega⟩
        refine CF_three f _ _ _ ((w10 c10).2 g hg hb) ?_
        rcases (show g = 0 ∨ g = 1 ∨ g = 2 by omega) with rfl | rfl | rfl
        · show mch (nX t) ≤ 3
          omega
        · show mch (nY t) ≤ 3
          omega
        · show mch (nZ t) ≤ 3
          omega
      · by_cases hb : ∃ g, g < 3 ∧ bit (nMk t) g = true
        · obtain ⟨g, hg, hb⟩ := hb
          have wg := (w10 c10).2 g hg hb
          have q2 : 2 ≤ (if nMk t = 0 then 2 else 1 + 3 * nlb (nMk t)) := by
            by_cases m0 : nMk t = 0
            · rw [if_pos m0]; omega
            · rw [if_neg m0]
              have key : ∀ m, m < 8 → m ≠ 0 → 1 ≤ nlb m := by decide
              have := key _ (w10 c10).1 m0
              omega
          have h8 : mch (nP t g) ≤ 8 := by
            rcases (show g = 0 ∨ g = 1 ∨ g = 2 by omega) with rfl | rfl | rfl
            · show mch (nX t) ≤ 8
              omega
            · show mch (nY t) ≤ 8
              omega
            · show mch (nZ t) ≤ 8
              omega
          have uq := fun g' hg' hb' => u1 _ (w10 c10).1 g hg g' hg' (by omega) hb hb'
          rcases CN_nine f _ _ _ wg h8 with q | q
          · exact Or.inl ⟨fun c => by omega, fun c => by omega, fun c g' hg' hb' => by rw [← uq g' hg' hb']; exact q, by omega⟩
          · exact Or.inr (Or.inl ⟨fun c => by omega, fun c => by omega, fun c => by omega, fun c => by omega, fun c g' hg' hb' => by rw [← uq g' hg' hb']; exact q, fun c => by omega⟩)
        · exact Or.inl ⟨fun c => by omega, fun c => by omega, fun c g hg hb' => (hb ⟨g, hg, hb'⟩).elim, by omega⟩
    rw [if_neg c10] at em
    by_cases c11 : nKd t = 11
    · rcases CN_nine f _ _ _ (w11 c11).2 (by omega) with q | q
      · exact Or.inl ⟨fun c => by omega, fun c => q, fun c => by omega, by omega⟩
      · exact Or.inr (Or.inl ⟨fun c => by omega, fun c => by omega, fun c => by omega, fun c => by omega, fun c => by omega, fun c => q⟩)
    have c7 : nKd t = 7 ∨ nKd t = 12 := by omega
    have a1 := mpos _ _ _ (w7 c7).1
    have a2 := mpos _ _ _ (w7 c7).2
    have nh : NHt 0 f (nX t) → NHt 0 f (nY t) → NHt 0 (f + 1) t := fun p q => ⟨fun c => by omega, fun c => ⟨p, q⟩, fun c => by omega, fun c => by omega, fun c => by omega, fun c => by omega⟩
    rcases c7 with c | c
    · by_cases hy : mch (nY t) ≤ 5
      · rcases CN_nine f _ _ _ (w7 (Or.inl c)).1 (by omega) with q | q
        · exact Or.inl ⟨fun c => by omega, fun c => q, fun c => by omega, by omega⟩
        · exact Or.inr (Or.inl (nh q (NH_five f _ _ _ (w7 (Or.inl c)).2 hy)))
      · exact Or.inl ⟨fun c => by omega, fun _ => CF_three f _ _ _ (w7 (Or.inl c)).1 (by omega), fun c => by omega, by omega⟩
    · have wx := (w7 (Or.inr c)).1
      have wy := (w7 (Or.inr c)).2
      have hi : hasi f (nX t) = false → hasi f (nY t) = false → hasi (f + 1) t = false := by
        intro p q
        unfold hasi
        rw [if_neg c5, if_neg c68, if_neg (by omega), if_neg c9, if_neg c10, p, q]
        rfl
      by_cases hx : mch (nX t) ≤ 5
      · by_cases hy : mch (nY t) ≤ 5
        · exact Or.inr (Or.inl (nh (NH_five f _ _ _ wx hx) (NH_five f _ _ _ wy hy)))
        · rcases NI_seven f _ _ _ wy (by omega) with q | q
          · exact Or.inr (Or.inl (nh (NH_five f _ _ _ wx hx) q))
          · exact Or.inr (Or.inr (hi (hasi_two wx (by omega)) q))
      · rcases NI_seven f _ _ _ wx (by omega) with q | q
        · exact Or.inr (Or.inl (nh q (NH_five f _ _ _ wy (by omega))))
        · exact Or.inr (Or.inr (hi q (hasi_two wy (by omega))))
