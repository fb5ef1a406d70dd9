/-! EVERY TERM IN A CONTEXT THAT IS CUT, BY CHARACTERS: one step, and all. -/
section PmO6
variable {N t0 fn s2 hv r0 r1 r2 r3 x0 E p : Nat} {n1 h : Nat → Nat} {P Q : List (List Nat)} {F G : FrT} {X : List Nat} {Z : Nat → Nat}
theorem GEv_step (hm : ∀ y y', y ≤ y' → h y ≤ h y') (T : TBs N t0 fn s2 hv r0 r1 r2 r3 x0 n1 h P Q F G X) (hx : PXk N P F X fn s2 r1 = true) (h21 : r2 ≤ r1) (h32 : r3 ≤ r2) (hz : ZOk Z) {L : Nat} (hL : L ≤ 56) (hZ : ∀ q, 1 ≤ q → q ≤ 56 → ∀ w ∈ frg F q, w.2 + w.1 * X.getD L 0 ≤ Z (q + 2)) {f : Nat} (ih : GEs N t0 n1 s2 h P X E p Z L f) : GEs N t0 n1 s2 h P X E p Z L (f + 1) := by
    intro t z ω Γ Δ cv cd w he hg hl hw hd hE hT hU hb
    have ww := w
    have gg := hg
    have hT1 := hT.1
    have hT2 := hT.2
    unfold tbm at hT2
    unfold ubd at hU
    have hz0 : 0 ≤ X.getD cv 0 := Nat.zero_le _
    have mp := mch_pos w
    obtain ⟨w0, w5, w6, w7, w8, w9, w10, w11, w12⟩ := w
    obtain ⟨v6, v7, v9, v10, v12⟩ := hg
    have em := mch_is w0.2.1
    have hN := T.2.2.2.2.2.2.1
    have hp := T.2.2.2.2.2.1
    unfold GEv
    simp only [Bool.false_eq_true, ↓reduceIte]
    by_cases c5 : nKd t = 5
    · rw [if_pos c5] at em ⊢
      obtain ⟨a, ha⟩ := dlk_some (w5 c5)
      obtain ⟨e1, e2, e3⟩ := he.2.2 _ (dlk_mem ha)
      have e1 : a.2 ≤ Γ.length := e1
      have e2 : ok a.2 a.1 = true := e2
      have e4 : tch a.1 + 4 ≤ dch Δ := dch_mem (dlk_mem ha)
      rw [ha]
      show BF P E p Z (cv + cd) (mch t) (nz t0 n1 s2 h ω (lft a.2 (Γ.length - a.2) a.1))
      have o := ok_lft a.2 (Γ.length - a.2) a.1 0 e2
      rw [show a.2 + (Γ.length - a.2) + 0 = Γ.length by omega] at o
      have et : tch (lft a.2 (Γ.length - a.2) a.1) = tch a.1 := tch_lft _ _ _ _ e2
      have q := (val_up (z := 0) (c := cv + cd) T (by rw [hl]; exact o) (by rw [et]; omega) (by omega) hw hz0).1
      have q2 := (psc_m hp mp hb).1
      rw [hzx_0] at q
      exact BF.base hz mp (by omega)
    rw [if_neg c5] at em
    rw [if_neg c5]
    by_cases c6 : nKd t = 6
    · rw [if_pos (Or.inl c6)] at em
      rw [if_pos c6]
      obtain ⟨-, x1, x2, x3⟩ := w6 c6
      have tp := tch_pos x1
      rw [if_pos c6] at hT2 hU
      have q := ih (nY t) z ω Γ ((nPl t, nX t, Γ.length) :: Δ) cv (cd + tch (nX t) + 4) x3 (he.lam x1 x2) (v6 (Or.inl c6)) hl hw (by show (tch (nX t) + 4) + dch Δ ≤ _; omega) (hE.more T (Nat.le_refl _) (by omega)) ⟨by omega, by omega⟩ hU (by omega)
      obtain ⟨pr, pp, q1⟩ := val_text (z := 0) (cv := cv) T (by rw [hl]; exact x1) (by omega) (by omega) hw hz0
      rw [hzx_0] at q1
      rw [show cv + (cd + tch (nX t) + 4) = cv + cd + tch (nX t) + 4 by omega] at q
      have q2 := BF.lam hp hx tp q (by omega) pp
      have q3 := fxc_le T.2.1 (c := cv) (d := cv + cd) (by omega) (by omega)
      have q4 := Nat.mul_le_mul_left pr.1 q3
      have q5 := T.2.2.2.1
      rw [em, show 4 + (tch (nX t) + mch (nY t)) = mch (nY t) + tch (nX t) + 4 by omega]
      exact q2.mono (by omega)
    rw [if_neg c6]
    by_cases c7 : nKd t = 7
    · rw [if_neg (by omega), if_neg (by omega), if_neg (by omega)] at em
      rw [if_pos c7]
      obtain ⟨x1, x2⟩ := w7 (Or.inl c7)
      rw [if_neg c6, if_pos (Or.inl c7)] at hT2
      rw [if_neg c6, if_neg (by omega), if_pos (Or.inl c7)] at hU
      exact (ih (nX t) z ω Γ Δ cv cd x1 he (v7 (Or.inl c7)) hl hw hd hE ⟨hT1, hT2⟩ hU (by omega)).up hp hz (by omega) hb
    rw [if_neg c7]
    by_cases c8 : nKd t = 8
    · rw [if_pos (Or.inr c8)] at em
      rw [if_pos c8]
      obtain ⟨x1, x2, x3⟩ := w8 c8
      have tp := tch_pos x1
      have u := (val_up (z := 0) (cv := cv) (c := cv + tch (nX t) + 4) T (A := nX t) (by rw [hl]; exact x1) (Nat.le_refl _) (by omega) hw hz0).2
      rw [hzx_0] at u
      have q3 := fxc_le T.2.1 (c := cv) (d := cv + tch (nX t) + 4) (by omega) (by omega)
      rw [if_neg c6, if_neg (by omega), if_pos c8] at hT2
      rw [if_neg c6, if_pos c8] at hU
      have q := ih (nY t) z (h (nz t0 n1 s2 h ω (nX t)) :: ω) (nX t :: Γ) Δ (cv + tch (nX t) + 4) cd x3 (he.all x1 x2) (v6 (Or.inr c8)) (by rw [List.length_cons, List.length_cons, hl]) (fun j hj => by
        rw [vw_cons]
        by_cases e : j = ω.length
        · rw [if_pos e]; exact u
        · rw [if_neg e]
          have := hw j (by rw [List.length_cons] at hj; omega)
          omega) hd (hE.ext hm T hl x1 hw (by omega)) ⟨hT1, by omega⟩ (by omega) (by omega)
      rw [show cv + tch (nX t) + 4 + cd = cv + cd + tch (nX t) + 4 by omega] at q
      have q2 := BF.all hp hx tp q (by omega)
      rw [em, show 4 + (tch (nX t) + mch (nY t)) = mch (nY t) + tch (nX t) + 4 by omega]
      exact q2
    rw [if_neg c8]
    rw [if_neg (by omega)] at em
    by_cases c9 : nKd t = 9
    · rw [if_pos c9]
      have hU' : cv ≤ L := by simpa [c9] using hU
      exact GEv_9 hm T hx h21 h32 hz hL hZ ww he gg hl hw hd hE hT1 hU' hb c9
    rw [if_neg c9]
    rw [if_neg c9] at em
    by_cases c10 : nKd t = 10
    · rw [if_pos c10] at em ⊢
      obtain ⟨m8, x1⟩ := w10 c10
      have hT' : max (tbm f (nX t)) (max (tbm f (nY t)) (tbm f (nZ t))) + 4 ≤ cd := by simpa [c10] using hT2
      have hU' : cv + max (ubd f (nX t)) (max (ubd f (nY t)) (ubd f (nZ t))) ≤ L := by simpa [c10] using hU
      have hT10 : tbm f (nX t) + 4 ≤ cd ∧ tbm f (nY t) + 4 ≤ cd ∧ tbm f (nZ t) + 4 ≤ cd := ⟨Nat.le_trans (Nat.add_le_add_right (Nat.le_max_left _ _) 4) hT', Nat.le_trans (Nat.add_le_add_right (Nat.le_trans (Nat.le_max_left _ _) (Nat.le_max_right _ _)) 4) hT', Nat.le_trans (Nat.add_le_add_right (Nat.le_trans (Nat.le_max_right _ _) (Nat.le_max_right _ _)) 4) hT'⟩
      have hU10 : cv + ubd f (nX t) ≤ L ∧ cv + ubd f (nY t) ≤ L ∧ cv + ubd f (nZ t) ≤ L := ⟨Nat.le_trans (Nat.add_le_add_left (Nat.le_max_left _ _) cv) hU', Nat.le_trans (Nat.add_le_add_left (Nat.le_trans (Nat.le_max_left _ _) (Nat.le_max_right _ _)) cv) hU', Nat.le_trans (Nat.add_le_add_left (Nat.le_trans (Nat.le_max_right _ _) (Nat.le_max_right _ _)) cv) hU'⟩
      have m0 : mch (nX t) ≤ mch t ∧ mch (nY t) ≤ mch t ∧ mch (nZ t) ≤ mch t := by
        rw [em]
        exact ⟨Nat.le_trans (Nat.le_add_right _ _) (Nat.le_add_left _ _), Nat.le_trans (Nat.le_trans (Nat.le_add_right _ _) (Nat.le_add_left _ _)) (Nat.le_add_left _ _), Nat.le_trans (Nat.le_trans (Nat.le_add_left _ _) (Nat.le_add_left _ _)) (Nat.le_add_left _ _)⟩
      have sz : cv + cd + 2 * mch (nX t) ≤ N ∧ cv + cd + 2 * mch (nY t) ≤ N ∧ cv + cd + 2 * mch (nZ t) ≤ N := ⟨Nat.le_trans (Nat.add_le_add_left (Nat.mul_le_mul_left 2 m0.1) _) hb, Nat.le_trans (Nat.add_le_add_left (Nat.mul_le_mul_left 2 m0.2.1) _) hb, Nat.le_trans (Nat.add_le_add_left (Nat.mul_le_mul_left 2 m0.2.2) _) hb⟩
      have k0 := fun hbg => ih (nX t) z ω Γ Δ cv cd (x1 0 (by decide) hbg) he (v10 c10 0 (by decide) hbg) hl hw hd hE ⟨hT1, hT10.1⟩ hU10.1 sz.1
      have k1 := fun hbg => ih (nY t) z ω Γ Δ cv cd (x1 1 (by decide) hbg) he (v10 c10 1 (by decide) hbg) hl hw hd hE ⟨hT1, hT10.2.1⟩ hU10.2.1 sz.2.1
      have k2 := fun hbg => ih (nZ t) z ω Γ Δ cv cd (x1 2 (by decide) hbg) he (v10 c10 2 (by decide) hbg) hl hw hd hE ⟨hT1, hT10.2.2⟩ hU10.2.2 sz.2.2
      rw [em] at hb ⊢
      exact BF_rec T hx h21 h32 hz m8 (Nat.le_trans (by decide) (Nat.le_trans hT1 (Nat.le_add_left _ _))) k0 k1 k2 hb
    rw [if_neg c10]
    rw [if_neg c10] at em
    by_cases c11 : nKd t = 11
    · rw [if_pos c11]
      obtain ⟨m3, x1⟩ := w11 c11
      rw [if_neg (by omega), if_pos (Or.inr c11)] at hT2
      rw [if_neg (by omega), if_neg (by omega), if_pos (Or.inr c11)] at hU
      exact (ih (nX t) z ω Γ Δ cv cd x1 he (v7 (Or.inr c11)) hl hw hd hE ⟨hT1, hT2⟩ hU (by omega)).up hp hz (by omega) hb
    rw [if_neg c11]
    have c12 : nKd t = 12 := by
      have k1 := w0.1.1
      have k2 := w0.1.2
      omega
    have hT' : max (tbm f (nX t)) (tbm f (nY t)) + 4 ≤ cd := by simpa [c12] using hT2
    have hU' : cv + max (ubd f (nX t)) (max (ubd f (nY t)) (ubd f (nZ t))) ≤ L := by simpa [c12] using hU
    exact GEv_12 hm T hx h21 h32 hz hL hZ ih ww he gg hl hw hd hE hT1 hT' (by omega) hb c12
theorem GEv_le (hm : ∀ y y', y ≤ y' → h y ≤ h y') (T : TBs N t0 fn s2 hv r0 r1 r2 r3 x0 n1 h P Q F G X) (hx : PXk N P F X fn s2 r1 = true) (h21 : r2 ≤ r1) (h32 : r3 ≤ r2) (hz : ZOk Z) {L : Nat} (hL : L ≤ 56) (hZ : ∀ q, 1 ≤ q → q ≤ 56 → ∀ w ∈ frg F q, w.2 + w.1 * X.getD L 0 ≤ Z (q + 2)) : ∀ f, GEs N t0 n1 s2 h P X E p Z L f
  | 0 => fun _ _ _ _ _ _ _ w => w.elim
  | f + 1 => GEv_step hm T hx h21 h32 hz hL hZ (GEv_le hm T hx h21 h32 hz hL hZ f)
end PmO6
