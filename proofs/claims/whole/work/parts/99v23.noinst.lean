/-! A SHORTER TERM WITHOUT AN INSTANCE. -/
section PmWf
variable {f : Nat} {x y : Ty} {Γ : List Ty} {Δ : List (Nat × Ty × Nat)}
theorem EX0_hasq : ∀ (f : Nat) (t : Ty) (Γ : List Ty) (Δ : List (Nat × Ty × Nat)) (D : Nat) (sc : List Nat), TWf f D sc t → hasq f t = false → EX0 f t Γ Δ
  | 0, _, _, _, _, _, w, _ => w.elim
  | f + 1, t, Γ, Δ, D, sc, w, e => by
    obtain ⟨w0, w5, w6, w7, w8, w9, w10, w11, w12⟩ := w
    have ih := fun u Γ' Δ' D sc (wu : TWf f D sc u) => EX0_hasq f u Γ' Δ' D sc wu
    unfold hasq at e
    refine ⟨fun c6 => ?_, fun c7 => ?_, fun c8 => ?_, fun c9 => ?_, fun c10 g hg hb => ?_, fun c12 => ?_⟩
    · obtain ⟨-, x1, x2, x3⟩ := w6 c6
      rw [if_neg (by omega), if_pos c6] at e
      exact ih _ _ _ _ _ x3 e
    · rw [if_neg (by omega), if_neg (by omega), if_pos c7] at e
      rcases c7 with c | c
      · exact ih _ _ _ _ _ (w7 (Or.inl c)).1 e
      · exact ih _ _ _ _ _ (w11 c).2 e
    · rw [if_neg (by omega), if_neg (by omega), if_neg (by omega), if_pos (Or.inl c8)] at e
      cases e
    · rw [if_neg (by omega), if_neg (by omega), if_neg (by omega), if_pos (Or.inr c9)] at e
      cases e
    · rw [if_neg (by omega), if_neg (by omega), if_neg (by omega), if_neg (by omega), if_pos c10, Bool.or_eq_false_iff, Bool.or_eq_false_iff] at e
      obtain ⟨m8, x1⟩ := w10 c10
      have eg : hasq f (nP t g) = false := by
        rcases (show g = 0 ∨ g = 1 ∨ g = 2 by omega) with rfl | rfl | rfl
        · exact e.1
        · exact e.2.1
        · exact e.2.2
      exact ih _ _ _ _ _ (x1 g hg hb) eg
    · obtain ⟨x1, x2⟩ := w7 (Or.inr c12)
      rw [if_neg (by omega), if_neg (by omega), if_neg (by omega), if_neg (by omega), if_neg (by omega), Bool.or_eq_false_iff] at e
      exact ⟨ih _ _ _ _ _ x1 e.1, ih _ _ _ _ _ x2 e.2⟩
theorem hasq_nil : ∀ f : Nat, hasq f (.nil : Ty) = false
  | 0 => rfl
  | f + 1 => by
    have h := hasq_nil f
    have e : nKd (.nil : Ty) = 0 := rfl
    have ex : nX (.nil : Ty) = .nil := rfl
    have ey : nY (.nil : Ty) = .nil := rfl
    unfold hasq
    rw [e, ex, ey, h, if_neg (by decide), if_neg (by decide), if_neg (by decide), if_neg (by decide), if_neg (by decide)]
    rfl
/-- a term of one or two characters has none -/
theorem hasq_two {f D : Nat} {sc : List Nat} {t : Ty} (w : TWf f D sc t) (h : mch t ≤ 2) : hasq f t = false := by
  cases f with
  | zero => exact w.elim
  | succ f =>
    obtain ⟨w0, w5, w6, w7, w8, w9, w10, w11, w12⟩ := w
    have em := mch_is w0.2.1
    have k := w0.1
    have mpos : ∀ D sc (u : Ty), TWf f D sc u → 1 ≤ mch u := by
      intro D sc u wu
      cases f with
      | zero => exact wu.elim
      | succ f => exact mch_pos wu
    unfold hasq
    by_cases c5 : nKd t = 5
    · rw [if_pos c5]
    · by_cases c6 : nKd t = 6
      · rw [if_neg c5, if_pos (Or.inl c6)] at em
        omega
      · by_cases c8 : nKd t = 8
        · rw [if_neg c5, if_pos (Or.inr c8)] at em
          omega
        · by_cases c9 : nKd t = 9
          · rw [if_neg c5, if_neg (by omega), if_pos c9] at em
            have q1 := mpos _ _ _ (w9 c9).1
            have q2 := tch_pos (w9 c9).2.1
            omega
          · by_cases c10 : nKd t = 10
            · rw [if_neg c5, if_neg (by omega), if_neg c9, if_pos c10] at em
              by_cases m0 : nMk t = 0
              · have nl : ∀ g, g < 3 → nP t g = .nil := by
                  intro g hg
                  refine w0.2.2.1 g hg ?_
                  rw [c10, m0]
                  rcases (show g = 0 ∨ g = 1 ∨ g = 2 by omega) with rfl | rfl | rfl <;> rfl
                have e0 : nX t = .nil := nl 0 (by decide)
                have e1 : nY t = .nil := nl 1 (by decide)
                have e2 : nZ t = .nil := nl 2 (by decide)
                rw [if_neg c5, if_neg c6, if_neg (by omega), if_neg (by omega), if_pos c10, e0, e1, e2, hasq_nil]
                rfl
              · rw [if_neg m0] at em
                have q : 1 ≤ nlb (nMk t) := by
                  have key : ∀ m, m < 8 → m ≠ 0 → 1 ≤ nlb m := by decide
                  exact key _ (w10 c10).1 m0
                omega
            · exfalso
              rw [if_neg c5, if_neg (by omega), if_neg c9, if_neg c10] at em
              have q : 1 ≤ mch (nX t) := by
                rcases (show nKd t = 7 ∨ nKd t = 11 ∨ nKd t = 12 by omega) with c | c | c
                · exact mpos _ _ _ (w7 (Or.inl c)).1
                · exact mpos _ _ _ (w11 c).2
                · exact mpos _ _ _ (w7 (Or.inr c)).1
              omega
/-- pairs whose shorter term has no instance -/
theorem pair_noq (x1 : TWf f Γ.length (Δ.map (fun a => a.1)) x) (x2 : TWf f Γ.length (Δ.map (fun a => a.1)) y) (he : TE Γ Δ) (y1 : NAt f x) (y2 : NAt f y) (hv : noac Γ) (hd' : ∀ a ∈ Δ, noal a.2.1 = true) (hb : cch Γ + dch Δ + (2 + (mch x + mch y)) ≤ 60) (z1 : mch x ≤ mch y → hasq f x = false) (z2 : ¬ mch x ≤ mch y → hasq f y = false) : PRn f x y Γ Δ := pair_sh x1 x2 he y1 y2 hv hd' hb (fun c => Or.inl (EX0_hasq f x Γ Δ _ _ x1 (z1 c))) (fun c => Or.inl (EX0_hasq f y Γ Δ _ _ x2 (z2 c)))
end PmWf
