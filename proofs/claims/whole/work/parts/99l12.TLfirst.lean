/-! THE LIMITS FOR TERMS WITHOUT ALIASES, where the shorter one of two terms instances no scheme of the context. -/
def EXs : Nat → Ty → List Ty → List (Nat × Ty × Nat) → Prop
  | 0, _, _, _ => True
  | f + 1, t, Γ, Δ => (nKd t = 6 → EXs f (nY t) Γ ((nPl t, nX t, Γ.length) :: Δ)) ∧ (nKd t = 7 ∨ nKd t = 12 → (EXs f (nX t) Γ Δ ∧ EXs f (nY t) Γ Δ) ∧ (mch (nX t) ≤ mch (nY t) → EX0 f (nX t) Γ Δ) ∧ (¬ mch (nX t) ≤ mch (nY t) → EX0 f (nY t) Γ Δ)) ∧ (nKd t = 8 → EXs f (nY t) (nX t :: Γ) Δ) ∧ (nKd t = 9 → EXs f (nX t) Γ Δ) ∧ (nKd t = 10 → ∀ g, g < 3 → bit (nMk t) g = true → EXs f (nP t g) Γ Δ) ∧ (nKd t = 11 → EXs f (nX t) Γ Δ)
/-- what is instanced has three characters, or is a name -/
theorem inst_room {f : Nat} {x : Ty} {Γ : List Ty} {Δ : List (Nat × Ty × Nat)} {S : Ty} (w : TWf f Γ.length (Δ.map (fun a => a.1)) x) (hS : tyF f x Γ Δ = .inr S) (h2 : hd (expo Γ Γ.length S) = 2) : 3 ≤ mch x + dch Δ := by
  cases f with
  | zero => exact w.elim
  | succ f =>
    by_cases c5 : nKd x = 5
    · obtain ⟨a, ha⟩ := dlk_some (w.2.1 c5)
      have : tch a.1 + 4 ≤ dch Δ := dch_mem (dlk_mem ha)
      omega
    obtain ⟨⟨⟨k5, k12⟩, w0, -⟩, -, w6, w7, w8, w9, w10, w11, -⟩ := w
    have em := mch_is w0
    rw [if_neg c5] at em
    by_cases c6 : nKd x = 6 ∨ nKd x = 8
    · rw [if_pos c6] at em; omega
    rw [if_neg c6] at em
    by_cases c9 : nKd x = 9
    · rw [if_pos c9] at em
      have q1 := tch_pos (w9 c9).2.1
      have q2 := short_c (w9 c9).1
      omega
    rw [if_neg c9] at em
    by_cases c10 : nKd x = 10
    · rw [if_pos c10] at em
      by_cases c0 : nMk x = 0
      · exfalso
        unfold tyF at hS
        rw [if_neg c5, if_neg (by omega), if_neg (by omega), if_neg (by omega), if_neg c9, if_pos c10] at hS
        obtain ⟨A1, -, h1⟩ := tbd_in hS
        obtain ⟨A2, -, h1⟩ := tbd_in h1
        obtain ⟨A3, -, h1⟩ := tbd_in h1
        obtain ⟨e, -⟩ := szt_in h1
        rw [c0] at e
        rw [← e, expo_lo (by rw [hd_rec]; omega), hd_rec] at h2
        omega
      · rw [if_neg c0] at em
        have key : ∀ m, m < 8 → m ≠ 0 → 1 ≤ nlb m := by decide
        have := key (nMk x) (w10 c10).1 c0
        omega
    rw [if_neg c10] at em
    by_cases c11 : nKd x = 11
    · have := short_c (w11 c11).2
      omega
    · have q := w7 (by omega)
      have q1 := short_c q.1
      have q2 := short_c q.2
      omega
theorem TL_first : ∀ (f : Nat) (t : Ty) (Γ : List Ty) (Δ : List (Nat × Ty × Nat)), TWf f Γ.length (Δ.map (fun a => a.1)) t → TE Γ Δ → NAt f t → noac Γ → (∀ a ∈ Δ, noal a.2.1 = true) → cch Γ + dch Δ + mch t ≤ 60 → EXs f t Γ Δ → TL f t Γ Δ
  | 0, _, _, _, _, _, _, _, _, _, _ => trivial
  | f + 1, t, Γ, Δ, w, he, na, hv, hd', hb, hx => by
    obtain ⟨w0, w5, w6, w7, w8, w9, w10, w11, w12⟩ := w
    obtain ⟨v6, v7, v8, v9, v10, v11⟩ := na
    obtain ⟨u6, u7, u8, u9, u10, u11⟩ := hx
    have em := mch_is w0.2.1
    have ih := fun t' Γ' Δ' => TL_first f t' Γ' Δ'
    have two : nKd t = 7 ∨ nKd t = 12 → mch t = 2 + (mch (nX t) + mch (nY t)) := by
      intro c
      rw [em, if_neg (by omega), if_neg (by omega), if_neg (by omega), if_neg (by omega)]
    have both : nKd t = 7 ∨ nKd t = 12 → TL f (nX t) Γ Δ ∧ TL f (nY t) Γ Δ := by
      intro c
      have e2 := two c
      obtain ⟨x1, x2⟩ := w7 c
      obtain ⟨y1, y2⟩ := v7 c
      obtain ⟨⟨z1, z2⟩, -⟩ := u7 c
      exact ⟨ih _ _ _ x1 he y1 hv hd' (by omega) z1, ih _ _ _ x2 he y2 hv hd' (by omega) z2⟩
    refine ⟨fun c6 => ?_, fun c7 => ⟨(both (Or.inl c7)).1, (both (Or.inl c7)).2, fun S T hS hT hf => ?_⟩, fun c8 => ?_, fun c9 => ⟨?_, fun S hS hf => ?_⟩, fun c10 g hg hbg => ?_, fun c11 => ?_, fun c12 => ⟨(both (Or.inr c12)).1, (both (Or.inr c12)).2, fun S T hS hT => ?_⟩⟩
    · obtain ⟨-, x1, x2, x3⟩ := w6 c6
      rw [if_neg (by omega), if_pos (Or.inl c6)] at em
      refine ih _ _ _ x3 (he.lam x1 x2) (v6 c6).2 hv (fun a ha => ?_) ?_ (u6 c6)
      · rcases List.mem_cons.mp ha with e | e
        · rw [e]; exact (v6 c6).1
        · exact hd' a e
      · show cch Γ + ((tch (nX t) + 4) + dch Δ) + mch (nY t) ≤ 60
        omega
    · have e2 := two (Or.inl c7)
      obtain ⟨x1, x2⟩ := w7 (Or.inl c7)
      obtain ⟨y1, y2⟩ := v7 (Or.inl c7)
      obtain ⟨-, z1, z2⟩ := u7 (Or.inl c7)
      obtain ⟨oS, lS⟩ := tyF_ok f _ Γ Δ S x1 he hS
      obtain ⟨oT, lT⟩ := tyF_ok f _ Γ Δ T x2 he hT
      obtain ⟨oF, lF⟩ := expo_ok he.1 he.2.1 Γ.length S oS lS
      have nS := noal_expo he.1 hv Γ.length S oS (tyF_noal f _ Γ Δ S x1 he y1 hv hd' hS)
      have nT := tyF_noal f _ Γ Δ T x2 he y2 hv hd' hT
      obtain ⟨a, b, e3, oa, ob⟩ := hd_is_fun oF hf
      have na' : noal (k1 (expo Γ Γ.length S)) = true := by
        rw [e3, noal_fun, Bool.and_eq_true] at nS
        rw [e3]; exact nS.1
      have oa' : ok Γ.length (k1 (expo Γ Γ.length S)) = true := by rw [e3]; exact oa
      exact LB_first (e := 0) (by decide) hf (noal_TB ⟨he.1, oT, oa'⟩ hv nT na') x1 x2 he hS hT (by omega) z1 z2
    · obtain ⟨x1, x2, x3⟩ := w8 c8
      rw [if_neg (by omega), if_pos (Or.inr c8)] at em
      obtain ⟨⟨y1, y2⟩, y3⟩ := v8 c8
      refine ih _ _ _ x3 (he.all x1 x2) y3 (noac_cons hv y1 y2) hd' ?_ (u8 c8)
      show ((tch (nX t) + 4) + cch Γ) + dch Δ + mch (nY t) ≤ 60
      omega
    · rw [if_neg (by omega), if_neg (by omega), if_pos c9] at em
      obtain ⟨x1, x2, x3⟩ := w9 c9
      exact ih _ _ _ x1 he (v9 c9).1 hv hd' (by omega) (u9 c9)
    · rw [if_neg (by omega), if_neg (by omega), if_pos c9] at em
      obtain ⟨x1, x2, x3⟩ := w9 c9
      obtain ⟨oS, lS⟩ := tyF_ok f _ Γ Δ S x1 he hS
      obtain ⟨oF, lF⟩ := expo_ok he.1 he.2.1 Γ.length S oS lS
      have nS := noal_expo he.1 hv Γ.length S oS (tyF_noal f _ Γ Δ S x1 he (v9 c9).1 hv hd' hS)
      obtain ⟨a, b, e3, oa, ob⟩ := hd_is_all oF hf
      have na' : noal (k1 (expo Γ Γ.length S)) = true := by
        rw [e3, noal_all, Bool.and_eq_true, Bool.and_eq_true] at nS
        rw [e3]; exact nS.2.1
      have oa' : ok Γ.length (k1 (expo Γ Γ.length S)) = true := by rw [e3]; exact oa
      have l1 : (flat (k1 (expo Γ Γ.length S))).length ≤ 16 := by
        rw [e3, flat_all, List.length_cons, List.length_append] at lF
        rw [e3]
        show (flat a).length ≤ 16
        omega
      have room := inst_room x1 hS hf
      have tp := tch_pos x2
      have mp := short_c x1
      have hk : tch (nY t) + cch Γ ≤ 56 := by omega
      exact LB_ST (noal_TB ⟨he.1, x2, oa'⟩ hv (v9 c9).2 na') (by omega) x3 l1 (Or.inl ⟨true, Nat.le_trans (rows_first he.1 x2 hk) (by decide)⟩)
    · rw [if_neg (by omega), if_neg (by omega), if_neg (by omega), if_pos c10] at em
      obtain ⟨m8, x1⟩ := w10 c10
      have hm : mch (nP t g) ≤ mch t := by
        rw [em]
        rcases (show g = 0 ∨ g = 1 ∨ g = 2 by omega) with rfl | rfl | rfl
        · show mch (nX t) ≤ _; omega
        · show mch (nY t) ≤ _; omega
        · show mch (nZ t) ≤ _; omega
      exact ih _ _ _ (x1 g hg hbg) he (v10 c10 g hg hbg) hv hd' (by omega) (u10 c10 g hg hbg)
    · rw [if_neg (by omega), if_neg (by omega), if_neg (by omega), if_neg (by omega)] at em
      exact ih _ _ _ (w11 c11).2 he (v11 c11) hv hd' (by omega) (u11 c11)
    · have e2 := two (Or.inr c12)
      obtain ⟨x1, x2⟩ := w7 (Or.inr c12)
      obtain ⟨y1, y2⟩ := v7 (Or.inr c12)
      obtain ⟨-, z1, z2⟩ := u7 (Or.inr c12)
      obtain ⟨oS, lS⟩ := tyF_ok f _ Γ Δ S x1 he hS
      obtain ⟨oT, lT⟩ := tyF_ok f _ Γ Δ T x2 he hT
      have nS := tyF_noal f _ Γ Δ S x1 he y1 hv hd' hS
      have nT := tyF_noal f _ Γ Δ T x2 he y2 hv hd' hT
      exact LJ_first (e := 0) (by decide) (noal_TB ⟨he.1, oS, oT⟩ hv nS nT) x1 x2 he hS hT (by omega) z1 z2
