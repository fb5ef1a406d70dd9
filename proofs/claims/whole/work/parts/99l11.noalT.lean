/-! TERMS WITHOUT ALIASES. -/
def NAt : Nat → Ty → Prop
  | 0, _ => True
  | f + 1, t => (nKd t = 6 → noal (nX t) = true ∧ NAt f (nY t)) ∧ (nKd t = 7 ∨ nKd t = 12 → NAt f (nX t) ∧ NAt f (nY t)) ∧ (nKd t = 8 → (noal (nX t) = true ∧ hd (nX t) < 16) ∧ NAt f (nY t)) ∧ (nKd t = 9 → NAt f (nX t) ∧ noal (nY t) = true) ∧ (nKd t = 10 → ∀ g, g < 3 → bit (nMk t) g = true → NAt f (nP t g)) ∧ (nKd t = 11 → NAt f (nX t))
/-- their types have none either -/
theorem tyF_noal : ∀ (f : Nat) (t : Ty) (Γ : List Ty) (Δ : List (Nat × Ty × Nat)) (A : Ty), TWf f Γ.length (Δ.map (fun a => a.1)) t → TE Γ Δ → NAt f t → noac Γ → (∀ a ∈ Δ, noal a.2.1 = true) → tyF f t Γ Δ = .inr A → noal A = true
  | 0, _, _, _, _, w, _, _, _, _, _ => w.elim
  | f + 1, t, Γ, Δ, A, w, he, na, hv, hd', e0 => by
    obtain ⟨w0, w5, w6, w7, w8, w9, w10, w11, w12⟩ := w
    obtain ⟨v6, v7, v8, v9, v10, v11⟩ := na
    have ih := fun t' Γ' Δ' A' => tyF_noal f t' Γ' Δ' A'
    have io := fun t' Γ' Δ' A' => tyF_ok f t' Γ' Δ' A'
    unfold tyF at e0
    by_cases c5 : nKd t = 5
    · rw [if_pos c5] at e0
      obtain ⟨e, l⟩ := tyO_in e0
      obtain ⟨a, ha⟩ := dlk_some (w5 c5)
      rw [ha] at e
      injection e with e
      rw [← e]
      have e2 : ok a.2 a.1 = true := (he.2.2 _ (dlk_mem ha)).2.1
      exact noal_lft _ _ _ a.1 a.2 (Nat.le_refl _) e2 (hd' _ (dlk_mem ha))
    rw [if_neg c5] at e0
    by_cases c6 : nKd t = 6
    · rw [if_pos c6] at e0
      obtain ⟨B, hB, h1⟩ := tbd_in e0
      obtain ⟨-, x1, x2, x3⟩ := w6 c6
      have q := ih (nY t) Γ ((nPl t, nX t, Γ.length) :: Δ) B x3 (he.lam x1 x2) (v6 c6).2 hv (fun a ha => by
        rcases List.mem_cons.mp ha with e | e
        · rw [e]; exact (v6 c6).1
        · exact hd' a e) hB
      obtain ⟨e, l⟩ := szt_in h1
      subst e
      rw [noal_fun, (v6 c6).1, q]; rfl
    rw [if_neg c6] at e0
    by_cases c7 : nKd t = 7
    · rw [if_pos c7] at e0
      obtain ⟨S, hS, h1⟩ := tbd_in e0
      obtain ⟨T, hT, h1⟩ := tbd_in h1
      obtain ⟨e, l⟩ := tyO_in h1
      obtain ⟨x1, x2⟩ := w7 (Or.inl c7)
      obtain ⟨s1, s2'⟩ := io _ _ _ _ x1 he hS
      obtain ⟨o1, o2⟩ := expo_ok he.1 he.2.1 Γ.length S s1 s2'
      have q := ih _ _ _ _ x1 he (v7 (Or.inl c7)).1 hv hd' hS
      have q2 := noal_expo he.1 hv Γ.length S s1 q
      unfold tyA at e
      by_cases c : hd (expo Γ Γ.length S) = 1 ∧ bel Γ T (k1 (expo Γ Γ.length S)) = true
      · rw [if_pos c] at e
        injection e with e
        subst e
        obtain ⟨a, b, e2, ha, hb⟩ := hd_is_fun o1 c.1
        rw [e2, noal_fun, Bool.and_eq_true] at q2
        rw [e2]
        exact q2.2
      · rw [if_neg c] at e; cases e
    rw [if_neg c7] at e0
    by_cases c8 : nKd t = 8
    · rw [if_pos c8] at e0
      obtain ⟨B, hB, h1⟩ := tbd_in e0
      obtain ⟨x1, x2, x3⟩ := w8 c8
      obtain ⟨⟨y1, y2⟩, y3⟩ := v8 c8
      have q := ih (nY t) (nX t :: Γ) Δ B x3 (he.all x1 x2) y3 (noac_cons hv y1 y2) hd' hB
      obtain ⟨e, l⟩ := szt_in h1
      subst e
      rw [noal_all, y1, q]
      simp [y2]
    rw [if_neg c8] at e0
    by_cases c9 : nKd t = 9
    · rw [if_pos c9] at e0
      obtain ⟨S, hS, h1⟩ := tbd_in e0
      obtain ⟨e, l⟩ := tyO_in h1
      obtain ⟨x1, x2, x3⟩ := w9 c9
      obtain ⟨s1, s2'⟩ := io _ _ _ _ x1 he hS
      obtain ⟨o1, o2⟩ := expo_ok he.1 he.2.1 Γ.length S s1 s2'
      have q := ih _ _ _ _ x1 he (v9 c9).1 hv hd' hS
      have q2 := noal_expo he.1 hv Γ.length S s1 q
      unfold tyI at e
      by_cases c : hd (expo Γ Γ.length S) = 2 ∧ bel Γ (nY t) (k1 (expo Γ Γ.length S)) = true
      · rw [if_pos c] at e
        injection e with e
        subst e
        obtain ⟨a, b, e2, ha, hb⟩ := hd_is_all o1 c.1
        rw [e2, noal_all, Bool.and_eq_true, Bool.and_eq_true] at q2
        rw [e2]
        exact (noal_sbt x2 (v9 c9).2 _ b 0 (Nat.le_refl _) hb q2.2.2).1
      · rw [if_neg c] at e; cases e
    rw [if_neg c9] at e0
    by_cases c10 : nKd t = 10
    · rw [if_pos c10] at e0
      obtain ⟨A1, hA1, h1⟩ := tbd_in e0
      obtain ⟨A2, hA2, h1⟩ := tbd_in h1
      obtain ⟨A3, hA3, h1⟩ := tbd_in h1
      obtain ⟨e, l⟩ := szt_in h1
      obtain ⟨m8, x1⟩ := w10 c10
      subst e
      have key : ∀ (g : Nat) (B : Ty), g < 3 → (if bit (nMk t) g = true then tyF f (nP t g) Γ Δ else .inr .nil) = .inr B → noal B = true := by
        intro g B hg hB
        by_cases c : bit (nMk t) g = true
        · rw [if_pos c] at hB
          exact ih _ _ _ _ (x1 g hg c) he (v10 c10 g hg c) hv hd' hB
        · rw [if_neg c] at hB
          injection hB with hB
          rw [← hB]; rfl
      rw [noal_rec, key 0 A1 (by decide) hA1, key 1 A2 (by decide) hA2, key 2 A3 (by decide) hA3]; rfl
    rw [if_neg c10] at e0
    by_cases c11 : nKd t = 11
    · rw [if_pos c11] at e0
      obtain ⟨S, hS, h1⟩ := tbd_in e0
      obtain ⟨e, l⟩ := tyO_in h1
      obtain ⟨m3, x1⟩ := w11 c11
      obtain ⟨s1, s2'⟩ := io _ _ _ _ x1 he hS
      obtain ⟨o1, o2⟩ := expo_ok he.1 he.2.1 Γ.length S s1 s2'
      have q := ih _ _ _ _ x1 he (v11 c11) hv hd' hS
      have q2 := noal_expo he.1 hv Γ.length S s1 q
      unfold tyD at e
      by_cases c : (8 ≤ hd (expo Γ Γ.length S) ∧ hd (expo Γ Γ.length S) < 16) ∧ bit (hd (expo Γ Γ.length S) - 8) (nMk t) = true
      · rw [if_pos c] at e
        injection e with e
        subst e
        obtain ⟨m, x, y, z, hm', e2⟩ := hd_is_rec o1 c.1.1 c.1.2
        rw [e2, noal_rec, Bool.and_eq_true, Bool.and_eq_true] at q2
        rw [e2]
        rcases (show nMk t = 0 ∨ nMk t = 1 ∨ nMk t = 2 by omega) with e | e | e
        · rw [e, (pt_rec hm' x y z).1]; exact q2.1
        · rw [e, (pt_rec hm' x y z).2.1]; exact q2.2.1
        · rw [e, (pt_rec hm' x y z).2.2]; exact q2.2.2
      · rw [if_neg c] at e; cases e
    rw [if_neg c11] at e0
    obtain ⟨S, hS, h1⟩ := tbd_in e0
    obtain ⟨T, hT, h1⟩ := tbd_in h1
    obtain ⟨e, l⟩ := tyO_in h1
    have c12 : nKd t = 12 := by omega
    obtain ⟨x1, x2⟩ := w7 (Or.inr c12)
    obtain ⟨s1, s2'⟩ := io _ _ _ _ x1 he hS
    obtain ⟨t1, t2⟩ := io _ _ _ _ x2 he hT
    have q1 := ih _ _ _ _ x1 he (v7 (Or.inr c12)).1 hv hd' hS
    have q2 := ih _ _ _ _ x2 he (v7 (Or.inr c12)).2 hv hd' hT
    exact cu_noal _ 0 Γ S T A hv ⟨he.1, s1, t1⟩ q1 q2 e
