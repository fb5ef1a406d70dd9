/-! A VARIABLE AGAINST WHAT IS OF ANOTHER KIND THAN ITS BOUND; two arguments of that sort. -/
section PmVb
variable {w : Nat} {Γ : List Ty} {S T : Ty}
/-- a variable whose bound is of another kind than the other side -/
theorem var_kind {j : Nat} (w1 : w ≤ 1) (tk : tok (Γ, tVar j, T)) (h0 : hd (bnd Γ j) < 16) (nT : ¬ 16 ≤ hd T) (nz' : hd T ≠ 0) (ne : hd (bnd Γ j) ≠ hd T) (nr : ¬ (8 ≤ hd (bnd Γ j) ∧ 8 ≤ hd T)) : trx (Γ, tVar j, T) ≤ 1 ∧ trx (Γ, T, tVar j) = 0 ∧ gm (w, Γ, tVar j, T) ≤ 2 ∧ gm (w, Γ, T, tVar j) ≤ 2 ∧ gn (w, Γ, tVar j, T) ≤ 1 ∧ gn (w, Γ, T, tVar j) ≤ 1 := by
  have hc : okc Γ := tk.1
  have hj : j < Γ.length := by
    have o : ok Γ.length (tVar j) = true := tk.2.1
    rcases ok_cases o with h | ⟨k, hk, h⟩ | ⟨a, b, h, -, -⟩ | ⟨a, b, h, -, -⟩ | ⟨m, x, y, z, hm, h, -, -, -⟩
    · have := congrArg hd h; rw [hd_var, hd_top] at this; omega
    · have := congrArg hd h; rw [hd_var, hd_var] at this; omega
    · have := congrArg hd h; rw [hd_var, hd_fun] at this; omega
    · have := congrArg hd h; rw [hd_var, hd_all] at this; omega
    · have := congrArg hd h; rw [hd_var, hd_rec] at this; omega
  have hT : ok Γ.length T = true := tk.2.2
  have oX : ok Γ.length (lft j (Γ.length - j) (bnd Γ j)) = true := ok_expose hc hj
  have hX : hd (lft j (Γ.length - j) (bnd Γ j)) = hd (bnd Γ j) := (hd_lft0 (okc_bnd' hc hj)).2 h0
  obtain ⟨X, ex⟩ : ∃ X, lft j (Γ.length - j) (bnd Γ j) = X := ⟨_, rfl⟩
  rw [ex] at oX hX
  have w2 : w ≠ 2 := by omega
  have q0 : trx (Γ, X, T) = 0 := trx_mis (by omega) (by omega) (by omega)
  have t1 : trx (Γ, tVar j, T) ≤ 1 := by
    have et := trf_var (twt (Γ, tVar j, T)) Γ j T nz' (by omega)
    have et2 : trf (twt (Γ, tVar j, T)) (Γ, tVar j, T) ≤ trf (twt (Γ, tVar j, T) + 1) (Γ, tVar j, T) := trf_up _ _
    rw [et, ex] at et2
    have q1 := trf_trx (z := (Γ, X, T)) ⟨hc, oX, hT⟩ (twt (Γ, tVar j, T))
    have e3 : trx (Γ, tVar j, T) = trf (twt (Γ, tVar j, T)) (Γ, tVar j, T) := rfl
    omega
  have t2 : trx (Γ, T, tVar j) = 0 := trx_mis nT (by rw [hd_var]; omega) (by rw [hd_var]; omega)
  have m1 := gm_mis (w := w) (Γ := Γ) (S := X) (T := T) ⟨hc, oX, hT⟩ w1 (by omega) nT (by omega) (by omega)
  have m2 := gm_mis (w := w) (Γ := Γ) (S := T) (T := X) ⟨hc, hT, oX⟩ w1 nT (by omega) (by omega) (by omega)
  have tk2 : tok (Γ, T, tVar j) := ⟨hc, hT, tk.2.1⟩
  have tu : tru (Γ, tVar j, T) ≤ 1 := by
    show max (trx (Γ, tVar j, T)) (trx (Γ, T, tVar j)) ≤ 1
    omega
  have tu2 : tru (Γ, T, tVar j) ≤ 1 := by
    show max (trx (Γ, T, tVar j)) (trx (Γ, tVar j, T)) ≤ 1
    omega
  have k1 : gro (w, Γ, tVar j, T) + sgl gm (gcs (w, Γ, tVar j, T)) ≤ 2 ∧ gno (w, Γ, tVar j, T) + sgl gn (gcs (w, Γ, tVar j, T)) ≤ 1 := by
    rcases gcs_cases (w := w) tk w2 with ⟨g1, g2, g3⟩ | ⟨q1, k, hk, eS, g1, g2, g3⟩ | ⟨q1, n1, k, hk, eT, g1, g2, g3⟩ | ⟨m, X0, X1, X2, m', Y0, Y1, Y2, hm, hm', eS, eT, g1, g2, g3⟩ | ⟨A, F, A', F', eS, eT, g1, g2, g3⟩ | ⟨A, F, F', eS, eT, g1, g2, g3⟩
    · rw [g1, g3]
      exact ⟨by show gro _ + 0 ≤ 2; omega, Nat.le_refl _⟩
    · have ek : j = k := by
        have := congrArg hd eS
        rw [hd_var, hd_var] at this
        omega
      subst ek
      rw [g1, g2, g3, ex]
      exact ⟨by show 1 + (gm (w, Γ, X, T) + 0) ≤ 2; omega, by show 0 + (gn (w, Γ, X, T) + 0) ≤ 1; omega⟩
    · exact absurd (show 16 ≤ hd (tVar j) by rw [hd_var]; omega) n1
    · have := congrArg hd eS; rw [hd_var, hd_rec] at this; omega
    · have := congrArg hd eS; rw [hd_var, hd_fun] at this; omega
    · have := congrArg hd eS; rw [hd_var, hd_all] at this; omega
  have k2 : gro (w, Γ, T, tVar j) + sgl gm (gcs (w, Γ, T, tVar j)) ≤ 2 ∧ gno (w, Γ, T, tVar j) + sgl gn (gcs (w, Γ, T, tVar j)) ≤ 1 := by
    rcases gcs_cases (w := w) tk2 w2 with ⟨g1, g2, g3⟩ | ⟨q1, k, hk, eS, g1, g2, g3⟩ | ⟨q1, n1, k, hk, eT, g1, g2, g3⟩ | ⟨m, X0, X1, X2, m', Y0, Y1, Y2, hm, hm', eS, eT, g1, g2, g3⟩ | ⟨A, F, A', F', eS, eT, g1, g2, g3⟩ | ⟨A, F, F', eS, eT, g1, g2, g3⟩
    · rw [g1, g3]
      exact ⟨by show gro _ + 0 ≤ 2; omega, Nat.le_refl _⟩
    · rw [eS, hd_var] at nT; omega
    · have ek : j = k := by
        have := congrArg hd eT
        rw [hd_var, hd_var] at this
        omega
      subst ek
      rw [g1, g2, g3, ex]
      exact ⟨by show 1 + (gm (w, Γ, T, X) + 0) ≤ 2; omega, by show 0 + (gn (w, Γ, T, X) + 0) ≤ 1; omega⟩
    · have := congrArg hd eT; rw [hd_var, hd_rec] at this; omega
    · have := congrArg hd eT; rw [hd_var, hd_fun] at this; omega
    · have := congrArg hd eT; rw [hd_var, hd_all] at this; omega
  have a1 := gm_unf (z := (w, Γ, tVar j, T)) tk w2
  have a2 := gn_unf (z := (w, Γ, tVar j, T)) tk w2
  have a3 := gm_unf (z := (w, Γ, T, tVar j)) tk2 w2
  have a4 := gn_unf (z := (w, Γ, T, tVar j)) tk2 w2
  have a1 : gm (w, Γ, tVar j, T) = max (tru (Γ, tVar j, T)) (gro (w, Γ, tVar j, T) + sgl gm (gcs (w, Γ, tVar j, T))) := a1
  have a3 : gm (w, Γ, T, tVar j) = max (tru (Γ, T, tVar j)) (gro (w, Γ, T, tVar j) + sgl gm (gcs (w, Γ, T, tVar j))) := a3
  refine ⟨t1, t2, ?_, ?_, ?_, ?_⟩ <;> omega
theorem bnd_app {j : Nat} (hj : j < Γ.length) : ∀ Δ : List Ty, bnd (Δ ++ Γ) j = bnd Γ j
  | [] => rfl
  | a :: Δ => by
    show (if j = (Δ ++ Γ).length then a else bnd (Δ ++ Γ) j) = _
    rw [if_neg (by rw [List.length_append]; omega)]
    exact bnd_app hj Δ
/-- such a pair -/
def VK (Γ : List Ty) (c d : Ty) : Prop := ∃ j, j < Γ.length ∧ c = tVar j ∧ hd (bnd Γ j) < 16 ∧ hd d < 16 ∧ hd d ≠ 0 ∧ hd (bnd Γ j) ≠ hd d ∧ ¬ (8 ≤ hd (bnd Γ j) ∧ 8 ≤ hd d)
theorem VK.all {c d : Ty} (od : ok Γ.length d = true) (v : VK Γ c d) (Δ : List Ty) (tk : tok (Δ ++ Γ, lft Γ.length Δ.length c, lft Γ.length Δ.length d)) (w1 : w ≤ 1) : (trx (Δ ++ Γ, lft Γ.length Δ.length c, lft Γ.length Δ.length d) ≤ 2 ∧ trx (Δ ++ Γ, lft Γ.length Δ.length d, lft Γ.length Δ.length c) ≤ 2) ∧ (gm (w, Δ ++ Γ, lft Γ.length Δ.length c, lft Γ.length Δ.length d) ≤ 2 ∧ gn (w, Δ ++ Γ, lft Γ.length Δ.length c, lft Γ.length Δ.length d) ≤ 2) ∧ gm (w, Δ ++ Γ, lft Γ.length Δ.length d, lft Γ.length Δ.length c) ≤ 2 ∧ gn (w, Δ ++ Γ, lft Γ.length Δ.length d, lft Γ.length Δ.length c) ≤ 2 := by
  obtain ⟨j, hj, rfl, h0, h1, h2, h3, h4⟩ := v
  have e1 : lft Γ.length Δ.length (tVar j) = tVar j := by rw [lft_var, if_neg (by omega)]
  have e2 : hd (lft Γ.length Δ.length d) = hd d := (hd_lft0 od).2 h1
  have e3 := bnd_app (Γ := Γ) hj Δ
  rw [e1] at tk ⊢
  have q := var_kind (w := w) w1 tk (by rw [e3]; exact h0) (by omega) (by omega) (by rw [e3, e2]; exact h3) (by rw [e3, e2]; exact h4)
  omega
end PmVb
