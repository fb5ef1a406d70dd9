/-! TWO TYPES THAT AGREE DOWN TO PAIRS THAT COST LITTLE: joins. -/
section PmVf
variable {G e : Nat} {PR : List Ty → Ty → Ty → Prop}
theorem agr_gm (G3 : 3 ≤ G) (sy : ∀ Γ c d, PR Γ c d → PR Γ d c) (HL : ∀ Γ c d, PR Γ c d → TB e (Γ, c, d) → trx (Γ, c, d) ≤ G) (HG : ∀ Γ c d, PR Γ c d → TB e (Γ, c, d) → ∀ w, w ≤ 1 → gm (w, Γ, c, d) ≤ G ∧ gn (w, Γ, c, d) ≤ G) : ∀ (f : Nat) (Γ : List Ty) (S T : Ty) (n w : Nat), w ≤ 1 → Agr PR f Γ S T n → TB e (Γ, S, T) → gm (w, Γ, S, T) ≤ G * n ∧ gn (w, Γ, S, T) ≤ G * n
  | 0, _, _, _, _, _, _, h, _ => h.elim
  | f + 1, Γ, S, T, n, w, w1, h', tb => by
    have hc : okc Γ := tb.1.1
    have tk := tb.1
    have w2 : w ≠ 2 := by omega
    have n1 : 1 ≤ n := h'.1
    have one : G ≤ G * n := Nat.le_mul_of_pos_right _ n1
    have tu : tru (Γ, S, T) ≤ G * n := by
      have a1 := agr_trx (by omega) sy HL _ Γ S T n h' tb
      have a2 := agr_trx (by omega) sy HL _ Γ T S n (Agr.sy sy _ _ _ _ _ h') (TB_sw tb)
      show max (trx _) (trx _) ≤ _
      exact Nat.max_le.mpr ⟨a1, a2⟩
    have u1 := gm_unf (z := (w, Γ, S, T)) tk w2
    have u2 := gn_unf (z := (w, Γ, S, T)) tk w2
    have fin : gro (w, Γ, S, T) + sgl gm (gcs (w, Γ, S, T)) ≤ G * n → gno (w, Γ, S, T) + sgl gn (gcs (w, Γ, S, T)) ≤ G * n → gm (w, Γ, S, T) ≤ G * n ∧ gn (w, Γ, S, T) ≤ G * n := by
      intro b1 b2
      rw [u1, u2]
      exact ⟨Nat.max_le.mpr ⟨tu, b1⟩, Nat.max_le.mpr ⟨by omega, b2⟩⟩
    have nil : gcs (w, Γ, S, T) = [] → gro (w, Γ, S, T) ≤ 1 → gno (w, Γ, S, T) = 1 → gm (w, Γ, S, T) ≤ G * n ∧ gn (w, Γ, S, T) ≤ G * n := by
      intro g1 g2 g3
      refine fin ?_ ?_
      · rw [g1]
        show gro _ + 0 ≤ _
        omega
      · rw [g1]
        show gno _ + 0 ≤ _
        omega
    rcases h'.2 with h | ⟨a, b, a', b', i, j, eS, eT, h1, h2, h3⟩ | ⟨a, b, a', b', j, eS, eT, h1, h3⟩ | ⟨m, x, y, z, x', y', z', i, j, k, hm, eS, eT, h0, h1, h2, h3⟩
    · have q := HG _ _ _ h tb w w1
      exact ⟨Nat.le_trans q.1 one, Nat.le_trans q.2 one⟩
    · have tb' := tb
      rw [eS, eT] at tb'
      have oS := ok_fun.mp tb'.1.2.1
      have oT := ok_fun.mp tb'.1.2.2
      have bS := (cbd_fun _ _ _).mp tb'.2.2.1
      have bT := (cbd_fun _ _ _).mp tb'.2.2.2
      have mm := Nat.mul_le_mul_left G h3
      rw [Nat.mul_add, Nat.mul_add] at mm
      rcases gcs_cases (w := w) tk w2 with ⟨g1, g2, g3⟩ | ⟨-, j, hj, e0, -⟩ | ⟨-, -, j, hj, e0, -⟩ | ⟨m, X0, X1, X2, m', Y0, Y1, Y2, hm, hm', e0, -⟩ | ⟨A, C, A', C', e0, e2, g1, g2, g3⟩ | ⟨A, C, C', e0, -⟩
      · exact nil g1 g2 g3
      · have := congrArg hd (eS.symm.trans e0); rw [hd_fun, hd_var] at this; omega
      · have := congrArg hd (eT.symm.trans e0); rw [hd_fun, hd_var] at this; omega
      · have := congrArg hd (eS.symm.trans e0); rw [hd_fun, hd_rec] at this; omega
      · obtain ⟨ea, eb⟩ := fun_inj (eS.symm.trans e0)
        obtain ⟨ea', eb'⟩ := fun_inj (eT.symm.trans e2)
        have i1 := agr_gm G3 sy HL HG f Γ a a' i (1 - w) (by omega) h1 ⟨⟨hc, oS.1, oT.1⟩, tb.2.1, bS.1, bT.1⟩
        have i2 := agr_gm G3 sy HL HG f Γ b b' j w w1 h2 ⟨⟨hc, oS.2, oT.2⟩, tb.2.1, bS.2, bT.2⟩
        rw [ea, ea'] at i1
        rw [eb, eb'] at i2
        refine fin ?_ ?_
        · rw [g1, g2]
          show 1 + (gm (1 - w, Γ, A, A') + (gm (w, Γ, C, C') + 0)) ≤ _
          omega
        · rw [g1, g3]
          show 1 + (gn (1 - w, Γ, A, A') + (gn (w, Γ, C, C') + 0)) ≤ _
          omega
      · have := congrArg hd (eS.symm.trans e0); rw [hd_fun, hd_all] at this; omega
    · have mm := Nat.mul_le_mul_left G h3
      rw [Nat.mul_add] at mm
      rcases gcs_cases (w := w) tk w2 with ⟨g1, g2, g3⟩ | ⟨-, j, hj, e0, -⟩ | ⟨-, -, j, hj, e0, -⟩ | ⟨m, X0, X1, X2, m', Y0, Y1, Y2, hm, hm', e0, -⟩ | ⟨A, C, A', C', e0, -⟩ | ⟨A, C, C', e0, e2, g1, g2, g3⟩
      · exact nil g1 g2 g3
      · have := congrArg hd (eS.symm.trans e0); rw [hd_all, hd_var] at this; omega
      · have := congrArg hd (eT.symm.trans e0); rw [hd_all, hd_var] at this; omega
      · have := congrArg hd (eS.symm.trans e0); rw [hd_all, hd_rec] at this; omega
      · have := congrArg hd (eS.symm.trans e0); rw [hd_all, hd_fun] at this; omega
      · obtain ⟨ea, eb⟩ := all_inj (eS.symm.trans e0)
        obtain ⟨ea', eb'⟩ := all_inj (eT.symm.trans e2)
        have tb2 : TB e (A :: Γ, C, C') := TB_all (by rw [← e0, ← e2]; exact tb)
        have h1 := h1 (by rw [ea, ea'])
        rw [ea, eb, eb'] at h1
        have i2 := agr_gm G3 sy HL HG f (A :: Γ) C C' j w w1 h1 tb2
        refine fin ?_ ?_
        · rw [g1, g2]
          show 2 + (gm (w, A :: Γ, C, C') + 0) ≤ _
          omega
        · rw [g1, g3]
          show 1 + (gn (w, A :: Γ, C, C') + 0) ≤ _
          omega
    · have tb' := tb
      rw [eS, eT] at tb'
      have oS := (ok_rec hm).mp tb'.1.2.1
      have oT := (ok_rec hm).mp tb'.1.2.2
      have bS := (cbd_rec _ _ _ _).mp tb'.2.2.1
      have bT := (cbd_rec _ _ _ _).mp tb'.2.2.2
      have mm := Nat.mul_le_mul_left G h3
      rw [Nat.mul_add, Nat.mul_add, Nat.mul_add] at mm
      rcases gcs_cases (w := w) tk w2 with ⟨g1, g2, g3⟩ | ⟨-, j, hj, e0, -⟩ | ⟨-, -, j, hj, e0, -⟩ | ⟨m1, X0, X1, X2, m2, Y0, Y1, Y2, hm1, hm2, e0, e2, g1, g2, g3⟩ | ⟨A, C, A', C', e0, -⟩ | ⟨A, C, C', e0, -⟩
      · exact nil g1 g2 g3
      · have := congrArg hd (eS.symm.trans e0); rw [hd_rec, hd_var] at this; omega
      · have := congrArg hd (eT.symm.trans e0); rw [hd_rec, hd_var] at this; omega
      · obtain ⟨em, ex, ey, ez⟩ := rec_inj (eS.symm.trans e0)
        obtain ⟨em', ex', ey', ez'⟩ := rec_inj (eT.symm.trans e2)
        have key : ∀ (g : Nat) (p p' X Y : Ty) (i : Nat), g < 3 → (bit m g = true → Agr PR f Γ p p' i) → okl Γ.length m g p → okl Γ.length m g p' → cbd e (cl Γ) p → cbd e (cl Γ) p' → p = X → p' = Y → sgl gm (gzl w Γ (lset w m1 m2) m1 m2 g X Y) ≤ G * i ∧ sgl gn (gzl w Γ (lset w m1 m2) m1 m2 g X Y) ≤ G * i := by
          intro g p p' X Y i hi hp o1 o2 b1 b2 e3 e4
          rcases gzl_cases (W := w) (Γ := Γ) (X := X) (Y := Y) (lset_in w m1 hm1 m2 hm2 g hi) with ⟨h1, h2, h3, eg⟩ | ⟨h1, h2, h3, eg⟩ | ⟨h1, h2, h3, eg⟩ | ⟨h1, eg⟩
          · have hb : bit m g = true := by rw [em]; exact h2
            have i1 := agr_gm G3 sy HL HG f Γ p p' i w w1 (hp hb) ⟨⟨hc, okl_on o1 (bit_iff.mp hb), okl_on o2 (bit_iff.mp hb)⟩, tb.2.1, b1, b2⟩
            rw [e3, e4] at i1
            rw [eg]
            exact ⟨by show gm (w, Γ, X, Y) + 0 ≤ _; omega, by show gn (w, Γ, X, Y) + 0 ≤ _; omega⟩
          · rw [← em, em'] at h2; exact absurd h2 h3
          · rw [← em', em] at h3; exact absurd h3 h2
          · rw [eg]; exact ⟨Nat.zero_le _, Nat.zero_le _⟩
        have k0 := key 0 x x' X0 Y0 i (by decide) h0 oS.1 oT.1 bS.1 bT.1 ex ex'
        have k1 := key 1 y y' X1 Y1 j (by decide) h1 oS.2.1 oT.2.1 bS.2.1 bT.2.1 ey ey'
        have k2 := key 2 z z' X2 Y2 k (by decide) h2 oS.2.2 oT.2.2 bS.2.2 bT.2.2 ez ez'
        refine fin ?_ ?_
        · rw [g1, g2, sgl_app, sgl_app]
          omega
        · rw [g1, g3, sgl_app, sgl_app]
          omega
      · have := congrArg hd (eS.symm.trans e0); rw [hd_rec, hd_fun] at this; omega
      · have := congrArg hd (eS.symm.trans e0); rw [hd_rec, hd_all] at this; omega
end PmVf
