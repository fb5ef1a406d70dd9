/-! THE WALK IS THE SAME: rows and goals of a join. -/
section PmK7
variable {h : Nat} {B C C' : Ty} {Γ0 : List Ty}
theorem gf_sg : ∀ (f : Nat) (Δ : List Ty) (w : Nat) (S T : Ty), SGc h B C C' Γ0 Δ → tok (cxs Δ Γ0 (tAll B C), S, T) → noh h S = true → noh h T = true → gmf f (w, cxs Δ Γ0 (tAll B C), S, T) = gmf f (w, cxs Δ Γ0 (tAll B C'), S, T) ∧ gnf f (w, cxs Δ Γ0 (tAll B C), S, T) = gnf f (w, cxs Δ Γ0 (tAll B C'), S, T)
  | 0, Δ, w, S, T, s, t, nS, nT => ⟨rfl, rfl⟩
  | f + 1, Δ, w, S, T, s, t, nS, nT => by
    by_cases w2 : w = 2
    · subst w2
      rw [gmf_two _ rfl, gmf_two _ rfl, gnf_two _ rfl, gnf_two _ rfl]
      exact ⟨rfl, rfl⟩
    have t' : tok (cxs Δ Γ0 (tAll B C), T, S) := ⟨t.1, t.2.2, t.2.1⟩
    have hS := t.2.1
    have hT := t.2.2
    simp only at hS hT
    have b1 := bel_sg _ Δ S T s t (Nat.le_refl _) nS nT
    have b2 := bel_sg _ Δ T S s t' (Nat.le_refl _) nT nS
    obtain ⟨g1, g2⟩ := gro_congr (w := w) (Γ := cxs Δ Γ0 (tAll B C)) (Γ' := cxs Δ Γ0 (tAll B C')) (S := S) (S' := S) (T := T) (T' := T) b1 b2 rfl rfl rfl rfl
    rw [gmf_succ f w2, gmf_succ f w2, gnf_succ f w2, gnf_succ f w2, tru_sg s t nS nT, g1, g2]
    suffices hs : sgl (gmf f) (gcs (w, cxs Δ Γ0 (tAll B C), S, T)) = sgl (gmf f) (gcs (w, cxs Δ Γ0 (tAll B C'), S, T)) ∧ sgl (gnf f) (gcs (w, cxs Δ Γ0 (tAll B C), S, T)) = sgl (gnf f) (gcs (w, cxs Δ Γ0 (tAll B C'), S, T)) by
      rw [hs.1, hs.2]; exact ⟨rfl, rfl⟩
    by_cases c1 : bel (cxs Δ Γ0 (tAll B C)) S T = true
    · rw [(gcs_bel1 w2 c1).1, (gcs_bel1 w2 (by rw [← b1]; exact c1)).1]
      exact ⟨rfl, rfl⟩
    have c1' : ¬ bel (cxs Δ Γ0 (tAll B C')) S T = true := by rw [← b1]; exact c1
    by_cases c2 : bel (cxs Δ Γ0 (tAll B C)) T S = true
    · rw [(gcs_bel2 w2 c1 c2).1, (gcs_bel2 w2 c1' (by rw [← b2]; exact c2)).1]
      exact ⟨rfl, rfl⟩
    have c2' : ¬ bel (cxs Δ Γ0 (tAll B C')) T S = true := by rw [← b2]; exact c2
    by_cases v1 : 16 ≤ hd S
    · by_cases w1 : w = 1
      · subst w1
        rw [(gcs_w1 c1 c2 (Or.inl v1)).1, (gcs_w1 c1' c2' (Or.inl v1)).1]
        exact ⟨rfl, rfl⟩
      · obtain ⟨j, hj, rfl⟩ := hd_is_var hS v1
        rw [(gcs_v1 w2 w1 c1 c2).1, (gcs_v1 w2 w1 c1' c2').1]
        show gmf f _ + 0 = gmf f _ + 0 ∧ gnf f _ + 0 = gnf f _ + 0
        by_cases ek : j = Γ0.length
        · subst ek
          rw [cxs_up, cxs_up]
          obtain ⟨i1, i2⟩ := gf_L f Δ w T s hT nT w2 w1 (by simpa using c2)
          rw [i1, i2]; exact ⟨rfl, rfl⟩
        · obtain ⟨x1, x2⟩ := s.ex hj ek
          rw [← x1]
          obtain ⟨i1, i2⟩ := gf_sg f Δ w _ T s ⟨s.o1, ok_expose s.o1 hj, hT⟩ x2 nT
          rw [i1, i2]; exact ⟨rfl, rfl⟩
    by_cases v2 : 16 ≤ hd T
    · by_cases w1 : w = 1
      · subst w1
        rw [(gcs_w1 c1 c2 (Or.inr v2)).1, (gcs_w1 c1' c2' (Or.inr v2)).1]
        exact ⟨rfl, rfl⟩
      · obtain ⟨j, hj, rfl⟩ := hd_is_var hT v2
        rw [(gcs_v2 w2 w1 v1 c1 c2).1, (gcs_v2 w2 w1 v1 c1' c2').1]
        show gmf f _ + 0 = gmf f _ + 0 ∧ gnf f _ + 0 = gnf f _ + 0
        by_cases ek : j = Γ0.length
        · subst ek
          rw [cxs_up, cxs_up]
          obtain ⟨i1, i2⟩ := gf_R (w := w) s hS nS v1 w2 f
          rw [i1, i2]; exact ⟨rfl, rfl⟩
        · obtain ⟨x1, x2⟩ := s.ex hj ek
          rw [← x1]
          obtain ⟨i1, i2⟩ := gf_sg f Δ w S _ s ⟨s.o1, hS, ok_expose s.o1 hj⟩ nS x2
          rw [i1, i2]; exact ⟨rfl, rfl⟩
    by_cases v3 : 8 ≤ hd S ∧ 8 ≤ hd T
    · obtain ⟨m, X0, X1, X2, hm, rfl⟩ := hd_is_rec hS v3.1 (by omega)
      obtain ⟨m', Y0, Y1, Y2, hm', rfl⟩ := hd_is_rec hT v3.2 (by omega)
      obtain ⟨o0, o1, o2⟩ := (ok_rec hm).mp hS
      obtain ⟨p0, p1, p2⟩ := (ok_rec hm').mp hT
      rw [noh_rec] at nS nT
      rw [(gcs_rec hm hm' w2 c1 c2).1, (gcs_rec hm hm' w2 c1' c2').1]
      rw [sgl_app, sgl_app, sgl_app, sgl_app, sgl_app, sgl_app, sgl_app, sgl_app]
      have key : ∀ (i : Nat) (X Y : Ty), okl (cxs Δ Γ0 (tAll B C)).length m i X → okl (cxs Δ Γ0 (tAll B C)).length m' i Y → noh h X = true → noh h Y = true → sgl (gmf f) (gzl w (cxs Δ Γ0 (tAll B C)) (lset w m m') m m' i X Y) = sgl (gmf f) (gzl w (cxs Δ Γ0 (tAll B C')) (lset w m m') m m' i X Y) ∧ sgl (gnf f) (gzl w (cxs Δ Γ0 (tAll B C)) (lset w m m') m m' i X Y) = sgl (gnf f) (gzl w (cxs Δ Γ0 (tAll B C')) (lset w m m') m m' i X Y) := by
        intro i X Y oX oY nX nY
        exact gzl_sg f (fun q1 q2 => gf_sg f Δ w X Y s ⟨s.o1, okl_on oX (bit_iff.mp q1), okl_on oY (bit_iff.mp q2)⟩ nX nY)
      obtain ⟨a1, a2⟩ := key 0 X0 Y0 o0 p0 nS.1 nT.1
      obtain ⟨d1, d2⟩ := key 1 X1 Y1 o1 p1 nS.2.1 nT.2.1
      obtain ⟨e1, e2⟩ := key 2 X2 Y2 o2 p2 nS.2.2 nT.2.2
      rw [a1, a2, d1, d2, e1, e2]
      exact ⟨rfl, rfl⟩
    by_cases v4 : hd S = 1 ∧ hd T = 1
    · obtain ⟨A, D, rfl, oA, oD⟩ := hd_is_fun hS v4.1
      obtain ⟨A', D', rfl, oA', oD'⟩ := hd_is_fun hT v4.2
      rw [noh_fun] at nS nT
      rw [(gcs_fun w2 c1 c2).1, (gcs_fun w2 c1' c2').1]
      obtain ⟨i1, i2⟩ := gf_sg f Δ (1 - w) A A' s ⟨s.o1, oA, oA'⟩ nS.1 nT.1
      obtain ⟨i3, i4⟩ := gf_sg f Δ w D D' s ⟨s.o1, oD, oD'⟩ nS.2 nT.2
      show gmf f _ + (gmf f _ + 0) = gmf f _ + (gmf f _ + 0) ∧ gnf f _ + (gnf f _ + 0) = gnf f _ + (gnf f _ + 0)
      rw [i1, i2, i3, i4]; exact ⟨rfl, rfl⟩
    by_cases v5 : hd S = 2 ∧ hd T = 2 ∧ flat (k1 S) = flat (k1 T)
    · obtain ⟨A, D, rfl, oA, oD⟩ := hd_is_all hS v5.1
      obtain ⟨A', D', rfl, oA', oD'⟩ := hd_is_all hT v5.2.1
      have ea : A = A' := flat_eq oA oA' v5.2.2
      subst ea
      rw [noh_all] at nS nT
      rw [(gcs_all w2 c1 c2).1, (gcs_all w2 c1' c2').1]
      have s' := s.ext oA nS.2.1
      have tt : tok (cxs (A :: Δ) Γ0 (tAll B C), D, D') := ⟨s'.o1, oD, oD'⟩
      obtain ⟨i1, i2⟩ := gf_sg f (A :: Δ) w D D' s' tt nS.2.2 nT.2.2
      show gmf f (w, cxs (A :: Δ) Γ0 (tAll B C), D, D') + 0 = gmf f (w, cxs (A :: Δ) Γ0 (tAll B C'), D, D') + 0 ∧ gnf f (w, cxs (A :: Δ) Γ0 (tAll B C), D, D') + 0 = gnf f (w, cxs (A :: Δ) Γ0 (tAll B C'), D, D') + 0
      rw [i1, i2]; exact ⟨rfl, rfl⟩
    rw [(gcs_no w2 c1 c2 v1 v2 v3 v4 v5).1, (gcs_no w2 c1' c2' v1 v2 v3 v4 v5).1]
    exact ⟨rfl, rfl⟩
/-- what stands in a scheme whose bound no other scheme has does not matter -/
theorem gm_sg {Δ : List Ty} {w : Nat} {S T : Ty} (s : SGc h B C C' Γ0 Δ) (t : tok (cxs Δ Γ0 (tAll B C), S, T)) (nS : noh h S = true) (nT : noh h T = true) : gm (w, cxs Δ Γ0 (tAll B C), S, T) = gm (w, cxs Δ Γ0 (tAll B C'), S, T) ∧ gn (w, cxs Δ Γ0 (tAll B C), S, T) = gn (w, cxs Δ Γ0 (tAll B C'), S, T) := by
  have t' := tok_two s t
  obtain ⟨F, hF⟩ : ∃ F, F = max (twt (cxs Δ Γ0 (tAll B C), S, T)) (twt (cxs Δ Γ0 (tAll B C'), S, T)) := ⟨_, rfl⟩
  have f1 : twt (cxs Δ Γ0 (tAll B C), S, T) ≤ F := by rw [hF]; exact Nat.le_max_left _ _
  have f2 : twt (cxs Δ Γ0 (tAll B C'), S, T) ≤ F := by rw [hF]; exact Nat.le_max_right _ _
  have e1 : gm (w, cxs Δ Γ0 (tAll B C), S, T) = gmf F (w, cxs Δ Γ0 (tAll B C), S, T) := gmf_more _ _ _ t (Nat.le_refl _) f1
  have e2 : gm (w, cxs Δ Γ0 (tAll B C'), S, T) = gmf F (w, cxs Δ Γ0 (tAll B C'), S, T) := gmf_more _ _ _ t' (Nat.le_refl _) f2
  have e3 : gn (w, cxs Δ Γ0 (tAll B C), S, T) = gnf F (w, cxs Δ Γ0 (tAll B C), S, T) := gnf_more _ _ _ t (Nat.le_refl _) f1
  have e4 : gn (w, cxs Δ Γ0 (tAll B C'), S, T) = gnf F (w, cxs Δ Γ0 (tAll B C'), S, T) := gnf_more _ _ _ t' (Nat.le_refl _) f2
  obtain ⟨i1, i2⟩ := gf_sg F Δ w S T s t nS nT
  rw [e1, e2, e3, e4]
  exact ⟨i1, i2⟩
end PmK7
