/-! TWO WALKS THAT GO ALIKE: goals. -/
/-- joins go alike -/
def BisG (R G : TRel) : Prop := ∀ (Γ Γ' : List Ty) (S S' T T' : Ty), G (Γ, S, T) (Γ', S', T') → R (Γ, S, T) (Γ', S', T') ∧ R (Γ, T, S) (Γ', T', S') ∧ (¬ bel Γ S T = true → ¬ bel Γ T S = true →
  (16 ≤ hd S → G (Γ, exps Γ S, T) (Γ', exps Γ' S', T')) ∧
  (¬ 16 ≤ hd S → 16 ≤ hd T → G (Γ, S, exps Γ T) (Γ', S', exps Γ' T')) ∧
  (8 ≤ hd S → hd S < 16 → 8 ≤ hd T → hd T < 16 → ∀ i, i < 3 → bit (hd S - 8) i = true → bit (hd T - 8) i = true → G (Γ, rp i S, rp i T) (Γ', rp i S', rp i T')) ∧
  (hd S = 1 → hd T = 1 → G (Γ, k1 S, k1 T) (Γ', k1 S', k1 T') ∧ G (Γ, k2 S, k2 T) (Γ', k2 S', k2 T')) ∧
  (hd S = 2 → hd T = 2 → flat (k1 S) = flat (k1 T) → G (k1 S :: Γ, k2 S, k2 T) (k1 S' :: Γ', k2 S', k2 T')))
theorem rp_rec0 (m : Nat) (x y z : Ty) : rp 0 (tRec m x y z) = x := rfl
theorem rp_rec1 (m : Nat) (x y z : Ty) : rp 1 (tRec m x y z) = y := rfl
theorem rp_rec2 (m : Nat) (x y z : Ty) : rp 2 (tRec m x y z) = z := rfl
theorem gzl_bis {w : Nat} {Γ Γ' : List Ty} {ls m m' i : Nat} {X Y X' Y' : Ty} (f : Nat) (hh : bit m i = true → bit m' i = true → gmf f (w, Γ, X, Y) = gmf f (w, Γ', X', Y') ∧ gnf f (w, Γ, X, Y) = gnf f (w, Γ', X', Y')) : sgl (gmf f) (gzl w Γ ls m m' i X Y) = sgl (gmf f) (gzl w Γ' ls m m' i X' Y') ∧ sgl (gnf f) (gzl w Γ ls m m' i X Y) = sgl (gnf f) (gzl w Γ' ls m m' i X' Y') := by
  unfold gzl
  by_cases h1 : bit ls i = true
  · rw [if_pos h1, if_pos h1]
    by_cases h2 : bit m i = true
    · rw [if_pos h2, if_pos h2]
      by_cases h3 : bit m' i = true
      · rw [if_pos h3, if_pos h3]
        obtain ⟨i1, i2⟩ := hh h2 h3
        show gmf f _ + 0 = gmf f _ + 0 ∧ gnf f _ + 0 = gnf f _ + 0
        rw [i1, i2]
        exact ⟨rfl, rfl⟩
      · rw [if_neg h3, if_neg h3]
        show gmf f _ + 0 = gmf f _ + 0 ∧ gnf f _ + 0 = gnf f _ + 0
        rw [gmf_two f rfl, gmf_two f rfl, gnf_two f rfl, gnf_two f rfl]
        exact ⟨rfl, rfl⟩
    · rw [if_neg h2, if_neg h2]
      show gmf f _ + 0 = gmf f _ + 0 ∧ gnf f _ + 0 = gnf f _ + 0
      rw [gmf_two f rfl, gmf_two f rfl, gnf_two f rfl, gnf_two f rfl]
      exact ⟨rfl, rfl⟩
  · rw [if_neg h1, if_neg h1]
    exact ⟨rfl, rfl⟩
section PmK9
variable {R G : TRel}
theorem gf_bis (hR : BisT R) (hG : BisG R G) : ∀ (f w : Nat) (z z' : Tsk), G z z' → gmf f (w, z) = gmf f (w, z') ∧ gnf f (w, z) = gnf f (w, z')
  | 0, _, _, _, _ => ⟨rfl, rfl⟩
  | f + 1, w, (Γ, S, T), (Γ', S', T'), h => by
    by_cases w2 : w = 2
    · subst w2
      rw [gmf_two _ rfl, gmf_two _ rfl, gnf_two _ rfl, gnf_two _ rfl]
      exact ⟨rfl, rfl⟩
    have ih := gf_bis hR hG f
    obtain ⟨r1, r2, hn⟩ := hG _ _ _ _ _ _ h
    obtain ⟨t, t', hS, hT, -, -, -, qa⟩ := hR _ _ _ _ _ _ r1
    have oS := t.2.1; have oT := t.2.2; have oS' := t'.2.1; have oT' := t'.2.2
    simp only at oS oT oS' oT'
    have b1 := bel_bis' hR r1
    have b2 := bel_bis' hR r2
    have et : tru (Γ, S, T) = tru (Γ', S', T') := by
      show max (trx (Γ, S, T)) (trx (Γ, T, S)) = max (trx (Γ', S', T')) (trx (Γ', T', S'))
      rw [trx_bis hR r1, trx_bis hR r2]
    have eg : gro (w, Γ, S, T) = gro (w, Γ', S', T') := by
      unfold gro
      simp only [b1, b2]
      have : (hd S = 2 ∧ hd T = 2 ∧ flat (k1 S) = flat (k1 T)) ↔ (hd S' = 2 ∧ hd T' = 2 ∧ flat (k1 S') = flat (k1 T')) := by
        constructor
        · rintro ⟨a1, a2, a3⟩
          exact ⟨by omega, by omega, (qa a1 a2).1.mp a3⟩
        · rintro ⟨a1, a2, a3⟩
          exact ⟨by omega, by omega, (qa (by omega) (by omega)).1.mpr a3⟩
      simp only [this]
    have en : gno (w, Γ, S, T) = gno (w, Γ', S', T') := by
      unfold gno
      simp only [b1, b2, hS, hT]
    rw [gmf_succ f w2, gmf_succ f w2, gnf_succ f w2, gnf_succ f w2, et, eg, en]
    suffices hs : sgl (gmf f) (gcs (w, Γ, S, T)) = sgl (gmf f) (gcs (w, Γ', S', T')) ∧ sgl (gnf f) (gcs (w, Γ, S, T)) = sgl (gnf f) (gcs (w, Γ', S', T')) by
      rw [hs.1, hs.2]; exact ⟨rfl, rfl⟩
    by_cases c1 : bel Γ S T = true
    · rw [(gcs_bel1 w2 c1).1, (gcs_bel1 w2 (by rw [← b1]; exact c1)).1]
      exact ⟨rfl, rfl⟩
    have c1' : ¬ bel Γ' S' T' = true := by rw [← b1]; exact c1
    by_cases c2 : bel Γ T S = true
    · rw [(gcs_bel2 w2 c1 c2).1, (gcs_bel2 w2 c1' (by rw [← b2]; exact c2)).1]
      exact ⟨rfl, rfl⟩
    have c2' : ¬ bel Γ' T' S' = true := by rw [← b2]; exact c2
    obtain ⟨qv1, qv2, qr, qf, qs⟩ := hn c1 c2
    by_cases v1 : 16 ≤ hd S
    · by_cases w1 : w = 1
      · subst w1
        rw [(gcs_w1 c1 c2 (Or.inl v1)).1, (gcs_w1 c1' c2' (Or.inl (by rw [← hS]; exact v1))).1]
        exact ⟨rfl, rfl⟩
      · have q := qv1 v1
        obtain ⟨j, hj, rfl⟩ := hd_is_var oS v1
        obtain ⟨j', hj', rfl⟩ := hd_is_var oS' (by rw [← hS]; exact v1)
        rw [(gcs_v1 w2 w1 c1 c2).1, (gcs_v1 w2 w1 c1' c2').1, ← exps_var, ← exps_var]
        obtain ⟨i1, i2⟩ := ih w _ _ q
        show gmf f _ + 0 = gmf f _ + 0 ∧ gnf f _ + 0 = gnf f _ + 0
        rw [i1, i2]; exact ⟨rfl, rfl⟩
    have v1' : ¬ 16 ≤ hd S' := by rw [← hS]; exact v1
    by_cases v2 : 16 ≤ hd T
    · by_cases w1 : w = 1
      · subst w1
        rw [(gcs_w1 c1 c2 (Or.inr v2)).1, (gcs_w1 c1' c2' (Or.inr (by rw [← hT]; exact v2))).1]
        exact ⟨rfl, rfl⟩
      · have q := qv2 v1 v2
        obtain ⟨j, hj, rfl⟩ := hd_is_var oT v2
        obtain ⟨j', hj', rfl⟩ := hd_is_var oT' (by rw [← hT]; exact v2)
        rw [(gcs_v2 w2 w1 v1 c1 c2).1, (gcs_v2 w2 w1 v1' c1' c2').1, ← exps_var, ← exps_var]
        obtain ⟨i1, i2⟩ := ih w _ _ q
        show gmf f _ + 0 = gmf f _ + 0 ∧ gnf f _ + 0 = gnf f _ + 0
        rw [i1, i2]; exact ⟨rfl, rfl⟩
    have v2' : ¬ 16 ≤ hd T' := by rw [← hT]; exact v2
    by_cases v3 : 8 ≤ hd S ∧ 8 ≤ hd T
    · have q := qr v3.1 (by omega) v3.2 (by omega)
      obtain ⟨m, X0, X1, X2, hm, rfl⟩ := hd_is_rec oS v3.1 (by omega)
      obtain ⟨m', Y0, Y1, Y2, hm', rfl⟩ := hd_is_rec oT v3.2 (by omega)
      obtain ⟨l, U0, U1, U2, hl, rfl⟩ := hd_is_rec oS' (by rw [← hS]; exact v3.1) (by omega)
      obtain ⟨l', V0, V1, V2, hl', rfl⟩ := hd_is_rec oT' (by rw [← hT]; exact v3.2) (by omega)
      rw [hd_rec, hd_rec] at hS hT
      have el : l = m := by omega
      have el' : l' = m' := by omega
      subst el el'
      rw [(gcs_rec hm hm' w2 c1 c2).1, (gcs_rec hm hm' w2 c1' c2').1]
      rw [sgl_app, sgl_app, sgl_app, sgl_app, sgl_app, sgl_app, sgl_app, sgl_app]
      simp only [hd_rec, show 8 + l - 8 = l by omega, show 8 + l' - 8 = l' by omega] at q
      obtain ⟨a1, a2⟩ := gzl_bis (w := w) (ls := lset w l l') f (fun x y => ih w _ _ (q 0 (by decide) x y))
      obtain ⟨d1, d2⟩ := gzl_bis (w := w) (ls := lset w l l') f (fun x y => ih w _ _ (q 1 (by decide) x y))
      obtain ⟨e1, e2⟩ := gzl_bis (w := w) (ls := lset w l l') f (fun x y => ih w _ _ (q 2 (by decide) x y))
      simp only [rp_rec0, rp_rec1, rp_rec2] at a1 a2 d1 d2 e1 e2
      rw [a1, a2, d1, d2, e1, e2]
      exact ⟨rfl, rfl⟩
    by_cases v4 : hd S = 1 ∧ hd T = 1
    · obtain ⟨q1, q2⟩ := qf v4.1 v4.2
      obtain ⟨A, D, rfl, oA, oD⟩ := hd_is_fun oS v4.1
      obtain ⟨A', D', rfl, oA', oD'⟩ := hd_is_fun oT v4.2
      obtain ⟨E, F, rfl, -, -⟩ := hd_is_fun oS' (by omega)
      obtain ⟨E', F', rfl, -, -⟩ := hd_is_fun oT' (by omega)
      rw [(gcs_fun w2 c1 c2).1, (gcs_fun w2 c1' c2').1]
      obtain ⟨i1, i2⟩ := ih (1 - w) _ _ q1
      obtain ⟨i3, i4⟩ := ih w _ _ q2
      have i1 : gmf f (1 - w, Γ, A, A') = gmf f (1 - w, Γ', E, E') := i1
      have i2 : gnf f (1 - w, Γ, A, A') = gnf f (1 - w, Γ', E, E') := i2
      have i3 : gmf f (w, Γ, D, D') = gmf f (w, Γ', F, F') := i3
      have i4 : gnf f (w, Γ, D, D') = gnf f (w, Γ', F, F') := i4
      show gmf f (1 - w, Γ, A, A') + (gmf f (w, Γ, D, D') + 0) = gmf f (1 - w, Γ', E, E') + (gmf f (w, Γ', F, F') + 0) ∧ gnf f (1 - w, Γ, A, A') + (gnf f (w, Γ, D, D') + 0) = gnf f (1 - w, Γ', E, E') + (gnf f (w, Γ', F, F') + 0)
      rw [i1, i2, i3, i4]; exact ⟨rfl, rfl⟩
    by_cases v5 : hd S = 2 ∧ hd T = 2 ∧ flat (k1 S) = flat (k1 T)
    · have q := qs v5.1 v5.2.1 v5.2.2
      have u5 := (qa v5.1 v5.2.1).1.mp v5.2.2
      obtain ⟨A, D, rfl, oA, oD⟩ := hd_is_all oS v5.1
      obtain ⟨A', D', rfl, oA', oD'⟩ := hd_is_all oT v5.2.1
      obtain ⟨E, F, rfl, oE, -⟩ := hd_is_all oS' (by omega)
      obtain ⟨E', F', rfl, oE', -⟩ := hd_is_all oT' (by omega)
      have ea : A = A' := flat_eq oA oA' v5.2.2
      have ee : E = E' := flat_eq oE oE' u5
      subst ea ee
      rw [(gcs_all w2 c1 c2).1, (gcs_all w2 c1' c2').1]
      obtain ⟨i1, i2⟩ := ih w _ _ q
      have i1 : gmf f (w, A :: Γ, D, D') = gmf f (w, E :: Γ', F, F') := i1
      have i2 : gnf f (w, A :: Γ, D, D') = gnf f (w, E :: Γ', F, F') := i2
      show gmf f (w, A :: Γ, D, D') + 0 = gmf f (w, E :: Γ', F, F') + 0 ∧ gnf f (w, A :: Γ, D, D') + 0 = gnf f (w, E :: Γ', F, F') + 0
      rw [i1, i2]; exact ⟨rfl, rfl⟩
    have u5 : ¬ (hd S' = 2 ∧ hd T' = 2 ∧ flat (k1 S') = flat (k1 T')) := by
      rintro ⟨a1, a2, a3⟩
      exact v5 ⟨by omega, by omega, (qa (by omega) (by omega)).1.mpr a3⟩
    rw [(gcs_no w2 c1 c2 v1 v2 v3 v4 v5).1, (gcs_no w2 c1' c2' v1' v2' (by omega) (by omega) u5).1]
    exact ⟨rfl, rfl⟩
/-- rows and goals of a join -/
theorem gm_bis (hR : BisT R) (hG : BisG R G) {w : Nat} {z z' : Tsk} (h : G z z') : gm (w, z) = gm (w, z') ∧ gn (w, z) = gn (w, z') := by
  obtain ⟨r1, -, -⟩ := hG z.1 z'.1 z.2.1 z'.2.1 z.2.2 z'.2.2 h
  obtain ⟨t, t', -⟩ := hR z.1 z'.1 z.2.1 z'.2.1 z.2.2 z'.2.2 r1
  obtain ⟨F, hF⟩ : ∃ F, F = max (twt z) (twt z') := ⟨_, rfl⟩
  have f1 : twt z ≤ F := by rw [hF]; exact Nat.le_max_left _ _
  have f2 : twt z' ≤ F := by rw [hF]; exact Nat.le_max_right _ _
  have e1 : gm (w, z) = gmf F (w, z) := gmf_more _ _ (w, z) t (Nat.le_refl _) f1
  have e2 : gm (w, z') = gmf F (w, z') := gmf_more _ _ (w, z') t' (Nat.le_refl _) f2
  have e3 : gn (w, z) = gnf F (w, z) := gnf_more _ _ (w, z) t (Nat.le_refl _) f1
  have e4 : gn (w, z') = gnf F (w, z') := gnf_more _ _ (w, z') t' (Nat.le_refl _) f2
  obtain ⟨i1, i2⟩ := gf_bis hR hG F w z z' h
  rw [e1, e2, e3, e4]
  exact ⟨i1, i2⟩
end PmK9
