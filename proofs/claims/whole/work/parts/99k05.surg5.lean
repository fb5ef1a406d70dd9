/-! THE WALK IS THE SAME: goals. -/
section PmK6
variable {h : Nat} {B C C' : Ty} {Γ0 : List Ty}
theorem gmf_succ (f : Nat) {w : Nat} (w2 : w ≠ 2) (x : Tsk) : gmf (f + 1) (w, x) = max (tru x) (gro (w, x) + sgl (gmf f) (gcs (w, x))) := by
  show (if w = 2 then 0 else _) = _
  rw [if_neg w2]
theorem gnf_succ (f : Nat) {w : Nat} (w2 : w ≠ 2) (x : Tsk) : gnf (f + 1) (w, x) = max 1 (gno (w, x) + sgl (gnf f) (gcs (w, x))) := by
  show (if w = 2 then 1 else _) = _
  rw [if_neg w2]
theorem gro_congr {w : Nat} {Γ Γ' : List Ty} {S T S' T' : Ty} (b1 : bel Γ S T = bel Γ' S' T') (b2 : bel Γ T S = bel Γ' T' S') (h1 : hd S = hd S') (h2 : hd T = hd T') (h3 : flat (k1 S) = flat (k1 S')) (h4 : flat (k1 T) = flat (k1 T')) : gro (w, Γ, S, T) = gro (w, Γ', S', T') ∧ gno (w, Γ, S, T) = gno (w, Γ', S', T') := by
  unfold gro gno
  simp only [b1, b2, h1, h2, h3, h4]
  exact ⟨trivial, trivial⟩
theorem noh_fl {Δ : List Ty} (s : SGc h B C C' Γ0 Δ) {T : Ty} {d : Nat} (oT : ok d T = true) (nT : noh h T = true) : ¬ (hd T = 2 ∧ flat (upb Γ0 Δ B) = flat (k1 T)) := by
  rintro ⟨e2, e⟩
  obtain ⟨a, c, rfl, oa, oc⟩ := hd_is_all oT e2
  have oB : ok (cxs Δ Γ0 (tAll B C)).length (upb Γ0 Δ B) = true := (ok_all.mp (by rw [← upb_all]; exact s.okup)).1
  have e3 : flat (upb Γ0 Δ B) = flat a := e
  have := flat_eq oB oa e3
  have h1 := s.hdB
  rw [this] at h1
  exact (noh_all.mp nT).1 h1
theorem bel_nvA {Δ : List Ty} (s : SGc h B C C' Γ0 Δ) {S : Ty} (o : ok (cxs Δ Γ0 (tAll B C)).length S = true) (v : ¬ 16 ≤ hd S) : bel (cxs Δ Γ0 (tAll B C)) S (tVar Γ0.length) = false :=
  bel_no ⟨s.o1, o, ok_var (SGc.k_lt _)⟩ (by rw [hd_var]; omega) v (by rw [hd_var]; omega) (by rw [hd_var]; omega)
/-- what is no variable, and the scheme -/
theorem gf_R {Δ : List Ty} {w : Nat} {S : Ty} (s : SGc h B C C' Γ0 Δ) (o : ok (cxs Δ Γ0 (tAll B C)).length S = true) (nS : noh h S = true) (v : ¬ 16 ≤ hd S) (w2 : w ≠ 2) (f : Nat) : gmf f (w, cxs Δ Γ0 (tAll B C), S, upb Γ0 Δ (tAll B C)) = gmf f (w, cxs Δ Γ0 (tAll B C'), S, upb Γ0 Δ (tAll B C')) ∧ gnf f (w, cxs Δ Γ0 (tAll B C), S, upb Γ0 Δ (tAll B C)) = gnf f (w, cxs Δ Γ0 (tAll B C'), S, upb Γ0 Δ (tAll B C')) := by
  cases f with
  | zero => exact ⟨rfl, rfl⟩
  | succ f =>
    have hb := bel_nvA s o v
    obtain ⟨b1, b1'⟩ := bel_sgR _ Δ S s o (Nat.le_refl _) nS hb
    obtain ⟨b2, b2'⟩ := bel_up s o nS
    have tr : tru (cxs Δ Γ0 (tAll B C), S, upb Γ0 Δ (tAll B C)) = tru (cxs Δ Γ0 (tAll B C'), S, upb Γ0 Δ (tAll B C')) := by
      show max (trx (cxs Δ Γ0 (tAll B C), S, upb Γ0 Δ (tAll B C))) (trx (cxs Δ Γ0 (tAll B C), upb Γ0 Δ (tAll B C), S)) = max (trx (cxs Δ Γ0 (tAll B C'), S, upb Γ0 Δ (tAll B C'))) (trx (cxs Δ Γ0 (tAll B C'), upb Γ0 Δ (tAll B C'), S))
      rw [trx_upR s o nS hb, trx_upL s o nS, trx_upL s o nS]
    have e1 : gcs (w, cxs Δ Γ0 (tAll B C), S, upb Γ0 Δ (tAll B C)) = [] := by
      by_cases h0 : hd S = 0
      · exact (gcs_bel2 w2 (by rw [b1]; decide) (by rw [b2, h0]; decide)).1
      · refine (gcs_no w2 (by rw [b1]; decide) (by rw [b2]; simpa using h0) v (by rw [upb_all, hd_all]; omega) (by rw [upb_all, hd_all]; omega) (by rw [upb_all, hd_all]; omega) ?_).1
        rw [upb_all]
        rintro ⟨q1, -, q3⟩
        exact noh_fl s o nS ⟨q1, q3.symm⟩
    have e2 : gcs (w, cxs Δ Γ0 (tAll B C'), S, upb Γ0 Δ (tAll B C')) = [] := by
      by_cases h0 : hd S = 0
      · exact (gcs_bel2 w2 (by rw [b1']; decide) (by rw [b2', h0]; decide)).1
      · refine (gcs_no w2 (by rw [b1']; decide) (by rw [b2']; simpa using h0) v (by rw [upb_all, hd_all]; omega) (by rw [upb_all, hd_all]; omega) (by rw [upb_all, hd_all]; omega) ?_).1
        rw [upb_all]
        rintro ⟨q1, -, q3⟩
        exact noh_fl s o nS ⟨q1, q3.symm⟩
    obtain ⟨g1, g2⟩ := gro_congr (w := w) (Γ := cxs Δ Γ0 (tAll B C)) (Γ' := cxs Δ Γ0 (tAll B C')) (S := S) (S' := S) (T := upb Γ0 Δ (tAll B C)) (T' := upb Γ0 Δ (tAll B C')) (by rw [b1, b1']) (by rw [b2, b2']) rfl (by rw [upb_all, upb_all]; rfl) rfl (by rw [upb_all, upb_all]; rfl)
    rw [gmf_succ f w2, gmf_succ f w2, gnf_succ f w2, gnf_succ f w2, e1, e2, tr, g1, g2]
    exact ⟨rfl, rfl⟩
/-- the scheme, and what does not lead to the variable -/
theorem gf_L : ∀ (f : Nat) (Δ : List Ty) (w : Nat) (T : Ty), SGc h B C C' Γ0 Δ → ok (cxs Δ Γ0 (tAll B C)).length T = true → noh h T = true → w ≠ 2 → w ≠ 1 → bel (cxs Δ Γ0 (tAll B C)) T (tVar Γ0.length) = false → gmf f (w, cxs Δ Γ0 (tAll B C), upb Γ0 Δ (tAll B C), T) = gmf f (w, cxs Δ Γ0 (tAll B C'), upb Γ0 Δ (tAll B C'), T) ∧ gnf f (w, cxs Δ Γ0 (tAll B C), upb Γ0 Δ (tAll B C), T) = gnf f (w, cxs Δ Γ0 (tAll B C'), upb Γ0 Δ (tAll B C'), T)
  | 0, Δ, w, T, s, o, nT, w2, w1, hb => ⟨rfl, rfl⟩
  | f + 1, Δ, w, T, s, o, nT, w2, w1, hb => by
    obtain ⟨b1, b1'⟩ := bel_sgR _ Δ T s o (Nat.le_refl _) nT hb
    obtain ⟨b2, b2'⟩ := bel_up s o nT
    have tr : tru (cxs Δ Γ0 (tAll B C), upb Γ0 Δ (tAll B C), T) = tru (cxs Δ Γ0 (tAll B C'), upb Γ0 Δ (tAll B C'), T) := by
      show max (trx (cxs Δ Γ0 (tAll B C), upb Γ0 Δ (tAll B C), T)) (trx (cxs Δ Γ0 (tAll B C), T, upb Γ0 Δ (tAll B C))) = max (trx (cxs Δ Γ0 (tAll B C'), upb Γ0 Δ (tAll B C'), T)) (trx (cxs Δ Γ0 (tAll B C'), T, upb Γ0 Δ (tAll B C')))
      rw [trx_upR s o nT hb, trx_upL s o nT, trx_upL s o nT]
    obtain ⟨g1, g2⟩ := gro_congr (w := w) (Γ := cxs Δ Γ0 (tAll B C)) (Γ' := cxs Δ Γ0 (tAll B C')) (T := T) (T' := T) (S := upb Γ0 Δ (tAll B C)) (S' := upb Γ0 Δ (tAll B C')) (by rw [b2, b2']) (by rw [b1, b1']) (by rw [upb_all, upb_all]; rfl) rfl (by rw [upb_all, upb_all]; rfl) rfl
    rw [gmf_succ f w2, gmf_succ f w2, gnf_succ f w2, gnf_succ f w2, tr, g1, g2]
    by_cases h0 : hd T = 0
    · rw [(gcs_bel1 w2 (by rw [b2, h0]; decide)).1, (gcs_bel1 w2 (by rw [b2', h0]; decide)).1]
      exact ⟨rfl, rfl⟩
    have n2 : ¬ bel (cxs Δ Γ0 (tAll B C)) (upb Γ0 Δ (tAll B C)) T = true := by rw [b2]; simpa using h0
    have n2' : ¬ bel (cxs Δ Γ0 (tAll B C')) (upb Γ0 Δ (tAll B C')) T = true := by rw [b2']; simpa using h0
    have n1 : ¬ bel (cxs Δ Γ0 (tAll B C)) T (upb Γ0 Δ (tAll B C)) = true := by rw [b1]; decide
    have n1' : ¬ bel (cxs Δ Γ0 (tAll B C')) T (upb Γ0 Δ (tAll B C')) = true := by rw [b1']; decide
    by_cases v : 16 ≤ hd T
    · obtain ⟨j, hj, rfl⟩ := hd_is_var o v
      have tA : tok (cxs Δ Γ0 (tAll B C), tVar j, tVar Γ0.length) := ⟨s.o1, o, ok_var (SGc.k_lt _)⟩
      have ek : j ≠ Γ0.length := by
        intro ek
        subst ek
        rw [bel_veq tA v rfl] at hb
        exact absurd hb (by decide)
      obtain ⟨x1, x2⟩ := s.ex hj ek
      rw [(gcs_v2 w2 w1 (by rw [upb_all, hd_all]; omega) n2 n1).1, (gcs_v2 w2 w1 (by rw [upb_all, hd_all]; omega) n2' n1').1, ← x1]
      obtain ⟨i1, i2⟩ := gf_L f Δ w _ s (ok_expose s.o1 hj) x2 w2 w1 (by
        rw [bel_var tA (by rw [hd_var]; omega) (by rw [hd_var]; omega)] at hb
        exact hb)
      show max _ (_ + (gmf f (w, _, _, _) + 0)) = max _ (_ + (gmf f (w, _, _, _) + 0)) ∧ max 1 (_ + (gnf f (w, _, _, _) + 0)) = max 1 (_ + (gnf f (w, _, _, _) + 0))
      rw [i1, i2]
      exact ⟨rfl, rfl⟩
    · have q : ∀ X : Ty, ¬ (hd (upb Γ0 Δ (tAll B X)) = 2 ∧ hd T = 2 ∧ flat (k1 (upb Γ0 Δ (tAll B X))) = flat (k1 T)) := by
        intro X
        rw [upb_all]
        rintro ⟨-, q1, q3⟩
        exact noh_fl s o nT ⟨q1, q3⟩
      rw [(gcs_no w2 n2 n1 (by rw [upb_all, hd_all]; omega) v (by rw [upb_all, hd_all]; omega) (by rw [upb_all, hd_all]; omega) (q C)).1, (gcs_no w2 n2' n1' (by rw [upb_all, hd_all]; omega) v (by rw [upb_all, hd_all]; omega) (by rw [upb_all, hd_all]; omega) (q C')).1]
      exact ⟨rfl, rfl⟩
theorem gzl_sg {w : Nat} {Γ Γ' : List Ty} {ls m m' i : Nat} {X Y : Ty} (f : Nat) (hh : bit m i = true → bit m' i = true → gmf f (w, Γ, X, Y) = gmf f (w, Γ', X, Y) ∧ gnf f (w, Γ, X, Y) = gnf f (w, Γ', X, Y)) : sgl (gmf f) (gzl w Γ ls m m' i X Y) = sgl (gmf f) (gzl w Γ' ls m m' i X Y) ∧ sgl (gnf f) (gzl w Γ ls m m' i X Y) = sgl (gnf f) (gzl w Γ' ls m m' i X Y) := by
  unfold gzl
  by_cases h1 : bit ls i = true
  · rw [if_pos h1, if_pos h1]
    by_cases h2 : bit m i = true
    · rw [if_pos h2, if_pos h2]
      by_cases h3 : bit m' i = true
      · rw [if_pos h3, if_pos h3]
        obtain ⟨i1, i2⟩ := hh h2 h3
        show gmf f _ + 0 = gmf f _ + 0 ∧ gnf f _ + 0 = gnf f _ + 0
        rw [i1, i2]
        exact ⟨rfl, rfl⟩
      · rw [if_neg h3, if_neg h3]
        show gmf f _ + 0 = gmf f _ + 0 ∧ gnf f _ + 0 = gnf f _ + 0
        rw [gmf_two f rfl, gmf_two f rfl, gnf_two f rfl, gnf_two f rfl]
        exact ⟨rfl, rfl⟩
    · rw [if_neg h2, if_neg h2]
      show gmf f _ + 0 = gmf f _ + 0 ∧ gnf f _ + 0 = gnf f _ + 0
      rw [gmf_two f rfl, gmf_two f rfl, gnf_two f rfl, gnf_two f rfl]
      exact ⟨rfl, rfl⟩
  · rw [if_neg h1, if_neg h1]
    exact ⟨rfl, rfl⟩
end PmK6
