/-! GOALS OF A JOIN, THE SCHEME BEING WITHOUT ITS BODY. -/
def gz (Γ : List Ty) (S : Ty) : Nat := nz 1 ngc 1 (fun x => x) (onz 1 ngc 1 (fun x => x) Γ) S
section PmP9
variable {h w : Nat} {Γ Γ0 Δ : List Ty} {B C S T : Ty}
theorem gz_top : gz Γ tTop = 1 := nz_top _
theorem gz_var {k : Nat} (hc : okc Γ) (hk : k < Γ.length) : gz Γ (tVar k) = gz Γ (lft k (Γ.length - k) (bnd Γ k)) := (nz_var _ k).trans (onz_exp hc hk)
theorem gz_fun (A D : Ty) : gz Γ (tFun A D) = ngc 1 + (gz Γ A + gz Γ D) := nz_fun _ A D
theorem gz_all (A D : Ty) : gz Γ (tAll A D) = 1 + gz (A :: Γ) D := nz_all _ A D
theorem gz_rec {m : Nat} (x y z : Ty) : gz Γ (tRec m x y z) = ngc (8 + m) + (gz Γ x + (gz Γ y + gz Γ z)) := nz_rec _ x y z
theorem gnf_mono : ∀ (f : Nat) (z : Gz), gnf f z ≤ gnf (f + 1) z
  | 0, z => gnf_pos 1 z
  | f + 1, z => by
    by_cases w2 : z.1 = 2
    · rw [gnf_two _ w2, gnf_two _ w2]; exact Nat.le_refl _
    · obtain ⟨w, x⟩ := z
      have w2 : w ≠ 2 := w2
      rw [gnf_succ f w2, gnf_succ (f + 1) w2]
      have := sgl_mono (μ := gnf f) (ν := gnf (f + 1)) (l := gcs (w, x)) (fun y _ => gnf_mono f y)
      omega
theorem gnf_gn {z : Gz} (t : tok z.2) (f : Nat) : gnf f z ≤ gn z := by
  have up : ∀ n, gnf f z ≤ gnf (f + n) z := by
    intro n
    induction n with
    | zero => exact Nat.le_refl _
    | succ n ih => exact Nat.le_trans ih (gnf_mono (f + n) z)
  have q := up (twt z.2)
  have e : gn z = gnf (f + twt z.2) z := gnf_more _ _ z t (Nat.le_refl _) (by omega)
  omega
theorem ngc_one (c : Nat) : c = 1 ∨ (∃ m, m < 8 ∧ c = 8 + m) → 1 ≤ ngc c := by
  rintro (rfl | ⟨m, hm, rfl⟩)
  · decide
  · revert m; decide
theorem gz_one : ∀ (f : Nat) (t : Ty) (ω : List Nat), (flat t).length ≤ f → ok ω.length t = true → (∀ j, j < ω.length → 1 ≤ vw ω j) → 1 ≤ nz 1 ngc 1 (fun x => x) ω t
  | 0, t, ω, hf, o, _ => by have := flat_pos o; omega
  | f + 1, t, ω, hf, o, hω => by
    rcases ok_cases o with rfl | ⟨k, hk, rfl⟩ | ⟨a, c, rfl, ha, hb⟩ | ⟨a, c, rfl, ha, hb⟩ | ⟨m, x, y, z, hm, rfl, -, -, -⟩
    · rw [nz_top]; exact Nat.le_refl _
    · rw [nz_var]; exact hω k hk
    · rw [nz_fun]
      have := ngc_one 1 (Or.inl rfl)
      omega
    · rw [nz_all]; omega
    · rw [nz_rec]
      have := ngc_one (8 + m) (Or.inr ⟨m, hm, rfl⟩)
      omega
theorem onz_one : ∀ (Γ : List Ty), okc Γ → ∀ j, j < (onz 1 ngc 1 (fun x => x) Γ).length → 1 ≤ vw (onz 1 ngc 1 (fun x => x) Γ) j
  | [], _, j, hj => absurd hj (Nat.not_lt_zero _)
  | a :: Γ, hc, j, hj => by
    have ih := onz_one Γ hc.2
    show 1 ≤ vw (nz 1 ngc 1 (fun x => x) (onz 1 ngc 1 (fun x => x) Γ) a :: onz 1 ngc 1 (fun x => x) Γ) j
    rw [vw_cons]
    by_cases ej : j = (onz 1 ngc 1 (fun x => x) Γ).length
    · rw [if_pos ej]
      exact gz_one _ a _ (Nat.le_refl _) (by rw [onz_len]; exact hc.1) ih
    · rw [if_neg ej]
      refine ih j ?_
      rw [onz_len] at hj ej ⊢
      rw [List.length_cons] at hj
      omega
theorem gz_pos (hc : okc Γ) (o : ok Γ.length T = true) : 1 ≤ gz Γ T := gz_one _ T _ (Nat.le_refl _) (by rw [onz_len]; exact o) (onz_one Γ hc)
theorem gz_oth {k : Nat} (hc : okc (cxs Δ Γ0 (tAll B C))) (hk : k < (cxs Δ Γ0 (tAll B C)).length) (ne : k ≠ Γ0.length) : gz (cxs Δ Γ0 (tAll B tTop)) (tVar k) = gz (cxs Δ Γ0 (tAll B tTop)) (lft k ((cxs Δ Γ0 (tAll B C)).length - k) (bnd (cxs Δ Γ0 (tAll B C)) k)) := by
  rw [cxz_exp ne]
  exact gz_var (cxz_okc Δ hc) (by rw [cxs_ll (tAll B tTop) (tAll B C)]; exact hk)
theorem gn_inL {D : Ty} (z : ZH h B C Γ0) (w1 : w ≤ 1) (tk : tok (upb Γ0 Δ B :: cxs Δ Γ0 (tAll B C), upb Γ0 Δ C, D)) : gn (w, upb Γ0 Δ B :: cxs Δ Γ0 (tAll B C), upb Γ0 Δ C, D) ≤ gz (upb Γ0 Δ B :: cxs Δ Γ0 (tAll B tTop)) D := by
  have hc : okc (cxs Δ Γ0 (tAll B C)) := tk.1.2
  have oB : ok (cxs Δ Γ0 (tAll B C)).length (upb Γ0 Δ B) = true := tk.1.1
  have s := (z.zc hc).ext oB (z.body hc).1
  have q := (gm_good s (S := upb Γ0 Δ C) (T := D) tk.2.1 tk.2.2 (Or.inl (z.body hc).2) w).2
  have q : gn (w, upb Γ0 Δ B :: cxs Δ Γ0 (tAll B C), upb Γ0 Δ C, D) = gn (w, upb Γ0 Δ B :: cxs Δ Γ0 (tAll B tTop), upb Γ0 Δ C, D) := q
  have t2 : tok (upb Γ0 Δ B :: cxs Δ Γ0 (tAll B tTop), upb Γ0 Δ C, D) := (s.tok tk.2.1 tk.2.2 tk.2.1 tk.2.2).2
  rw [q]
  exact Nat.le_trans (gn_T (z := (w, upb Γ0 Δ B :: cxs Δ Γ0 (tAll B tTop), upb Γ0 Δ C, D)) t2 w1) (ugT_nz t2.1 t2.2.2)
theorem gn_inR {D : Ty} (z : ZH h B C Γ0) (w1 : w ≤ 1) (tk : tok (upb Γ0 Δ B :: cxs Δ Γ0 (tAll B C), D, upb Γ0 Δ C)) : gn (w, upb Γ0 Δ B :: cxs Δ Γ0 (tAll B C), D, upb Γ0 Δ C) ≤ gz (upb Γ0 Δ B :: cxs Δ Γ0 (tAll B tTop)) D := by
  have hc : okc (cxs Δ Γ0 (tAll B C)) := tk.1.2
  have oB : ok (cxs Δ Γ0 (tAll B C)).length (upb Γ0 Δ B) = true := tk.1.1
  have s := (z.zc hc).ext oB (z.body hc).1
  have q := (gm_good s (S := D) (T := upb Γ0 Δ C) tk.2.1 tk.2.2 (Or.inr (z.body hc).2) w).2
  have q : gn (w, upb Γ0 Δ B :: cxs Δ Γ0 (tAll B C), D, upb Γ0 Δ C) = gn (w, upb Γ0 Δ B :: cxs Δ Γ0 (tAll B tTop), D, upb Γ0 Δ C) := q
  have t2 : tok (upb Γ0 Δ B :: cxs Δ Γ0 (tAll B tTop), D, upb Γ0 Δ C) := (s.tok tk.2.1 tk.2.2 tk.2.1 tk.2.2).2
  rw [q]
  exact Nat.le_trans (gn_S (z := (w, upb Γ0 Δ B :: cxs Δ Γ0 (tAll B tTop), D, upb Γ0 Δ C)) t2 w1) (ugS_nz t2.1 t2.2.1)
theorem tok_all {a b b' : Ty} (tk : tok (Γ, tAll a b, tAll a b')) : tok (a :: Γ, b, b') := by
  have oS := ok_all.mp (show ok Γ.length (tAll a b) = true from tk.2.1)
  have oT := ok_all.mp (show ok Γ.length (tAll a b') = true from tk.2.2)
  exact ⟨⟨oS.1, tk.1⟩, oS.2, oT.2⟩
theorem gnf_upL (z : ZH h B C Γ0) (w1 : w ≤ 1) : ∀ (f : Nat) (T : Ty), tok (cxs Δ Γ0 (tAll B C), upb Γ0 Δ (tAll B C), T) → bel (cxs Δ Γ0 (tAll B C)) T (tVar Γ0.length) = false → gnf f (w, cxs Δ Γ0 (tAll B C), upb Γ0 Δ (tAll B C), T) ≤ gz (cxs Δ Γ0 (tAll B tTop)) T
  | 0, T, tk, _ => gz_pos (cxz_okc Δ tk.1) (by rw [cxs_ll (tAll B tTop) (tAll B C)]; exact tk.2.2)
  | f + 1, T, tk, nb => by
    have w2 : w ≠ 2 := by omega
    have hc : okc (cxs Δ Γ0 (tAll B C)) := tk.1
    have hS : ok (cxs Δ Γ0 (tAll B C)).length (upb Γ0 Δ (tAll B C)) = true := tk.2.1
    have hT : ok (cxs Δ Γ0 (tAll B C)).length T = true := tk.2.2
    have one := gz_pos (T := T) (cxz_okc Δ hc) (by rw [cxs_ll (tAll B tTop) (tAll B C)]; exact hT)
    have kl := SGc.k_lt (Γ0 := Γ0) (Δ := Δ) (tAll B C)
    have h2 : hd (upb Γ0 Δ (tAll B C)) = 2 := by rw [upb_all, hd_all]
    rw [gnf_succ f w2]
    rcases gcs_cases (w := w) tk w2 with ⟨g1, g2, g3⟩ | ⟨q1, k, hk, eS, g1, g2, g3⟩ | ⟨q1, n1, k, hk, rfl, g1, g2, g3⟩ | ⟨m, X0, X1, X2, m', Y0, Y1, Y2, hm, hm', eS, eT, g1, g2, g3⟩ | ⟨A, D, A', D', eS, eT, g1, g2, g3⟩ | ⟨A, D, D', eS, eT, g1, g2, g3⟩
    · rw [g1, g3]
      show max 1 (1 + 0) ≤ _
      omega
    · rw [eS, hd_var] at h2; omega
    · have oA : ok (cxs Δ Γ0 (tAll B C)).length (tVar Γ0.length) = true := by rw [ok_var]; simpa using kl
      by_cases ne : k = Γ0.length
      · subst ne
        rw [bel_refl _ _ _ (Nat.le_refl _) hc oA] at nb
        cases nb
      · have bv := bel_var (Γ := cxs Δ Γ0 (tAll B C)) (T := tVar Γ0.length) (k := k) (show tok (cxs Δ Γ0 (tAll B C), tVar k, tVar Γ0.length) from ⟨hc, hT, oA⟩) (by rw [hd_var]; omega) (by rw [hd_var]; omega)
        rw [bv] at nb
        have q := gnf_upL z w1 f _ ⟨hc, hS, ok_expose hc hk⟩ nb
        rw [gz_oth hc hk ne] at one ⊢
        rw [g1, g3]
        show max 1 (0 + (gnf f (w, cxs Δ Γ0 (tAll B C), upb Γ0 Δ (tAll B C), lft k ((cxs Δ Γ0 (tAll B C)).length - k) (bnd (cxs Δ Γ0 (tAll B C)) k)) + 0)) ≤ _
        omega
    · rw [eS, hd_rec] at h2; omega
    · rw [eS, hd_fun] at h2; omega
    · have eS' := eS
      rw [upb_all] at eS'
      injection eS' with _ eS'
      injection eS' with ea ec
      subst eT ea ec
      have t2 : tok (upb Γ0 Δ B :: cxs Δ Γ0 (tAll B C), upb Γ0 Δ C, D') := by
        have tk' := tk
        rw [upb_all] at tk'
        exact tok_all tk'
      have q := Nat.le_trans (gnf_gn (z := (w, upb Γ0 Δ B :: cxs Δ Γ0 (tAll B C), upb Γ0 Δ C, D')) t2 f) (gn_inL z w1 t2)
      rw [g1, g3, gz_all]
      show max 1 (1 + (gnf f (w, upb Γ0 Δ B :: cxs Δ Γ0 (tAll B C), upb Γ0 Δ C, D') + 0)) ≤ _
      omega
theorem gnf_upR (z : ZH h B C Γ0) (w1 : w ≤ 1) (f : Nat) (S : Ty) (tk : tok (cxs Δ Γ0 (tAll B C), S, upb Γ0 Δ (tAll B C))) (nv : ¬ 16 ≤ hd S) : gnf f (w, cxs Δ Γ0 (tAll B C), S, upb Γ0 Δ (tAll B C)) ≤ gz (cxs Δ Γ0 (tAll B tTop)) S := by
  have hc : okc (cxs Δ Γ0 (tAll B C)) := tk.1
  have hS : ok (cxs Δ Γ0 (tAll B C)).length S = true := tk.2.1
  have one := gz_pos (T := S) (cxz_okc Δ hc) (by rw [cxs_ll (tAll B tTop) (tAll B C)]; exact hS)
  cases f with
  | zero => exact one
  | succ f =>
    have w2 : w ≠ 2 := by omega
    have h2 : hd (upb Γ0 Δ (tAll B C)) = 2 := by rw [upb_all, hd_all]
    rw [gnf_succ f w2]
    rcases gcs_cases (w := w) tk w2 with ⟨g1, g2, g3⟩ | ⟨q1, k, hk, rfl, g1, g2, g3⟩ | ⟨q1, n1, k, hk, eT, g1, g2, g3⟩ | ⟨m, X0, X1, X2, m', Y0, Y1, Y2, hm, hm', eS, eT, g1, g2, g3⟩ | ⟨A, D, A', D', eS, eT, g1, g2, g3⟩ | ⟨A, D, D', eS, eT, g1, g2, g3⟩
    · rw [g1, g3]
      show max 1 (1 + 0) ≤ _
      omega
    · rw [hd_var] at nv; omega
    · rw [eT, hd_var] at h2; omega
    · rw [eT, hd_rec] at h2; omega
    · rw [eT, hd_fun] at h2; omega
    · have eT' := eT
      rw [upb_all] at eT'
      injection eT' with _ eT'
      injection eT' with ea ec
      subst eS ea ec
      have t2 : tok (upb Γ0 Δ B :: cxs Δ Γ0 (tAll B C), D, upb Γ0 Δ C) := by
        have tk' := tk
        rw [upb_all] at tk'
        exact tok_all tk'
      have q := Nat.le_trans (gnf_gn (z := (w, upb Γ0 Δ B :: cxs Δ Γ0 (tAll B C), D, upb Γ0 Δ C)) t2 f) (gn_inR z w1 t2)
      rw [g1, g3, gz_all]
      show max 1 (1 + (gnf f (w, upb Γ0 Δ B :: cxs Δ Γ0 (tAll B C), D, upb Γ0 Δ C) + 0)) ≤ _
      omega
end PmP9
