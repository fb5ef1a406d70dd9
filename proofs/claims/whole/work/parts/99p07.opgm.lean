/-! JOINS OF ANY TWO TYPES, THE SCHEME BEING WITHOUT ITS BODY. -/
section PmP7
variable {e h w : Nat} {Γ0 Δ : List Ty} {B C : Ty}
theorem gmf_mono : ∀ (f : Nat) (z : Gz), gmf f z ≤ gmf (f + 1) z
  | 0, _ => Nat.zero_le _
  | f + 1, z => by
    by_cases w2 : z.1 = 2
    · rw [gmf_two _ w2, gmf_two _ w2]; exact Nat.le_refl _
    · obtain ⟨w, x⟩ := z
      have w2 : w ≠ 2 := w2
      rw [gmf_succ f w2, gmf_succ (f + 1) w2]
      have := sgl_mono (μ := gmf f) (ν := gmf (f + 1)) (l := gcs (w, x)) (fun y _ => gmf_mono f y)
      omega
theorem gmf_gm {z : Gz} (t : tok z.2) (f : Nat) : gmf f z ≤ gm z := by
  have up : ∀ n, gmf f z ≤ gmf (f + n) z := by
    intro n
    induction n with
    | zero => exact Nat.le_refl _
    | succ n ih => exact Nat.le_trans ih (gmf_mono (f + n) z)
  have q := up (twt z.2)
  have e : gm z = gmf (f + twt z.2) z := gmf_more _ _ z t (Nat.le_refl _) (by omega)
  omega
theorem gm_inL {D : Ty} (z : ZH h B C Γ0) (e1 : 1 ≤ e) (w1 : w ≤ 1) (tb : TB e (upb Γ0 Δ B :: cxs Δ Γ0 (tAll B C), upb Γ0 Δ C, D)) : gm (w, upb Γ0 Δ B :: cxs Δ Γ0 (tAll B C), upb Γ0 Δ C, D) ≤ mz false e (upb Γ0 Δ B :: cxs Δ Γ0 (tAll B tTop)) D := by
  have hc : okc (cxs Δ Γ0 (tAll B C)) := tb.1.1.2
  have oB : ok (cxs Δ Γ0 (tAll B C)).length (upb Γ0 Δ B) = true := tb.1.1.1
  have s := (z.zc hc).ext oB (z.body hc).1
  have q := (gm_good s (S := upb Γ0 Δ C) (T := D) tb.1.2.1 tb.1.2.2 (Or.inl (z.body hc).2) w).1
  have q : gm (w, upb Γ0 Δ B :: cxs Δ Γ0 (tAll B C), upb Γ0 Δ C, D) = gm (w, upb Γ0 Δ B :: cxs Δ Γ0 (tAll B tTop), upb Γ0 Δ C, D) := q
  have t2 : TB e (upb Γ0 Δ B :: cxs Δ Γ0 (tAll B tTop), upb Γ0 Δ C, D) := cxz_TB (Δ := upb Γ0 Δ B :: Δ) tb
  rw [q]
  exact Nat.le_trans (gm_rowsT e1 (z := (w, upb Γ0 Δ B :: cxs Δ Γ0 (tAll B tTop), upb Γ0 Δ C, D)) t2 w1) (urm_nz (b := false) (e := e) (w := w) t2.1.1 t2.1.2.2)
theorem gm_inR {D : Ty} (z : ZH h B C Γ0) (e1 : 1 ≤ e) (w1 : w ≤ 1) (tb : TB e (upb Γ0 Δ B :: cxs Δ Γ0 (tAll B C), D, upb Γ0 Δ C)) : gm (w, upb Γ0 Δ B :: cxs Δ Γ0 (tAll B C), D, upb Γ0 Δ C) ≤ mz true e (upb Γ0 Δ B :: cxs Δ Γ0 (tAll B tTop)) D := by
  have hc : okc (cxs Δ Γ0 (tAll B C)) := tb.1.1.2
  have oB : ok (cxs Δ Γ0 (tAll B C)).length (upb Γ0 Δ B) = true := tb.1.1.1
  have s := (z.zc hc).ext oB (z.body hc).1
  have q := (gm_good s (S := D) (T := upb Γ0 Δ C) tb.1.2.1 tb.1.2.2 (Or.inr (z.body hc).2) w).1
  have q : gm (w, upb Γ0 Δ B :: cxs Δ Γ0 (tAll B C), D, upb Γ0 Δ C) = gm (w, upb Γ0 Δ B :: cxs Δ Γ0 (tAll B tTop), D, upb Γ0 Δ C) := q
  have t2 : TB e (upb Γ0 Δ B :: cxs Δ Γ0 (tAll B tTop), D, upb Γ0 Δ C) := cxz_TB (Δ := upb Γ0 Δ B :: Δ) tb
  rw [q]
  exact Nat.le_trans (gm_rowsS e1 (z := (w, upb Γ0 Δ B :: cxs Δ Γ0 (tAll B tTop), D, upb Γ0 Δ C)) t2 w1) (urm_nz (b := true) (e := e) (w := w) t2.1.1 t2.1.2.1)
theorem mz_one {b : Bool} {Γ : List Ty} {T : Ty} (hc : okc Γ) (o : ok Γ.length T = true) (h0 : hd T ≠ 0) : 1 ≤ mz b e Γ T := by
  rcases ok_cases o with rfl | ⟨k, hk, rfl⟩ | ⟨a, c, rfl, ha, hb⟩ | ⟨a, c, rfl, ha, hb⟩ | ⟨m, x, y, z, hm, rfl, -, -, -⟩
  · exact absurd rfl h0
  · rw [mz_var hc hk]
    have := vlr_up (b := b) (e := e) (mz b e Γ (lft k (Γ.length - k) (bnd Γ k)))
    omega
  · rw [mz_fun]; omega
  · rw [mz_all]; omega
  · rw [mz_rec]; omega
/-- the scheme, exposed on the left, against what is not below it -/
theorem gmf_upL (z : ZH h B C Γ0) (e1 : 1 ≤ e) (w1 : w ≤ 1) : ∀ (f : Nat) (T : Ty), TB e (cxs Δ Γ0 (tAll B C), upb Γ0 Δ (tAll B C), T) → bel (cxs Δ Γ0 (tAll B C)) T (tVar Γ0.length) = false → gmf f (w, cxs Δ Γ0 (tAll B C), upb Γ0 Δ (tAll B C), T) ≤ mz false e (cxs Δ Γ0 (tAll B tTop)) T
  | 0, _, _, _ => Nat.zero_le _
  | f + 1, T, tb, nb => by
    have w2 : w ≠ 2 := by omega
    have tk : tok (cxs Δ Γ0 (tAll B C), upb Γ0 Δ (tAll B C), T) := tb.1
    have hc : okc (cxs Δ Γ0 (tAll B C)) := tk.1
    have hS : ok (cxs Δ Γ0 (tAll B C)).length (upb Γ0 Δ (tAll B C)) = true := tk.2.1
    have hT : ok (cxs Δ Γ0 (tAll B C)).length T = true := tk.2.2
    have hTz : ok (cxs Δ Γ0 (tAll B tTop)).length T = true := by rw [cxs_ll (tAll B tTop) (tAll B C)]; exact hT
    have kl := SGc.k_lt (Γ0 := Γ0) (Δ := Δ) (tAll B C)
    have h2 : hd (upb Γ0 Δ (tAll B C)) = 2 := by rw [upb_all, hd_all]
    have u1 : trx (cxs Δ Γ0 (tAll B C), upb Γ0 Δ (tAll B C), T) ≤ mz false e (cxs Δ Γ0 (tAll B tTop)) T := trf_upL z false _ tb (Nat.le_refl _)
    have u2 : trx (cxs Δ Γ0 (tAll B C), T, upb Γ0 Δ (tAll B C)) ≤ mz false e (cxs Δ Γ0 (tAll B tTop)) T := trf_upR z false _ T (TB_swap tb) (Nat.le_refl _) nb
    have tu : tru (cxs Δ Γ0 (tAll B C), upb Γ0 Δ (tAll B C), T) ≤ mz false e (cxs Δ Γ0 (tAll B tTop)) T := by
      show max (trx _) (trx (cxs Δ Γ0 (tAll B C), T, upb Γ0 Δ (tAll B C))) ≤ _
      omega
    suffices hh : gro (w, cxs Δ Γ0 (tAll B C), upb Γ0 Δ (tAll B C), T) + sgl (gmf f) (gcs (w, cxs Δ Γ0 (tAll B C), upb Γ0 Δ (tAll B C), T)) ≤ mz false e (cxs Δ Γ0 (tAll B tTop)) T by
      rw [gmf_succ f w2]
      omega
    by_cases bl : bel (cxs Δ Γ0 (tAll B C)) (upb Γ0 Δ (tAll B C)) T = true ∨ bel (cxs Δ Γ0 (tAll B C)) T (upb Γ0 Δ (tAll B C)) = true
    · rw [gcs_of_bel bl, gro_bel bl]; exact Nat.zero_le _
    have h1 : hd T ≠ 0 := fun e => bl (Or.inl (bel_top tk e))
    have one := mz_one (b := false) (e := e) (cxz_okc Δ hc) hTz h1
    have kids := tb.gcs w2 (by omega)
    rcases gcs_cases (w := w) tk w2 with ⟨g1, g2, g3⟩ | ⟨q1, k, hk, eS, g1, g2, g3⟩ | ⟨q1, n1, k, hk, rfl, g1, g2, g3⟩ | ⟨m, X0, X1, X2, m', Y0, Y1, Y2, hm, hm', eS, eT, g1, g2, g3⟩ | ⟨A, D, A', D', eS, eT, g1, g2, g3⟩ | ⟨A, D, D', eS, eT, g1, g2, g3⟩
    · rw [g1]
      show gro _ + 0 ≤ _
      omega
    · rw [eS, hd_var] at h2; omega
    · have t1 := (kids _ (by rw [g1]; exact List.mem_cons_self ..)).1
      have t1 : TB e (cxs Δ Γ0 (tAll B C), upb Γ0 Δ (tAll B C), lft k ((cxs Δ Γ0 (tAll B C)).length - k) (bnd (cxs Δ Γ0 (tAll B C)) k)) := t1
      have oA : ok (cxs Δ Γ0 (tAll B C)).length (tVar Γ0.length) = true := by rw [ok_var]; simpa using kl
      by_cases ne : k = Γ0.length
      · subst ne
        rw [bel_refl _ _ _ (Nat.le_refl _) hc oA] at nb
        cases nb
      · have bv := bel_var (Γ := cxs Δ Γ0 (tAll B C)) (T := tVar Γ0.length) (k := k) (show tok (cxs Δ Γ0 (tAll B C), tVar k, tVar Γ0.length) from ⟨hc, hT, oA⟩) (by rw [hd_var]; omega) (by rw [hd_var]; omega)
        rw [bv] at nb
        have q := gmf_upL z e1 w1 f _ t1 nb
        rw [g1, g2, mz_oth hc hk ne]
        have v := vlr_up (b := false) (e := e) (mz false e (cxs Δ Γ0 (tAll B tTop)) (lft k ((cxs Δ Γ0 (tAll B C)).length - k) (bnd (cxs Δ Γ0 (tAll B C)) k)))
        show 1 + (gmf f (w, cxs Δ Γ0 (tAll B C), upb Γ0 Δ (tAll B C), lft k ((cxs Δ Γ0 (tAll B C)).length - k) (bnd (cxs Δ Γ0 (tAll B C)) k)) + 0) ≤ _
        omega
    · rw [eS, hd_rec] at h2; omega
    · rw [eS, hd_fun] at h2; omega
    · have eS' := eS
      rw [upb_all] at eS'
      injection eS' with _ eS'
      injection eS' with ea ec
      subst eT ea ec
      have t2 : TB e (upb Γ0 Δ B :: cxs Δ Γ0 (tAll B C), upb Γ0 Δ C, D') := by
        have tb' := tb
        rw [upb_all] at tb'
        exact TB_all tb'
      have q := Nat.le_trans (gmf_gm (z := (w, upb Γ0 Δ B :: cxs Δ Γ0 (tAll B C), upb Γ0 Δ C, D')) t2.1 f) (gm_inL z e1 w1 t2)
      rw [g1, g2, mz_all]
      show 2 + (gmf f (w, upb Γ0 Δ B :: cxs Δ Γ0 (tAll B C), upb Γ0 Δ C, D') + 0) ≤ _
      omega
/-- the scheme, exposed on the right, against what is no variable and not below it -/
theorem gmf_upR (z : ZH h B C Γ0) (e1 : 1 ≤ e) (w1 : w ≤ 1) (f : Nat) (S : Ty) (tb : TB e (cxs Δ Γ0 (tAll B C), S, upb Γ0 Δ (tAll B C))) (nv : ¬ 16 ≤ hd S) (nb : bel (cxs Δ Γ0 (tAll B C)) S (tVar Γ0.length) = false) : gmf f (w, cxs Δ Γ0 (tAll B C), S, upb Γ0 Δ (tAll B C)) ≤ mz true e (cxs Δ Γ0 (tAll B tTop)) S := by
  cases f with
  | zero => exact Nat.zero_le _
  | succ f =>
    have w2 : w ≠ 2 := by omega
    have tk : tok (cxs Δ Γ0 (tAll B C), S, upb Γ0 Δ (tAll B C)) := tb.1
    have hc : okc (cxs Δ Γ0 (tAll B C)) := tk.1
    have hS : ok (cxs Δ Γ0 (tAll B C)).length S = true := tk.2.1
    have hSz : ok (cxs Δ Γ0 (tAll B tTop)).length S = true := by rw [cxs_ll (tAll B tTop) (tAll B C)]; exact hS
    have hT : ok (cxs Δ Γ0 (tAll B C)).length (upb Γ0 Δ (tAll B C)) = true := tk.2.2
    have h2 : hd (upb Γ0 Δ (tAll B C)) = 2 := by rw [upb_all, hd_all]
    have u1 : trx (cxs Δ Γ0 (tAll B C), upb Γ0 Δ (tAll B C), S) ≤ mz true e (cxs Δ Γ0 (tAll B tTop)) S := trf_upL z true _ (TB_swap tb) (Nat.le_refl _)
    have u2 : trx (cxs Δ Γ0 (tAll B C), S, upb Γ0 Δ (tAll B C)) ≤ mz true e (cxs Δ Γ0 (tAll B tTop)) S := trf_upR z true _ S tb (Nat.le_refl _) nb
    have tu : tru (cxs Δ Γ0 (tAll B C), S, upb Γ0 Δ (tAll B C)) ≤ mz true e (cxs Δ Γ0 (tAll B tTop)) S := by
      show max (trx _) (trx (cxs Δ Γ0 (tAll B C), upb Γ0 Δ (tAll B C), S)) ≤ _
      omega
    suffices hh : gro (w, cxs Δ Γ0 (tAll B C), S, upb Γ0 Δ (tAll B C)) + sgl (gmf f) (gcs (w, cxs Δ Γ0 (tAll B C), S, upb Γ0 Δ (tAll B C))) ≤ mz true e (cxs Δ Γ0 (tAll B tTop)) S by
      rw [gmf_succ f w2]
      omega
    by_cases bl : bel (cxs Δ Γ0 (tAll B C)) S (upb Γ0 Δ (tAll B C)) = true ∨ bel (cxs Δ Γ0 (tAll B C)) (upb Γ0 Δ (tAll B C)) S = true
    · rw [gcs_of_bel bl, gro_bel bl]; exact Nat.zero_le _
    have h1 : hd S ≠ 0 := fun e => bl (Or.inr (bel_top ⟨hc, hT, hS⟩ e))
    have one := mz_one (b := true) (e := e) (cxz_okc Δ hc) hSz h1
    rcases gcs_cases (w := w) tk w2 with ⟨g1, g2, g3⟩ | ⟨q1, k, hk, rfl, g1, g2, g3⟩ | ⟨q1, n1, k, hk, eT, g1, g2, g3⟩ | ⟨m, X0, X1, X2, m', Y0, Y1, Y2, hm, hm', eS, eT, g1, g2, g3⟩ | ⟨A, D, A', D', eS, eT, g1, g2, g3⟩ | ⟨A, D, D', eS, eT, g1, g2, g3⟩
    · rw [g1]
      show gro _ + 0 ≤ _
      omega
    · rw [hd_var] at nv; omega
    · rw [eT, hd_var] at h2; omega
    · rw [eT, hd_rec] at h2; omega
    · rw [eT, hd_fun] at h2; omega
    · have eT' := eT
      rw [upb_all] at eT'
      injection eT' with _ eT'
      injection eT' with ea ec
      subst eS ea ec
      have t2 : TB e (upb Γ0 Δ B :: cxs Δ Γ0 (tAll B C), D, upb Γ0 Δ C) := by
        have tb' := tb
        rw [upb_all] at tb'
        exact TB_all tb'
      have q := Nat.le_trans (gmf_gm (z := (w, upb Γ0 Δ B :: cxs Δ Γ0 (tAll B C), D, upb Γ0 Δ C)) t2.1 f) (gm_inR z e1 w1 t2)
      rw [g1, g2, mz_all]
      show 2 + (gmf f (w, upb Γ0 Δ B :: cxs Δ Γ0 (tAll B C), D, upb Γ0 Δ C) + 0) ≤ _
      omega
end PmP7
