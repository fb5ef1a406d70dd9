/-! NODES OF A JOIN OF ANY TWO TYPES, THE SCHEME BEING WITHOUT ITS BODY. -/
section PmPd
variable {e h w : Nat} {Γ0 Δ : List Ty} {B C : Ty}
theorem nbf_mono : ∀ (f : Nat) (z : Gz), nbf f z ≤ nbf (f + 1) z
  | 0, _ => Nat.zero_le _
  | f + 1, z => by
    by_cases w2 : z.1 = 2
    · rw [nbf_two _ w2, nbf_two _ w2]; exact Nat.le_refl _
    · obtain ⟨w, x⟩ := z
      have w2 : w ≠ 2 := w2
      rw [nbf_succ f w2, nbf_succ (f + 1) w2]
      have := sgl_mono (μ := nbf f) (ν := nbf (f + 1)) (l := gcs (w, x)) (fun y _ => nbf_mono f y)
      omega
theorem nbf_nbm {w : Nat} {Γ : List Ty} {S T : Ty} (t : tok (Γ, S, T)) (f : Nat) : nbf f (w, Γ, S, T) ≤ nbm w Γ S T := by
  have up : ∀ n, nbf f (w, Γ, S, T) ≤ nbf (f + n) (w, Γ, S, T) := by
    intro n
    induction n with
    | zero => exact Nat.le_refl _
    | succ n ih => exact Nat.le_trans ih (nbf_mono (f + n) _)
  have q := up (twt (Γ, S, T))
  have e : nbm w Γ S T = nbf (f + twt (Γ, S, T)) (w, Γ, S, T) := nbf_more _ _ (w, Γ, S, T) t (Nat.le_refl _) (by show twt (Γ, S, T) ≤ _; omega)
  omega
theorem vbl_up {b : Bool} {e : Nat} (x : Nat) : 16 + x ≤ vbl b e x := by
  cases b with
  | true => show 16 + x ≤ max (16 * e) (16 + x); omega
  | false => show 16 + x ≤ 16 + max (16 * e) x; omega
theorem nbo_exp {z : Gz} (g3 : gno z = 0) : nbo z = 16 := by unfold nbo; rw [g3, if_pos rfl]
theorem nbo_on {z : Gz} (g3 : gno z = 1) : nbo z = gro z := by unfold nbo; rw [g3, if_neg (by decide)]
theorem nbo_end {z : Gz} (g2 : gro z ≤ 1) (g3 : gno z = 1) : nbo z ≤ 1 := by rw [nbo_on g3]; exact g2
theorem nbo_bel {w : Nat} {Γ : List Ty} {S T : Ty} (tk : tok (Γ, S, T)) (w2 : w ≠ 2) (bl : bel Γ S T = true ∨ bel Γ T S = true) : nbo (w, Γ, S, T) = 0 := by
  have g0 := gcs_of_bel (w := w) bl
  have gr := gro_bel (w := w) bl
  rcases gcs_cases (w := w) tk w2 with ⟨-, -, g3⟩ | ⟨-, k, -, -, g1, -, -⟩ | ⟨-, -, k, -, -, g1, -, -⟩ | ⟨m, X0, X1, X2, m', Y0, Y1, Y2, -, -, -, -, g1, g2, -⟩ | ⟨A, D, A', D', -, -, g1, -, -⟩ | ⟨A, D, D', -, -, g1, -, -⟩
  · rw [nbo_on g3]; exact gr
  · rw [g0] at g1; cases g1
  · rw [g0] at g1; cases g1
  · omega
  · rw [g0] at g1; cases g1
  · rw [g0] at g1; cases g1
theorem Nb_oth {b : Bool} {Δ : List Ty} {k : Nat} (hc : okc (cxs Δ Γ0 (tAll B C))) (hk : k < (cxs Δ Γ0 (tAll B C)).length) (ne : k ≠ Γ0.length) : Nb b e (cxs Δ Γ0 (tAll B tTop)) (tVar k) = vbl b e (Nb b e (cxs Δ Γ0 (tAll B tTop)) (lft k ((cxs Δ Γ0 (tAll B C)).length - k) (bnd (cxs Δ Γ0 (tAll B C)) k))) := by
  rw [cxz_exp ne]
  exact Nb_var (cxz_okc Δ hc) (by rw [cxs_ll (tAll B tTop) (tAll B C)]; exact hk)
theorem Nb_own {b : Bool} {Δ : List Ty} (hc : okc (cxs Δ Γ0 (tAll B C))) : Nb b e (cxs Δ Γ0 (tAll B tTop)) (tVar Γ0.length) = 18 + 16 * e := by
  have q := Nb_var (b := b) (e := e) (cxz_okc Δ hc) (SGc.k_lt (Γ0 := Γ0) (Δ := Δ) (tAll B tTop))
  rw [cxs_up, upb_all, Nb_all] at q
  have e0 : upb Γ0 Δ tTop = tTop := lft_top _ _
  rw [e0, Nb_top] at q
  rw [q]
  cases b with
  | true => show max (16 * e) (16 + (2 + 16 * e + 0)) = _; omega
  | false => show 16 + max (16 * e) (2 + 16 * e + 0) = _; omega
theorem Nb_one {b : Bool} {Γ : List Ty} {T : Ty} (hc : okc Γ) (o : ok Γ.length T = true) (h0 : hd T ≠ 0) : 1 ≤ Nb b e Γ T := by
  rcases ok_cases o with rfl | ⟨k, hk, rfl⟩ | ⟨a, c, rfl, ha, hb⟩ | ⟨a, c, rfl, ha, hb⟩ | ⟨m, x, y, z, hm, rfl, -, -, -⟩
  · exact absurd rfl h0
  · rw [Nb_var hc hk]
    have := vbl_up (b := b) (e := e) (Nb b e Γ (lft k (Γ.length - k) (bnd Γ k)))
    omega
  · rw [Nb_fun]; omega
  · rw [Nb_all]; omega
  · rw [Nb_rec]; omega
theorem nbm_inL {D : Ty} (z : ZH h B C Γ0) (e1 : 1 ≤ e) (w1 : w ≤ 1) (tb : TB e (upb Γ0 Δ B :: cxs Δ Γ0 (tAll B C), upb Γ0 Δ C, D)) : nbm w (upb Γ0 Δ B :: cxs Δ Γ0 (tAll B C)) (upb Γ0 Δ C) D ≤ Nb false e (upb Γ0 Δ B :: cxs Δ Γ0 (tAll B tTop)) D := by
  have hc : okc (cxs Δ Γ0 (tAll B C)) := tb.1.1.2
  have oB : ok (cxs Δ Γ0 (tAll B C)).length (upb Γ0 Δ B) = true := tb.1.1.1
  have s := (z.zc hc).ext oB (z.body hc).1
  have q := nbm_good s (S := upb Γ0 Δ C) (T := D) tb.1.2.1 tb.1.2.2 (Or.inl (z.body hc).2) w
  have q : nbm w (upb Γ0 Δ B :: cxs Δ Γ0 (tAll B C)) (upb Γ0 Δ C) D = nbm w (upb Γ0 Δ B :: cxs Δ Γ0 (tAll B tTop)) (upb Γ0 Δ C) D := q
  have t2 : TB e (upb Γ0 Δ B :: cxs Δ Γ0 (tAll B tTop), upb Γ0 Δ C, D) := cxz_TB (Δ := upb Γ0 Δ B :: Δ) tb
  rw [q]
  exact nbm_T e1 t2 w1
theorem nbm_inR {D : Ty} (z : ZH h B C Γ0) (e1 : 1 ≤ e) (w1 : w ≤ 1) (tb : TB e (upb Γ0 Δ B :: cxs Δ Γ0 (tAll B C), D, upb Γ0 Δ C)) : nbm w (upb Γ0 Δ B :: cxs Δ Γ0 (tAll B C)) D (upb Γ0 Δ C) ≤ Nb true e (upb Γ0 Δ B :: cxs Δ Γ0 (tAll B tTop)) D := by
  have hc : okc (cxs Δ Γ0 (tAll B C)) := tb.1.1.2
  have oB : ok (cxs Δ Γ0 (tAll B C)).length (upb Γ0 Δ B) = true := tb.1.1.1
  have s := (z.zc hc).ext oB (z.body hc).1
  have q := nbm_good s (S := D) (T := upb Γ0 Δ C) tb.1.2.1 tb.1.2.2 (Or.inr (z.body hc).2) w
  have q : nbm w (upb Γ0 Δ B :: cxs Δ Γ0 (tAll B C)) D (upb Γ0 Δ C) = nbm w (upb Γ0 Δ B :: cxs Δ Γ0 (tAll B tTop)) D (upb Γ0 Δ C) := q
  have t2 : TB e (upb Γ0 Δ B :: cxs Δ Γ0 (tAll B tTop), D, upb Γ0 Δ C) := cxz_TB (Δ := upb Γ0 Δ B :: Δ) tb
  rw [q]
  exact nbm_S e1 t2 w1
theorem nbf_upL (z : ZH h B C Γ0) (e1 : 1 ≤ e) (w1 : w ≤ 1) : ∀ (f : Nat) (T : Ty), TB e (cxs Δ Γ0 (tAll B C), upb Γ0 Δ (tAll B C), T) → bel (cxs Δ Γ0 (tAll B C)) T (tVar Γ0.length) = false → nbf f (w, cxs Δ Γ0 (tAll B C), upb Γ0 Δ (tAll B C), T) ≤ Nb false e (cxs Δ Γ0 (tAll B tTop)) T
  | 0, _, _, _ => Nat.zero_le _
  | f + 1, T, tb, nb => by
    have w2 : w ≠ 2 := by omega
    have tk : tok (cxs Δ Γ0 (tAll B C), upb Γ0 Δ (tAll B C), T) := tb.1
    have hc : okc (cxs Δ Γ0 (tAll B C)) := tk.1
    have hS : ok (cxs Δ Γ0 (tAll B C)).length (upb Γ0 Δ (tAll B C)) = true := tk.2.1
    have hT : ok (cxs Δ Γ0 (tAll B C)).length T = true := tk.2.2
    have hTz : ok (cxs Δ Γ0 (tAll B tTop)).length T = true := by rw [cxs_ll (tAll B tTop) (tAll B C)]; exact hT
    have kl := SGc.k_lt (Γ0 := Γ0) (Δ := Δ) (tAll B C)
    have h2 : hd (upb Γ0 Δ (tAll B C)) = 2 := by rw [upb_all, hd_all]
    rw [nbf_succ f w2]
    by_cases bl : bel (cxs Δ Γ0 (tAll B C)) (upb Γ0 Δ (tAll B C)) T = true ∨ bel (cxs Δ Γ0 (tAll B C)) T (upb Γ0 Δ (tAll B C)) = true
    · rw [gcs_of_bel bl]
      have g4 := nbo_bel (w := w) tk w2 bl
      rw [g4]; exact Nat.zero_le _
    have h1 : hd T ≠ 0 := fun e => bl (Or.inl (bel_top tk e))
    have one := Nb_one (b := false) (e := e) (cxz_okc Δ hc) hTz h1
    have kids := tb.gcs w2 (by omega)
    rcases gcs_cases (w := w) tk w2 with ⟨g1, g2, g3⟩ | ⟨q1, k, hk, eS, g1, g2, g3⟩ | ⟨q1, n1, k, hk, rfl, g1, g2, g3⟩ | ⟨m, X0, X1, X2, m', Y0, Y1, Y2, hm, hm', eS, eT, g1, g2, g3⟩ | ⟨A, D, A', D', eS, eT, g1, g2, g3⟩ | ⟨A, D, D', eS, eT, g1, g2, g3⟩
    · have g4 := nbo_end g2 g3
      rw [g1]
      show nbo _ + 0 ≤ _
      omega
    · rw [eS, hd_var] at h2; omega
    · have t1 := (kids _ (by rw [g1]; exact List.mem_cons_self ..)).1
      have t1 : TB e (cxs Δ Γ0 (tAll B C), upb Γ0 Δ (tAll B C), lft k ((cxs Δ Γ0 (tAll B C)).length - k) (bnd (cxs Δ Γ0 (tAll B C)) k)) := t1
      have oA : ok (cxs Δ Γ0 (tAll B C)).length (tVar Γ0.length) = true := by rw [ok_var]; simpa using kl
      by_cases ne : k = Γ0.length
      · subst ne
        rw [bel_refl _ _ _ (Nat.le_refl _) hc oA] at nb
        cases nb
      · have bv := bel_var (Γ := cxs Δ Γ0 (tAll B C)) (T := tVar Γ0.length) (k := k) (show tok (cxs Δ Γ0 (tAll B C), tVar k, tVar Γ0.length) from ⟨hc, hT, oA⟩) (by rw [hd_var]; omega) (by rw [hd_var]; omega)
        rw [bv] at nb
        have q := nbf_upL z e1 w1 f _ t1 nb
        rw [g1, nbo_exp g3, Nb_oth hc hk ne]
        have v := vbl_up (b := false) (e := e) (Nb false e (cxs Δ Γ0 (tAll B tTop)) (lft k ((cxs Δ Γ0 (tAll B C)).length - k) (bnd (cxs Δ Γ0 (tAll B C)) k)))
        show 16 + (nbf f (w, cxs Δ Γ0 (tAll B C), upb Γ0 Δ (tAll B C), lft k ((cxs Δ Γ0 (tAll B C)).length - k) (bnd (cxs Δ Γ0 (tAll B C)) k)) + 0) ≤ _
        omega
    · rw [eS, hd_rec] at h2; omega
    · rw [eS, hd_fun] at h2; omega
    · have eS' := eS
      rw [upb_all] at eS'
      injection eS' with _ eS'
      injection eS' with ea ec
      subst eT ea ec
      have t2 : TB e (upb Γ0 Δ B :: cxs Δ Γ0 (tAll B C), upb Γ0 Δ C, D') := by
        have tb' := tb
        rw [upb_all] at tb'
        exact TB_all tb'
      have q := Nat.le_trans (nbf_nbm (w := w) t2.1 f) (nbm_inL z e1 w1 t2)
      rw [g1, nbo_on g3, g2, Nb_all]
      show 2 + (nbf f (w, upb Γ0 Δ B :: cxs Δ Γ0 (tAll B C), upb Γ0 Δ C, D') + 0) ≤ _
      omega
theorem nbf_upR (z : ZH h B C Γ0) (e1 : 1 ≤ e) (w1 : w ≤ 1) (f : Nat) (S : Ty) (tb : TB e (cxs Δ Γ0 (tAll B C), S, upb Γ0 Δ (tAll B C))) (nv : ¬ 16 ≤ hd S) (nb : bel (cxs Δ Γ0 (tAll B C)) S (tVar Γ0.length) = false) : nbf f (w, cxs Δ Γ0 (tAll B C), S, upb Γ0 Δ (tAll B C)) ≤ Nb true e (cxs Δ Γ0 (tAll B tTop)) S := by
  cases f with
  | zero => exact Nat.zero_le _
  | succ f =>
    have w2 : w ≠ 2 := by omega
    have tk : tok (cxs Δ Γ0 (tAll B C), S, upb Γ0 Δ (tAll B C)) := tb.1
    have hc : okc (cxs Δ Γ0 (tAll B C)) := tk.1
    have hS : ok (cxs Δ Γ0 (tAll B C)).length S = true := tk.2.1
    have hSz : ok (cxs Δ Γ0 (tAll B tTop)).length S = true := by rw [cxs_ll (tAll B tTop) (tAll B C)]; exact hS
    have hT : ok (cxs Δ Γ0 (tAll B C)).length (upb Γ0 Δ (tAll B C)) = true := tk.2.2
    have h2 : hd (upb Γ0 Δ (tAll B C)) = 2 := by rw [upb_all, hd_all]
    rw [nbf_succ f w2]
    by_cases bl : bel (cxs Δ Γ0 (tAll B C)) S (upb Γ0 Δ (tAll B C)) = true ∨ bel (cxs Δ Γ0 (tAll B C)) (upb Γ0 Δ (tAll B C)) S = true
    · rw [gcs_of_bel bl]
      have g4 := nbo_bel (w := w) tk w2 bl
      rw [g4]; exact Nat.zero_le _
    have h1 : hd S ≠ 0 := fun e => bl (Or.inr (bel_top ⟨hc, hT, hS⟩ e))
    have one := Nb_one (b := true) (e := e) (cxz_okc Δ hc) hSz h1
    rcases gcs_cases (w := w) tk w2 with ⟨g1, g2, g3⟩ | ⟨q1, k, hk, rfl, g1, g2, g3⟩ | ⟨q1, n1, k, hk, eT, g1, g2, g3⟩ | ⟨m, X0, X1, X2, m', Y0, Y1, Y2, hm, hm', eS, eT, g1, g2, g3⟩ | ⟨A, D, A', D', eS, eT, g1, g2, g3⟩ | ⟨A, D, D', eS, eT, g1, g2, g3⟩
    · have g4 := nbo_end g2 g3
      rw [g1]
      show nbo _ + 0 ≤ _
      omega
    · rw [hd_var] at nv; omega
    · rw [eT, hd_var] at h2; omega
    · rw [eT, hd_rec] at h2; omega
    · rw [eT, hd_fun] at h2; omega
    · have eT' := eT
      rw [upb_all] at eT'
      injection eT' with _ eT'
      injection eT' with ea ec
      subst eS ea ec
      have t2 : TB e (upb Γ0 Δ B :: cxs Δ Γ0 (tAll B C), D, upb Γ0 Δ C) := by
        have tb' := tb
        rw [upb_all] at tb'
        exact TB_all tb'
      have q := Nat.le_trans (nbf_nbm (w := w) t2.1 f) (nbm_inR z e1 w1 t2)
      rw [g1, nbo_on g3, g2, Nb_all]
      show 2 + (nbf f (w, upb Γ0 Δ B :: cxs Δ Γ0 (tAll B C), D, upb Γ0 Δ C) + 0) ≤ _
      omega
theorem nbf_op (z : ZH h B C Γ0) (e1 : 1 ≤ e) : ∀ (f w : Nat) (Δ : List Ty) (S T : Ty), w ≤ 1 → TB e (cxs Δ Γ0 (tAll B C), S, T) → nbf f (w, cxs Δ Γ0 (tAll B C), S, T) ≤ Nb true e (cxs Δ Γ0 (tAll B tTop)) S + Nb false e (cxs Δ Γ0 (tAll B tTop)) T
  | 0, _, _, _, _, _, _ => Nat.zero_le _
  | f + 1, w, Δ, S, T, w1, tb => by
    have w2 : w ≠ 2 := by omega
    have tk : tok (cxs Δ Γ0 (tAll B C), S, T) := tb.1
    have hc : okc (cxs Δ Γ0 (tAll B C)) := tk.1
    have hS : ok (cxs Δ Γ0 (tAll B C)).length S = true := tk.2.1
    have hT : ok (cxs Δ Γ0 (tAll B C)).length T = true := tk.2.2
    have hSz : ok (cxs Δ Γ0 (tAll B tTop)).length S = true := by rw [cxs_ll (tAll B tTop) (tAll B C)]; exact hS
    have ih := nbf_op z e1 f
    rw [nbf_succ f w2]
    by_cases bl : bel (cxs Δ Γ0 (tAll B C)) S T = true ∨ bel (cxs Δ Γ0 (tAll B C)) T S = true
    · rw [gcs_of_bel bl]
      have g4 := nbo_bel (w := w) tk w2 bl
      rw [g4]; exact Nat.zero_le _
    have h0 : hd S ≠ 0 := fun e => bl (Or.inr (bel_top ⟨hc, hT, hS⟩ e))
    have one := Nb_one (b := true) (e := e) (cxz_okc Δ hc) hSz h0
    have kids := tb.gcs w2 (by omega)
    have bS : cbd e (cl (cxs Δ Γ0 (tAll B C))) S := tb.2.2.1
    have bT : cbd e (cl (cxs Δ Γ0 (tAll B C))) T := tb.2.2.2
    rcases gcs_cases (w := w) tk w2 with ⟨g1, g2, g3⟩ | ⟨q1, k, hk, rfl, g1, g2, g3⟩ | ⟨q1, n1, k, hk, rfl, g1, g2, g3⟩ | ⟨m, X0, X1, X2, m', Y0, Y1, Y2, hm, hm', rfl, rfl, g1, g2, g3⟩ | ⟨A, D, A', D', rfl, rfl, g1, g2, g3⟩ | ⟨A, D, D', rfl, rfl, g1, g2, g3⟩
    · have g4 := nbo_end g2 g3
      rw [g1]
      show nbo _ + 0 ≤ _
      omega
    · have t1 := (kids _ (by rw [g1]; exact List.mem_cons_self ..)).1
      have t1 : TB e (cxs Δ Γ0 (tAll B C), lft k ((cxs Δ Γ0 (tAll B C)).length - k) (bnd (cxs Δ Γ0 (tAll B C)) k), T) := t1
      rw [g1, nbo_exp g3]
      show 16 + (nbf f (w, cxs Δ Γ0 (tAll B C), lft k ((cxs Δ Γ0 (tAll B C)).length - k) (bnd (cxs Δ Γ0 (tAll B C)) k), T) + 0) ≤ _
      by_cases ne : k = Γ0.length
      · subst ne
        have nb : bel (cxs Δ Γ0 (tAll B C)) T (tVar Γ0.length) = false := by
          cases hq : bel (cxs Δ Γ0 (tAll B C)) T (tVar Γ0.length) with
          | false => rfl
          | true => exact absurd (Or.inr hq) bl
        rw [Nb_own hc]
        rw [cxs_up] at t1 ⊢
        have q := nbf_upL z e1 w1 f T t1 nb
        omega
      · rw [Nb_oth hc hk ne]
        have q := ih w Δ _ T w1 t1
        have v := vbl_up (b := true) (e := e) (Nb true e (cxs Δ Γ0 (tAll B tTop)) (lft k ((cxs Δ Γ0 (tAll B C)).length - k) (bnd (cxs Δ Γ0 (tAll B C)) k)))
        omega
    · have t1 := (kids _ (by rw [g1]; exact List.mem_cons_self ..)).1
      have t1 : TB e (cxs Δ Γ0 (tAll B C), S, lft k ((cxs Δ Γ0 (tAll B C)).length - k) (bnd (cxs Δ Γ0 (tAll B C)) k)) := t1
      rw [g1, nbo_exp g3]
      show 16 + (nbf f (w, cxs Δ Γ0 (tAll B C), S, lft k ((cxs Δ Γ0 (tAll B C)).length - k) (bnd (cxs Δ Γ0 (tAll B C)) k)) + 0) ≤ _
      by_cases ne : k = Γ0.length
      · subst ne
        have nb : bel (cxs Δ Γ0 (tAll B C)) S (tVar Γ0.length) = false := by
          cases hq : bel (cxs Δ Γ0 (tAll B C)) S (tVar Γ0.length) with
          | false => rfl
          | true => exact absurd (Or.inl hq) bl
        rw [Nb_own hc]
        rw [cxs_up] at t1 ⊢
        have q := nbf_upR z e1 w1 f S t1 n1 nb
        omega
      · rw [Nb_oth (b := false) hc hk ne]
        have q := ih w Δ S _ w1 t1
        have v := vbl_up (b := false) (e := e) (Nb false e (cxs Δ Γ0 (tAll B tTop)) (lft k ((cxs Δ Γ0 (tAll B C)).length - k) (bnd (cxs Δ Γ0 (tAll B C)) k)))
        omega
    · have oS := (ok_rec hm).mp hS
      have oT := (ok_rec hm').mp hT
      have dS := (cbd_rec _ _ _ _).mp bS
      have dT := (cbd_rec _ _ _ _).mp bT
      rw [g1, nbo_on g3, g2, sgl_app, sgl_app, Nb_rec, Nb_rec]
      have f2 : ∀ z : Gz, z.1 = 2 → nbf f z = 0 := fun z h => nbf_two f h
      have k0 := gzl_s (w := w) (f := nbf f) (g := Nb true e (cxs Δ Γ0 (tAll B tTop))) (g' := Nb false e (cxs Δ Γ0 (tAll B tTop))) (Γ := cxs Δ Γ0 (tAll B C)) (X := X0) (Y := Y0) hm hm' (show 0 < 3 by decide) w2 f2 (fun b1 b2 => ih w Δ X0 Y0 w1 ⟨⟨hc, okl_on oS.1 (bit_iff.mp b1), okl_on oT.1 (bit_iff.mp b2)⟩, tb.2.1, dS.1, dT.1⟩)
      have k1 := gzl_s (w := w) (f := nbf f) (g := Nb true e (cxs Δ Γ0 (tAll B tTop))) (g' := Nb false e (cxs Δ Γ0 (tAll B tTop))) (Γ := cxs Δ Γ0 (tAll B C)) (X := X1) (Y := Y1) hm hm' (show 1 < 3 by decide) w2 f2 (fun b1 b2 => ih w Δ X1 Y1 w1 ⟨⟨hc, okl_on oS.2.1 (bit_iff.mp b1), okl_on oT.2.1 (bit_iff.mp b2)⟩, tb.2.1, dS.2.1, dT.2.1⟩)
      have k2 := gzl_s (w := w) (f := nbf f) (g := Nb true e (cxs Δ Γ0 (tAll B tTop))) (g' := Nb false e (cxs Δ Γ0 (tAll B tTop))) (Γ := cxs Δ Γ0 (tAll B C)) (X := X2) (Y := Y2) hm hm' (show 2 < 3 by decide) w2 f2 (fun b1 b2 => ih w Δ X2 Y2 w1 ⟨⟨hc, okl_on oS.2.2 (bit_iff.mp b1), okl_on oT.2.2 (bit_iff.mp b2)⟩, tb.2.1, dS.2.2, dT.2.2⟩)
      omega
    · have oS := ok_fun.mp hS
      have oT := ok_fun.mp hT
      have dS := (cbd_fun _ _ _).mp bS
      have dT := (cbd_fun _ _ _).mp bT
      have p1 := ih (1 - w) Δ A A' (by omega) ⟨⟨hc, oS.1, oT.1⟩, tb.2.1, dS.1, dT.1⟩
      have p2 := ih w Δ D D' w1 ⟨⟨hc, oS.2, oT.2⟩, tb.2.1, dS.2, dT.2⟩
      rw [g1, nbo_on g3, g2, Nb_fun, Nb_fun]
      show 1 + (nbf f (1 - w, cxs Δ Γ0 (tAll B C), A, A') + (nbf f (w, cxs Δ Γ0 (tAll B C), D, D') + 0)) ≤ _
      omega
    · have p2 := ih w (A :: Δ) D D' w1 (TB_all tb)
      have p2 : nbf f (w, A :: cxs Δ Γ0 (tAll B C), D, D') ≤ Nb true e (A :: cxs Δ Γ0 (tAll B tTop)) D + Nb false e (A :: cxs Δ Γ0 (tAll B tTop)) D' := p2
      rw [g1, nbo_on g3, g2, Nb_all, Nb_all]
      show 2 + (nbf f (w, A :: cxs Δ Γ0 (tAll B C), D, D') + 0) ≤ _
      omega
/-- NODES OF A JOIN, where no scheme inside the scheme has its bound's head -/
theorem nbm_op (z : ZH h B C Γ0) (e1 : 1 ≤ e) {w : Nat} (w1 : w ≤ 1) {Δ : List Ty} {S T : Ty} (tb : TB e (cxs Δ Γ0 (tAll B C), S, T)) : nbm w (cxs Δ Γ0 (tAll B C)) S T ≤ Nb true e (cxs Δ Γ0 (tAll B tTop)) S + Nb false e (cxs Δ Γ0 (tAll B tTop)) T := nbf_op z e1 _ w Δ S T w1 tb
end PmPd
