/-! ANY TWO TYPES, THE SCHEME'S BODY REPLACED BY A SMALL ONE: goals, limits. -/
def OVq (e : Nat) (B C Dm : Ty) (Γ0 : List Ty) : Prop := (ok (Γ0.length + 1) Dm = true ∧ hd Dm ≠ 0) ∧ ∀ Δ, okc (cxs Δ Γ0 (tAll B C)) → ∃ Kp, KPc e B C Dm Γ0 Kp ∧ KGc B C Dm Γ0 Kp ∧ Kp (upb Γ0 Δ B :: Δ) (upb Γ0 Δ C)
theorem OVq.h {e : Nat} {B C Dm : Ty} {Γ0 : List Ty} (z : OVq e B C Dm Γ0) : OVh e B C Dm Γ0 := ⟨z.1, fun Δ hc => by
  obtain ⟨Kp, h1, -, h2⟩ := z.2 Δ hc
  exact ⟨Kp, h1, h2⟩⟩
section PmUc
variable {e w : Nat} {Γ0 Δ : List Ty} {B C Dm : Ty}
theorem gz_othD {k : Nat} (z : OVq e B C Dm Γ0) (hc : okc (cxs Δ Γ0 (tAll B C))) (hk : k < (cxs Δ Γ0 (tAll B C)).length) (ne : k ≠ Γ0.length) : gz (cxs Δ Γ0 (tAll B Dm)) (tVar k) = gz (cxs Δ Γ0 (tAll B Dm)) (lft k ((cxs Δ Γ0 (tAll B C)).length - k) (bnd (cxs Δ Γ0 (tAll B C)) k)) := by
  rw [cxd_exp (D := Dm) ne]
  exact gz_var (cxd_okc (B := B) (C := C) z.1.1 Δ hc) (by rw [cxs_ll (tAll B Dm) (tAll B C)]; exact hk)
theorem gn_inLD {D : Ty} (z : OVq e B C Dm Γ0) (w1 : w ≤ 1) (tk : tok (upb Γ0 Δ B :: cxs Δ Γ0 (tAll B C), upb Γ0 Δ C, D)) : gn (w, upb Γ0 Δ B :: cxs Δ Γ0 (tAll B C), upb Γ0 Δ C, D) ≤ gz (upb Γ0 Δ B :: cxs Δ Γ0 (tAll B Dm)) D := by
  have hc1 : okc (upb Γ0 Δ B :: cxs Δ Γ0 (tAll B C)) := tk.1
  obtain ⟨Kp, K, G, kC⟩ := z.2 Δ hc1.2
  exact (gnV K G (twt (upb Γ0 Δ B :: cxs Δ Γ0 (tAll B C), upb Γ0 Δ C, D)) w (upb Γ0 Δ B :: Δ) (upb Γ0 Δ C) D w1 kC tk).1
theorem gn_inRD {D : Ty} (z : OVq e B C Dm Γ0) (w1 : w ≤ 1) (tk : tok (upb Γ0 Δ B :: cxs Δ Γ0 (tAll B C), D, upb Γ0 Δ C)) : gn (w, upb Γ0 Δ B :: cxs Δ Γ0 (tAll B C), D, upb Γ0 Δ C) ≤ gz (upb Γ0 Δ B :: cxs Δ Γ0 (tAll B Dm)) D := by
  have hc1 : okc (upb Γ0 Δ B :: cxs Δ Γ0 (tAll B C)) := tk.1
  obtain ⟨Kp, K, G, kC⟩ := z.2 Δ hc1.2
  exact (gnV K G (twt (upb Γ0 Δ B :: cxs Δ Γ0 (tAll B C), D, upb Γ0 Δ C)) w (upb Γ0 Δ B :: Δ) (upb Γ0 Δ C) D w1 kC ⟨tk.1, tk.2.2, tk.2.1⟩).2
theorem up_ok (hc : okc (cxs Δ Γ0 (tAll B C))) : ok (cxs Δ Γ0 (tAll B C)).length (upb Γ0 Δ (tAll B C)) = true := by
  have a := ok_expose hc (SGc.k_lt (Γ0 := Γ0) (Δ := Δ) (tAll B C))
  rw [cxs_up] at a
  exact a
end PmUc
section PmUd
variable {e w : Nat} {Γ Γ0 Δ : List Ty} {B C Dm S T : Ty}
theorem gnf_upLD (z : OVq e B C Dm Γ0) (w1 : w ≤ 1) : ∀ (f : Nat) (T : Ty), tok (cxs Δ Γ0 (tAll B C), upb Γ0 Δ (tAll B C), T) → bel (cxs Δ Γ0 (tAll B C)) T (tVar Γ0.length) = false → gnf f (w, cxs Δ Γ0 (tAll B C), upb Γ0 Δ (tAll B C), T) ≤ gz (cxs Δ Γ0 (tAll B Dm)) T
  | 0, T, tk, _ => gz_pos (cxd_okc (B := B) (C := C) z.1.1 Δ tk.1) (by rw [cxs_ll (tAll B Dm) (tAll B C)]; exact tk.2.2)
  | f + 1, T, tk, nb => by
    have w2 : w ≠ 2 := by omega
    have hc : okc (cxs Δ Γ0 (tAll B C)) := tk.1
    have hS : ok (cxs Δ Γ0 (tAll B C)).length (upb Γ0 Δ (tAll B C)) = true := tk.2.1
    have hT : ok (cxs Δ Γ0 (tAll B C)).length T = true := tk.2.2
    have one := gz_pos (T := T) (cxd_okc (B := B) (C := C) z.1.1 Δ hc) (by rw [cxs_ll (tAll B Dm) (tAll B C)]; exact hT)
    have kl := SGc.k_lt (Γ0 := Γ0) (Δ := Δ) (tAll B C)
    have h2 : hd (upb Γ0 Δ (tAll B C)) = 2 := by rw [upb_all, hd_all]
    rw [gnf_succ f w2]
    rcases gcs_cases (w := w) tk w2 with ⟨g1, g2, g3⟩ | ⟨q1, k, hk, eS, g1, g2, g3⟩ | ⟨q1, n1, k, hk, rfl, g1, g2, g3⟩ | ⟨m, X0, X1, X2, m', Y0, Y1, Y2, hm, hm', eS, eT, g1, g2, g3⟩ | ⟨A, D, A', D', eS, eT, g1, g2, g3⟩ | ⟨A, D, D', eS, eT, g1, g2, g3⟩
    · rw [g1, g3]
      show max 1 (1 + 0) ≤ _
      omega
    · rw [eS, hd_var] at h2; omega
    · have oA : ok (cxs Δ Γ0 (tAll B C)).length (tVar Γ0.length) = true := by rw [ok_var]; simpa using kl
      by_cases ne : k = Γ0.length
      · subst ne
        rw [bel_refl _ _ _ (Nat.le_refl _) hc oA] at nb
        cases nb
      · have bv := bel_var (Γ := cxs Δ Γ0 (tAll B C)) (T := tVar Γ0.length) (k := k) (show tok (cxs Δ Γ0 (tAll B C), tVar k, tVar Γ0.length) from ⟨hc, hT, oA⟩) (by rw [hd_var]; omega) (by rw [hd_var]; omega)
        rw [bv] at nb
        have q := gnf_upLD z w1 f _ ⟨hc, hS, ok_expose hc hk⟩ nb
        rw [gz_othD z hc hk ne] at one ⊢
        rw [g1, g3]
        show max 1 (0 + (gnf f (w, cxs Δ Γ0 (tAll B C), upb Γ0 Δ (tAll B C), lft k ((cxs Δ Γ0 (tAll B C)).length - k) (bnd (cxs Δ Γ0 (tAll B C)) k)) + 0)) ≤ _
        omega
    · rw [eS, hd_rec] at h2; omega
    · rw [eS, hd_fun] at h2; omega
    · have eS' := eS
      rw [upb_all] at eS'
      injection eS' with _ eS'
      injection eS' with ea ec
      subst eT ea ec
      have t2 : tok (upb Γ0 Δ B :: cxs Δ Γ0 (tAll B C), upb Γ0 Δ C, D') := by
        have tk' := tk
        rw [upb_all] at tk'
        exact tok_all tk'
      have q := Nat.le_trans (gnf_gn (z := (w, upb Γ0 Δ B :: cxs Δ Γ0 (tAll B C), upb Γ0 Δ C, D')) t2 f) (gn_inLD z w1 t2)
      rw [g1, g3, gz_all]
      show max 1 (1 + (gnf f (w, upb Γ0 Δ B :: cxs Δ Γ0 (tAll B C), upb Γ0 Δ C, D') + 0)) ≤ _
      omega
theorem gnf_upRD (z : OVq e B C Dm Γ0) (w1 : w ≤ 1) (f : Nat) (S : Ty) (tk : tok (cxs Δ Γ0 (tAll B C), S, upb Γ0 Δ (tAll B C))) (nv : ¬ 16 ≤ hd S) : gnf f (w, cxs Δ Γ0 (tAll B C), S, upb Γ0 Δ (tAll B C)) ≤ gz (cxs Δ Γ0 (tAll B Dm)) S := by
  have hc : okc (cxs Δ Γ0 (tAll B C)) := tk.1
  have hS : ok (cxs Δ Γ0 (tAll B C)).length S = true := tk.2.1
  have one := gz_pos (T := S) (cxd_okc (B := B) (C := C) z.1.1 Δ hc) (by rw [cxs_ll (tAll B Dm) (tAll B C)]; exact hS)
  cases f with
  | zero => exact one
  | succ f =>
    have w2 : w ≠ 2 := by omega
    have h2 : hd (upb Γ0 Δ (tAll B C)) = 2 := by rw [upb_all, hd_all]
    rw [gnf_succ f w2]
    rcases gcs_cases (w := w) tk w2 with ⟨g1, g2, g3⟩ | ⟨q1, k, hk, rfl, g1, g2, g3⟩ | ⟨q1, n1, k, hk, eT, g1, g2, g3⟩ | ⟨m, X0, X1, X2, m', Y0, Y1, Y2, hm, hm', eS, eT, g1, g2, g3⟩ | ⟨A, D, A', D', eS, eT, g1, g2, g3⟩ | ⟨A, D, D', eS, eT, g1, g2, g3⟩
    · rw [g1, g3]
      show max 1 (1 + 0) ≤ _
      omega
    · rw [hd_var] at nv; omega
    · rw [eT, hd_var] at h2; omega
    · rw [eT, hd_rec] at h2; omega
    · rw [eT, hd_fun] at h2; omega
    · have eT' := eT
      rw [upb_all] at eT'
      injection eT' with _ eT'
      injection eT' with ea ec
      subst eS ea ec
      have t2 : tok (upb Γ0 Δ B :: cxs Δ Γ0 (tAll B C), D, upb Γ0 Δ C) := by
        have tk' := tk
        rw [upb_all] at tk'
        exact tok_all tk'
      have q := Nat.le_trans (gnf_gn (z := (w, upb Γ0 Δ B :: cxs Δ Γ0 (tAll B C), D, upb Γ0 Δ C)) t2 f) (gn_inRD z w1 t2)
      rw [g1, g3, gz_all]
      show max 1 (1 + (gnf f (w, upb Γ0 Δ B :: cxs Δ Γ0 (tAll B C), D, upb Γ0 Δ C) + 0)) ≤ _
      omega
end PmUd
section PmUe
variable {e : Nat} {Γ0 : List Ty} {B C Dm : Ty}
theorem gnf_opD (z : OVq e B C Dm Γ0) : ∀ (f w : Nat) (Δ : List Ty) (S T : Ty), w ≤ 1 → tok (cxs Δ Γ0 (tAll B C), S, T) → gnf f (w, cxs Δ Γ0 (tAll B C), S, T) ≤ gz (cxs Δ Γ0 (tAll B Dm)) S + gz (cxs Δ Γ0 (tAll B Dm)) T
  | 0, _, Δ, S, T, _, tk => by
    have := gz_pos (T := S) (cxd_okc (B := B) (C := C) z.1.1 Δ tk.1) (by rw [cxs_ll (tAll B Dm) (tAll B C)]; exact tk.2.1)
    show 1 ≤ _
    omega
  | f + 1, w, Δ, S, T, w1, tk => by
    have w2 : w ≠ 2 := by omega
    have hc : okc (cxs Δ Γ0 (tAll B C)) := tk.1
    have hS : ok (cxs Δ Γ0 (tAll B C)).length S = true := tk.2.1
    have hT : ok (cxs Δ Γ0 (tAll B C)).length T = true := tk.2.2
    have pos : ∀ X : Ty, ok (cxs Δ Γ0 (tAll B C)).length X = true → 1 ≤ gz (cxs Δ Γ0 (tAll B Dm)) X := fun X o => gz_pos (cxd_okc (B := B) (C := C) z.1.1 Δ hc) (by rw [cxs_ll (tAll B Dm) (tAll B C)]; exact o)
    have oneS := pos S hS
    have oneT := pos T hT
    have ih := gnf_opD z f
    rw [gnf_succ f w2]
    by_cases bl : bel (cxs Δ Γ0 (tAll B C)) S T = true ∨ bel (cxs Δ Γ0 (tAll B C)) T S = true
    · have g3 : gno (w, cxs Δ Γ0 (tAll B C), S, T) ≤ 1 := by
        unfold gno
        split
        · exact Nat.le_refl _
        · split
          · exact Nat.le_refl _
          · split
            · exact Nat.le_refl _
            · split <;> omega
      rw [gcs_of_bel bl]
      show max 1 (gno _ + 0) ≤ _
      omega
    rcases gcs_cases (w := w) tk w2 with ⟨g1, g2, g3⟩ | ⟨q1, k, hk, rfl, g1, g2, g3⟩ | ⟨q1, n1, k, hk, rfl, g1, g2, g3⟩ | ⟨m, X0, X1, X2, m', Y0, Y1, Y2, hm, hm', rfl, rfl, g1, g2, g3⟩ | ⟨A, D, A', D', rfl, rfl, g1, g2, g3⟩ | ⟨A, D, D', rfl, rfl, g1, g2, g3⟩
    · rw [g1, g3]
      show max 1 (1 + 0) ≤ _
      omega
    · rw [g1, g3]
      show max 1 (0 + (gnf f (w, cxs Δ Γ0 (tAll B C), lft k ((cxs Δ Γ0 (tAll B C)).length - k) (bnd (cxs Δ Γ0 (tAll B C)) k), T) + 0)) ≤ _
      by_cases ne : k = Γ0.length
      · subst ne
        have nb : bel (cxs Δ Γ0 (tAll B C)) T (tVar Γ0.length) = false := by
          cases hq : bel (cxs Δ Γ0 (tAll B C)) T (tVar Γ0.length) with
          | false => rfl
          | true => exact absurd (Or.inr hq) bl
        have t1 : tok (cxs Δ Γ0 (tAll B C), upb Γ0 Δ (tAll B C), T) := ⟨hc, up_ok hc, hT⟩
        rw [cxs_up]
        have q := gnf_upLD z w1 f T t1 nb
        omega
      · have q := ih w Δ _ T w1 ⟨hc, ok_expose hc hk, hT⟩
        rw [gz_othD z hc hk ne]
        omega
    · rw [g1, g3]
      show max 1 (0 + (gnf f (w, cxs Δ Γ0 (tAll B C), S, lft k ((cxs Δ Γ0 (tAll B C)).length - k) (bnd (cxs Δ Γ0 (tAll B C)) k)) + 0)) ≤ _
      by_cases ne : k = Γ0.length
      · subst ne
        have t1 : tok (cxs Δ Γ0 (tAll B C), S, upb Γ0 Δ (tAll B C)) := ⟨hc, hS, up_ok hc⟩
        rw [cxs_up]
        have q := gnf_upRD z w1 f S t1 n1
        omega
      · have q := ih w Δ S _ w1 ⟨hc, hS, ok_expose hc hk⟩
        rw [gz_othD z hc hk ne]
        omega
    · have oS := (ok_rec hm).mp hS
      have oT := (ok_rec hm').mp hT
      rw [g1, g3, sgl_app, sgl_app, gz_rec, gz_rec]
      have n1 := ngc_one (8 + m) (Or.inr ⟨m, hm, rfl⟩)
      have k0 := gzl_g (w := w) (f := f) (g := gz (cxs Δ Γ0 (tAll B Dm))) (Γ := cxs Δ Γ0 (tAll B C)) (X := X0) (Y := Y0) hm hm' (show 0 < 3 by decide) (fun b1 => pos _ (okl_on oS.1 (bit_iff.mp b1))) (fun b2 => pos _ (okl_on oT.1 (bit_iff.mp b2))) (fun b1 b2 => ih w Δ X0 Y0 w1 ⟨hc, okl_on oS.1 (bit_iff.mp b1), okl_on oT.1 (bit_iff.mp b2)⟩)
      have k1 := gzl_g (w := w) (f := f) (g := gz (cxs Δ Γ0 (tAll B Dm))) (Γ := cxs Δ Γ0 (tAll B C)) (X := X1) (Y := Y1) hm hm' (show 1 < 3 by decide) (fun b1 => pos _ (okl_on oS.2.1 (bit_iff.mp b1))) (fun b2 => pos _ (okl_on oT.2.1 (bit_iff.mp b2))) (fun b1 b2 => ih w Δ X1 Y1 w1 ⟨hc, okl_on oS.2.1 (bit_iff.mp b1), okl_on oT.2.1 (bit_iff.mp b2)⟩)
      have k2 := gzl_g (w := w) (f := f) (g := gz (cxs Δ Γ0 (tAll B Dm))) (Γ := cxs Δ Γ0 (tAll B C)) (X := X2) (Y := Y2) hm hm' (show 2 < 3 by decide) (fun b1 => pos _ (okl_on oS.2.2 (bit_iff.mp b1))) (fun b2 => pos _ (okl_on oT.2.2 (bit_iff.mp b2))) (fun b1 b2 => ih w Δ X2 Y2 w1 ⟨hc, okl_on oS.2.2 (bit_iff.mp b1), okl_on oT.2.2 (bit_iff.mp b2)⟩)
      omega
    · have oS := ok_fun.mp hS
      have oT := ok_fun.mp hT
      have p1 := ih (1 - w) Δ A A' (by omega) ⟨hc, oS.1, oT.1⟩
      have p2 := ih w Δ D D' w1 ⟨hc, oS.2, oT.2⟩
      have n1 := ngc_one 1 (Or.inl rfl)
      rw [g1, g3, gz_fun, gz_fun]
      show max 1 (1 + (gnf f (1 - w, cxs Δ Γ0 (tAll B C), A, A') + (gnf f (w, cxs Δ Γ0 (tAll B C), D, D') + 0))) ≤ _
      omega
    · have p2 := ih w (A :: Δ) D D' w1 (tok_all tk)
      have p2 : gnf f (w, A :: cxs Δ Γ0 (tAll B C), D, D') ≤ gz (A :: cxs Δ Γ0 (tAll B Dm)) D + gz (A :: cxs Δ Γ0 (tAll B Dm)) D' := p2
      rw [g1, g3, gz_all, gz_all]
      show max 1 (1 + (gnf f (w, A :: cxs Δ Γ0 (tAll B C), D, D') + 0)) ≤ _
      omega
theorem gn_opD (z : OVq e B C Dm Γ0) {w : Nat} (w1 : w ≤ 1) {Δ : List Ty} {S T : Ty} (tk : tok (cxs Δ Γ0 (tAll B C), S, T)) : gn (w, cxs Δ Γ0 (tAll B C), S, T) ≤ gz (cxs Δ Γ0 (tAll B Dm)) S + gz (cxs Δ Γ0 (tAll B Dm)) T := gnf_opD z _ w Δ S T w1 tk
/-- a join -/
theorem LJ_opD (z : OVq e B C Dm Γ0) (e1 : 1 ≤ e) {Δ : List Ty} {S T : Ty} (tb : TB e (cxs Δ Γ0 (tAll B C), S, T)) (hx : cch (cxs Δ Γ0 (tAll B C)) ≤ 56) (lS : (flat S).length ≤ 16) (lT : (flat T).length ≤ 16) (q1 : mz true e (cxs Δ Γ0 (tAll B Dm)) S + mz false e (cxs Δ Γ0 (tAll B Dm)) T ≤ 887) (q2 : gz (cxs Δ Γ0 (tAll B Dm)) S + gz (cxs Δ Γ0 (tAll B Dm)) T ≤ 597) : LJ (cxs Δ Γ0 (tAll B C)) S T := by
  have a1 := hgt_ctx tb.1.1 tb.1.2.1 lS hx
  have a2 := hgt_ctx tb.1.1 tb.1.2.2 lT hx
  have a3 := Nat.le_trans (gm_opD z.h e1 (Nat.zero_le 1) tb) q1
  have a4 := Nat.le_trans (gn_opD z (Nat.zero_le 1) tb.1) q2
  exact ⟨Nat.le_trans (Nat.add_le_add a1 a2) (by decide), a3, Nat.add_le_add_right a4 3⟩
/-- a comparison -/
theorem LB_opD (z : OVq e B C Dm Γ0) {Δ : List Ty} {S T : Ty} (b b' : Bool) (tb : TB e (cxs Δ Γ0 (tAll B C), S, T)) (hx : cch (cxs Δ Γ0 (tAll B C)) ≤ 56) (lS : (flat S).length ≤ 16) (lT : (flat T).length ≤ 16) (q1 : mz b e (cxs Δ Γ0 (tAll B Dm)) S + mz b' e (cxs Δ Γ0 (tAll B Dm)) T ≤ 887) : LB (cxs Δ Γ0 (tAll B C)) S T := by
  have a1 := hgt_ctx tb.1.1 tb.1.2.1 lS hx
  have a2 := hgt_ctx tb.1.1 tb.1.2.2 lT hx
  have a3 := Nat.le_trans (trx_opD z.h b b' tb) q1
  have a4 := len_cch (cxs Δ Γ0 (tAll B C))
  refine ⟨Nat.le_trans (Nat.add_le_add a1 a2) (by decide), ?_, a3⟩
  omega
end PmUe
