/-! LIMITS OF A JOIN AND OF A COMPARISON, THE SCHEME BEING WITHOUT ITS BODY. -/
section PmPa
variable {e h : Nat} {Γ0 : List Ty} {B C : Ty}
theorem gzl_g {w f m m' i : Nat} {Γ : List Ty} {g : Ty → Nat} {X Y : Ty} (hm : m < 8) (hm' : m' < 8) (hi : i < 3) (gX : bit m i = true → 1 ≤ g X) (gY : bit m' i = true → 1 ≤ g Y) (hf : bit m i = true → bit m' i = true → gnf f (w, Γ, X, Y) ≤ g X + g Y) : sgl (gnf f) (gzl w Γ (lset w m m') m m' i X Y) ≤ g X + g Y := by
  rcases gzl_cases (W := w) (Γ := Γ) (X := X) (Y := Y) (lset_in w m hm m' hm' i hi) with ⟨h1, h2, h3, e⟩ | ⟨h1, h2, h3, e⟩ | ⟨h1, h2, h3, e⟩ | ⟨h1, e⟩
  · rw [e]
    exact hf h2 h3
  · rw [e]
    have := gX h2
    show gnf f (2, Γ, _, _) + 0 ≤ _
    rw [gnf_two f rfl]; omega
  · rw [e]
    have := gY h3
    show gnf f (2, Γ, _, _) + 0 ≤ _
    rw [gnf_two f rfl]; omega
  · rw [e]; exact Nat.zero_le _
theorem gnf_op (z : ZH h B C Γ0) : ∀ (f w : Nat) (Δ : List Ty) (S T : Ty), w ≤ 1 → tok (cxs Δ Γ0 (tAll B C), S, T) → gnf f (w, cxs Δ Γ0 (tAll B C), S, T) ≤ gz (cxs Δ Γ0 (tAll B tTop)) S + gz (cxs Δ Γ0 (tAll B tTop)) T
  | 0, _, Δ, S, T, _, tk => by
    have := gz_pos (T := S) (cxz_okc Δ tk.1) (by rw [cxs_ll (tAll B tTop) (tAll B C)]; exact tk.2.1)
    show 1 ≤ _
    omega
  | f + 1, w, Δ, S, T, w1, tk => by
    have w2 : w ≠ 2 := by omega
    have hc : okc (cxs Δ Γ0 (tAll B C)) := tk.1
    have hS : ok (cxs Δ Γ0 (tAll B C)).length S = true := tk.2.1
    have hT : ok (cxs Δ Γ0 (tAll B C)).length T = true := tk.2.2
    have pos : ∀ X : Ty, ok (cxs Δ Γ0 (tAll B C)).length X = true → 1 ≤ gz (cxs Δ Γ0 (tAll B tTop)) X := fun X o => gz_pos (cxz_okc Δ hc) (by rw [cxs_ll (tAll B tTop) (tAll B C)]; exact o)
    have oneS := pos S hS
    have oneT := pos T hT
    have ih := gnf_op z f
    rw [gnf_succ f w2]
    by_cases bl : bel (cxs Δ Γ0 (tAll B C)) S T = true ∨ bel (cxs Δ Γ0 (tAll B C)) T S = true
    · have g3 : gno (w, cxs Δ Γ0 (tAll B C), S, T) ≤ 1 := by
        unfold gno
        split
        · exact Nat.le_refl _
        · split
          · exact Nat.le_refl _
          · split
            · exact Nat.le_refl _
            · split <;> omega
      rw [gcs_of_bel bl]
      show max 1 (gno _ + 0) ≤ _
      omega
    rcases gcs_cases (w := w) tk w2 with ⟨g1, g2, g3⟩ | ⟨q1, k, hk, rfl, g1, g2, g3⟩ | ⟨q1, n1, k, hk, rfl, g1, g2, g3⟩ | ⟨m, X0, X1, X2, m', Y0, Y1, Y2, hm, hm', rfl, rfl, g1, g2, g3⟩ | ⟨A, D, A', D', rfl, rfl, g1, g2, g3⟩ | ⟨A, D, D', rfl, rfl, g1, g2, g3⟩
    · rw [g1, g3]
      show max 1 (1 + 0) ≤ _
      omega
    · rw [g1, g3]
      show max 1 (0 + (gnf f (w, cxs Δ Γ0 (tAll B C), lft k ((cxs Δ Γ0 (tAll B C)).length - k) (bnd (cxs Δ Γ0 (tAll B C)) k), T) + 0)) ≤ _
      by_cases ne : k = Γ0.length
      · subst ne
        have nb : bel (cxs Δ Γ0 (tAll B C)) T (tVar Γ0.length) = false := by
          cases hq : bel (cxs Δ Γ0 (tAll B C)) T (tVar Γ0.length) with
          | false => rfl
          | true => exact absurd (Or.inr hq) bl
        have t1 : tok (cxs Δ Γ0 (tAll B C), upb Γ0 Δ (tAll B C), T) := ⟨hc, (z.zc hc).up.1, hT⟩
        rw [cxs_up]
        have q := gnf_upL z w1 f T t1 nb
        omega
      · have q := ih w Δ _ T w1 ⟨hc, ok_expose hc hk, hT⟩
        rw [gz_oth hc hk ne]
        omega
    · rw [g1, g3]
      show max 1 (0 + (gnf f (w, cxs Δ Γ0 (tAll B C), S, lft k ((cxs Δ Γ0 (tAll B C)).length - k) (bnd (cxs Δ Γ0 (tAll B C)) k)) + 0)) ≤ _
      by_cases ne : k = Γ0.length
      · subst ne
        have t1 : tok (cxs Δ Γ0 (tAll B C), S, upb Γ0 Δ (tAll B C)) := ⟨hc, hS, (z.zc hc).up.1⟩
        rw [cxs_up]
        have q := gnf_upR z w1 f S t1 n1
        omega
      · have q := ih w Δ S _ w1 ⟨hc, hS, ok_expose hc hk⟩
        rw [gz_oth hc hk ne]
        omega
    · have oS := (ok_rec hm).mp hS
      have oT := (ok_rec hm').mp hT
      rw [g1, g3, sgl_app, sgl_app, gz_rec, gz_rec]
      have n1 := ngc_one (8 + m) (Or.inr ⟨m, hm, rfl⟩)
      have k0 := gzl_g (w := w) (f := f) (g := gz (cxs Δ Γ0 (tAll B tTop))) (Γ := cxs Δ Γ0 (tAll B C)) (X := X0) (Y := Y0) hm hm' (show 0 < 3 by decide) (fun b1 => pos _ (okl_on oS.1 (bit_iff.mp b1))) (fun b2 => pos _ (okl_on oT.1 (bit_iff.mp b2))) (fun b1 b2 => ih w Δ X0 Y0 w1 ⟨hc, okl_on oS.1 (bit_iff.mp b1), okl_on oT.1 (bit_iff.mp b2)⟩)
      have k1 := gzl_g (w := w) (f := f) (g := gz (cxs Δ Γ0 (tAll B tTop))) (Γ := cxs Δ Γ0 (tAll B C)) (X := X1) (Y := Y1) hm hm' (show 1 < 3 by decide) (fun b1 => pos _ (okl_on oS.2.1 (bit_iff.mp b1))) (fun b2 => pos _ (okl_on oT.2.1 (bit_iff.mp b2))) (fun b1 b2 => ih w Δ X1 Y1 w1 ⟨hc, okl_on oS.2.1 (bit_iff.mp b1), okl_on oT.2.1 (bit_iff.mp b2)⟩)
      have k2 := gzl_g (w := w) (f := f) (g := gz (cxs Δ Γ0 (tAll B tTop))) (Γ := cxs Δ Γ0 (tAll B C)) (X := X2) (Y := Y2) hm hm' (show 2 < 3 by decide) (fun b1 => pos _ (okl_on oS.2.2 (bit_iff.mp b1))) (fun b2 => pos _ (okl_on oT.2.2 (bit_iff.mp b2))) (fun b1 b2 => ih w Δ X2 Y2 w1 ⟨hc, okl_on oS.2.2 (bit_iff.mp b1), okl_on oT.2.2 (bit_iff.mp b2)⟩)
      omega
    · have oS := ok_fun.mp hS
      have oT := ok_fun.mp hT
      have p1 := ih (1 - w) Δ A A' (by omega) ⟨hc, oS.1, oT.1⟩
      have p2 := ih w Δ D D' w1 ⟨hc, oS.2, oT.2⟩
      have n1 := ngc_one 1 (Or.inl rfl)
      rw [g1, g3, gz_fun, gz_fun]
      show max 1 (1 + (gnf f (1 - w, cxs Δ Γ0 (tAll B C), A, A') + (gnf f (w, cxs Δ Γ0 (tAll B C), D, D') + 0))) ≤ _
      omega
    · have p2 := ih w (A :: Δ) D D' w1 (tok_all tk)
      have p2 : gnf f (w, A :: cxs Δ Γ0 (tAll B C), D, D') ≤ gz (A :: cxs Δ Γ0 (tAll B tTop)) D + gz (A :: cxs Δ Γ0 (tAll B tTop)) D' := p2
      rw [g1, g3, gz_all, gz_all]
      show max 1 (1 + (gnf f (w, A :: cxs Δ Γ0 (tAll B C), D, D') + 0)) ≤ _
      omega
theorem gn_op (z : ZH h B C Γ0) {w : Nat} (w1 : w ≤ 1) {Δ : List Ty} {S T : Ty} (tk : tok (cxs Δ Γ0 (tAll B C), S, T)) : gn (w, cxs Δ Γ0 (tAll B C), S, T) ≤ gz (cxs Δ Γ0 (tAll B tTop)) S + gz (cxs Δ Γ0 (tAll B tTop)) T := gnf_op z _ w Δ S T w1 tk
/-- a join -/
theorem LJ_op (z : ZH h B C Γ0) (e1 : 1 ≤ e) {Δ : List Ty} {S T : Ty} (tb : TB e (cxs Δ Γ0 (tAll B C), S, T)) (hx : cch (cxs Δ Γ0 (tAll B C)) ≤ 56) (lS : (flat S).length ≤ 16) (lT : (flat T).length ≤ 16) (q1 : mz true e (cxs Δ Γ0 (tAll B tTop)) S + mz false e (cxs Δ Γ0 (tAll B tTop)) T ≤ 887) (q2 : gz (cxs Δ Γ0 (tAll B tTop)) S + gz (cxs Δ Γ0 (tAll B tTop)) T ≤ 597) : LJ (cxs Δ Γ0 (tAll B C)) S T := by
  have a1 := hgt_ctx tb.1.1 tb.1.2.1 lS hx
  have a2 := hgt_ctx tb.1.1 tb.1.2.2 lT hx
  have a3 := Nat.le_trans (gm_op z e1 (Nat.zero_le 1) tb) q1
  have a4 := Nat.le_trans (gn_op z (Nat.zero_le 1) tb.1) q2
  exact ⟨Nat.le_trans (Nat.add_le_add a1 a2) (by decide), a3, Nat.add_le_add_right a4 3⟩
/-- a comparison -/
theorem LB_op (z : ZH h B C Γ0) {Δ : List Ty} {S T : Ty} (b b' : Bool) (tb : TB e (cxs Δ Γ0 (tAll B C), S, T)) (hx : cch (cxs Δ Γ0 (tAll B C)) ≤ 56) (lS : (flat S).length ≤ 16) (lT : (flat T).length ≤ 16) (q1 : mz b e (cxs Δ Γ0 (tAll B tTop)) S + mz b' e (cxs Δ Γ0 (tAll B tTop)) T ≤ 887) : LB (cxs Δ Γ0 (tAll B C)) S T := by
  have a1 := hgt_ctx tb.1.1 tb.1.2.1 lS hx
  have a2 := hgt_ctx tb.1.1 tb.1.2.2 lT hx
  have a3 := Nat.le_trans (trx_op z b b' tb) q1
  have a4 := len_cch (cxs Δ Γ0 (tAll B C))
  refine ⟨Nat.le_trans (Nat.add_le_add a1 a2) (by decide), ?_, a3⟩
  omega
end PmPa
