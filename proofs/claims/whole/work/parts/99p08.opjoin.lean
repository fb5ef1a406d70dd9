/-! JOINS OF ANY TWO TYPES, THE SCHEME BEING WITHOUT ITS BODY: all. -/
section PmP8
variable {e h : Nat} {Γ0 : List Ty} {B C : Ty}
theorem gmf_op (z : ZH h B C Γ0) (e1 : 1 ≤ e) : ∀ (f w : Nat) (Δ : List Ty) (S T : Ty), w ≤ 1 → TB e (cxs Δ Γ0 (tAll B C), S, T) → gmf f (w, cxs Δ Γ0 (tAll B C), S, T) ≤ mz true e (cxs Δ Γ0 (tAll B tTop)) S + mz false e (cxs Δ Γ0 (tAll B tTop)) T
  | 0, _, _, _, _, _, _ => Nat.zero_le _
  | f + 1, w, Δ, S, T, w1, tb => by
    have w2 : w ≠ 2 := by omega
    have tk : tok (cxs Δ Γ0 (tAll B C), S, T) := tb.1
    have hc : okc (cxs Δ Γ0 (tAll B C)) := tk.1
    have hS : ok (cxs Δ Γ0 (tAll B C)).length S = true := tk.2.1
    have hT : ok (cxs Δ Γ0 (tAll B C)).length T = true := tk.2.2
    have hSz : ok (cxs Δ Γ0 (tAll B tTop)).length S = true := by rw [cxs_ll (tAll B tTop) (tAll B C)]; exact hS
    have tu := tru_op z true false tb
    have ih := gmf_op z e1 f
    suffices hh : gro (w, cxs Δ Γ0 (tAll B C), S, T) + sgl (gmf f) (gcs (w, cxs Δ Γ0 (tAll B C), S, T)) ≤ mz true e (cxs Δ Γ0 (tAll B tTop)) S + mz false e (cxs Δ Γ0 (tAll B tTop)) T by
      rw [gmf_succ f w2]
      omega
    by_cases bl : bel (cxs Δ Γ0 (tAll B C)) S T = true ∨ bel (cxs Δ Γ0 (tAll B C)) T S = true
    · rw [gcs_of_bel bl, gro_bel bl]; exact Nat.zero_le _
    have h0 : hd S ≠ 0 := fun e => bl (Or.inr (bel_top ⟨hc, hT, hS⟩ e))
    have one := mz_one (b := true) (e := e) (cxz_okc Δ hc) hSz h0
    have kids := tb.gcs w2 (by omega)
    have bS : cbd e (cl (cxs Δ Γ0 (tAll B C))) S := tb.2.2.1
    have bT : cbd e (cl (cxs Δ Γ0 (tAll B C))) T := tb.2.2.2
    rcases gcs_cases (w := w) tk w2 with ⟨g1, g2, g3⟩ | ⟨q1, k, hk, rfl, g1, g2, g3⟩ | ⟨q1, n1, k, hk, rfl, g1, g2, g3⟩ | ⟨m, X0, X1, X2, m', Y0, Y1, Y2, hm, hm', rfl, rfl, g1, g2, g3⟩ | ⟨A, D, A', D', rfl, rfl, g1, g2, g3⟩ | ⟨A, D, D', rfl, rfl, g1, g2, g3⟩
    · rw [g1]
      show gro _ + 0 ≤ _
      omega
    · have t1 := (kids _ (by rw [g1]; exact List.mem_cons_self ..)).1
      have t1 : TB e (cxs Δ Γ0 (tAll B C), lft k ((cxs Δ Γ0 (tAll B C)).length - k) (bnd (cxs Δ Γ0 (tAll B C)) k), T) := t1
      rw [g1, g2]
      show 1 + (gmf f (w, cxs Δ Γ0 (tAll B C), lft k ((cxs Δ Γ0 (tAll B C)).length - k) (bnd (cxs Δ Γ0 (tAll B C)) k), T) + 0) ≤ _
      by_cases ne : k = Γ0.length
      · subst ne
        have nb : bel (cxs Δ Γ0 (tAll B C)) T (tVar Γ0.length) = false := by
          cases hq : bel (cxs Δ Γ0 (tAll B C)) T (tVar Γ0.length) with
          | false => rfl
          | true => exact absurd (Or.inr hq) bl
        rw [mz_own hc]
        rw [cxs_up] at t1 ⊢
        have q := gmf_upL z e1 w1 f T t1 nb
        omega
      · rw [mz_oth hc hk ne]
        have q := ih w Δ _ T w1 t1
        have v := vlr_up (b := true) (e := e) (mz true e (cxs Δ Γ0 (tAll B tTop)) (lft k ((cxs Δ Γ0 (tAll B C)).length - k) (bnd (cxs Δ Γ0 (tAll B C)) k)))
        omega
    · have t1 := (kids _ (by rw [g1]; exact List.mem_cons_self ..)).1
      have t1 : TB e (cxs Δ Γ0 (tAll B C), S, lft k ((cxs Δ Γ0 (tAll B C)).length - k) (bnd (cxs Δ Γ0 (tAll B C)) k)) := t1
      rw [g1, g2]
      show 1 + (gmf f (w, cxs Δ Γ0 (tAll B C), S, lft k ((cxs Δ Γ0 (tAll B C)).length - k) (bnd (cxs Δ Γ0 (tAll B C)) k)) + 0) ≤ _
      by_cases ne : k = Γ0.length
      · subst ne
        have nb : bel (cxs Δ Γ0 (tAll B C)) S (tVar Γ0.length) = false := by
          cases hq : bel (cxs Δ Γ0 (tAll B C)) S (tVar Γ0.length) with
          | false => rfl
          | true => exact absurd (Or.inl hq) bl
        rw [mz_own hc]
        rw [cxs_up] at t1 ⊢
        have q := gmf_upR z e1 w1 f S t1 n1 nb
        omega
      · rw [mz_oth (b := false) hc hk ne]
        have q := ih w Δ S _ w1 t1
        have v := vlr_up (b := false) (e := e) (mz false e (cxs Δ Γ0 (tAll B tTop)) (lft k ((cxs Δ Γ0 (tAll B C)).length - k) (bnd (cxs Δ Γ0 (tAll B C)) k)))
        omega
    · have oS := (ok_rec hm).mp hS
      have oT := (ok_rec hm').mp hT
      have dS := (cbd_rec _ _ _ _).mp bS
      have dT := (cbd_rec _ _ _ _).mp bT
      rw [g1, g2, sgl_app, sgl_app, mz_rec, mz_rec]
      have f2 : ∀ z : Gz, z.1 = 2 → gmf f z = 0 := fun z h => gmf_two f h
      have k0 := gzl_s (w := w) (f := gmf f) (g := mz true e (cxs Δ Γ0 (tAll B tTop))) (g' := mz false e (cxs Δ Γ0 (tAll B tTop))) (Γ := cxs Δ Γ0 (tAll B C)) (X := X0) (Y := Y0) hm hm' (show 0 < 3 by decide) w2 f2 (fun b1 b2 => ih w Δ X0 Y0 w1 ⟨⟨hc, okl_on oS.1 (bit_iff.mp b1), okl_on oT.1 (bit_iff.mp b2)⟩, tb.2.1, dS.1, dT.1⟩)
      have k1 := gzl_s (w := w) (f := gmf f) (g := mz true e (cxs Δ Γ0 (tAll B tTop))) (g' := mz false e (cxs Δ Γ0 (tAll B tTop))) (Γ := cxs Δ Γ0 (tAll B C)) (X := X1) (Y := Y1) hm hm' (show 1 < 3 by decide) w2 f2 (fun b1 b2 => ih w Δ X1 Y1 w1 ⟨⟨hc, okl_on oS.2.1 (bit_iff.mp b1), okl_on oT.2.1 (bit_iff.mp b2)⟩, tb.2.1, dS.2.1, dT.2.1⟩)
      have k2 := gzl_s (w := w) (f := gmf f) (g := mz true e (cxs Δ Γ0 (tAll B tTop))) (g' := mz false e (cxs Δ Γ0 (tAll B tTop))) (Γ := cxs Δ Γ0 (tAll B C)) (X := X2) (Y := Y2) hm hm' (show 2 < 3 by decide) w2 f2 (fun b1 b2 => ih w Δ X2 Y2 w1 ⟨⟨hc, okl_on oS.2.2 (bit_iff.mp b1), okl_on oT.2.2 (bit_iff.mp b2)⟩, tb.2.1, dS.2.2, dT.2.2⟩)
      omega
    · have oS := ok_fun.mp hS
      have oT := ok_fun.mp hT
      have dS := (cbd_fun _ _ _).mp bS
      have dT := (cbd_fun _ _ _).mp bT
      have p1 := ih (1 - w) Δ A A' (by omega) ⟨⟨hc, oS.1, oT.1⟩, tb.2.1, dS.1, dT.1⟩
      have p2 := ih w Δ D D' w1 ⟨⟨hc, oS.2, oT.2⟩, tb.2.1, dS.2, dT.2⟩
      rw [g1, g2, mz_fun, mz_fun]
      show 1 + (gmf f (1 - w, cxs Δ Γ0 (tAll B C), A, A') + (gmf f (w, cxs Δ Γ0 (tAll B C), D, D') + 0)) ≤ _
      omega
    · have p2 := ih w (A :: Δ) D D' w1 (TB_all tb)
      have p2 : gmf f (w, A :: cxs Δ Γ0 (tAll B C), D, D') ≤ mz true e (A :: cxs Δ Γ0 (tAll B tTop)) D + mz false e (A :: cxs Δ Γ0 (tAll B tTop)) D' := p2
      rw [g1, g2, mz_all, mz_all]
      show 2 + (gmf f (w, A :: cxs Δ Γ0 (tAll B C), D, D') + 0) ≤ _
      omega
/-- ROWS OF A JOIN, where no scheme inside the scheme has its bound's head: both sides together, the scheme being worth 3 + e -/
theorem gm_op (z : ZH h B C Γ0) (e1 : 1 ≤ e) {w : Nat} (w1 : w ≤ 1) {Δ : List Ty} {S T : Ty} (tb : TB e (cxs Δ Γ0 (tAll B C), S, T)) : gm (w, cxs Δ Γ0 (tAll B C), S, T) ≤ mz true e (cxs Δ Γ0 (tAll B tTop)) S + mz false e (cxs Δ Γ0 (tAll B tTop)) T := gmf_op z e1 _ w Δ S T w1 tb
end PmP8
