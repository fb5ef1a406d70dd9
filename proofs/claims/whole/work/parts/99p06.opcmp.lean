/-! COMPARISONS OF ANY TWO TYPES, THE SCHEME BEING WITHOUT ITS BODY. -/
section PmP6
variable {e h : Nat} {Γ0 : List Ty} {B C : Ty}
theorem trf_op (z : ZH h B C Γ0) : ∀ (f : Nat) (b b' : Bool) (Δ : List Ty) (S T : Ty), TB e (cxs Δ Γ0 (tAll B C), S, T) → twt (cxs Δ Γ0 (tAll B C), S, T) ≤ f → trf f (cxs Δ Γ0 (tAll B C), S, T) ≤ mz b e (cxs Δ Γ0 (tAll B tTop)) S + mz b' e (cxs Δ Γ0 (tAll B tTop)) T
  | 0, _, _, _, _, _, tb, hf => by have := twt_two tb.1; omega
  | f + 1, b, b', Δ, S, T, tb, hf => by
    have hc : okc (cxs Δ Γ0 (tAll B C)) := tb.1.1
    have hS : ok (cxs Δ Γ0 (tAll B C)).length S = true := tb.1.2.1
    have hT : ok (cxs Δ Γ0 (tAll B C)).length T = true := tb.1.2.2
    have bS : cbd e (cl (cxs Δ Γ0 (tAll B C))) S := tb.2.2.1
    have bT : cbd e (cl (cxs Δ Γ0 (tAll B C))) T := tb.2.2.2
    rcases stp_cases tb.1 with e1 | ⟨e1, r1⟩ | ⟨k, hk, rfl, hT0, e1, r1⟩ | ⟨m, x, y, w, m', x', y', w', hm, hm', rfl, rfl, e1, r1⟩ | ⟨a, c, a', c', rfl, rfl, e1, r1⟩ | ⟨a, c, c', rfl, rfl, e1, r1⟩
    · unfold trf
      simp only [e1]
      exact Nat.zero_le _
    · unfold trf
      simp only [e1]
      show rst S T + 0 ≤ _
      omega
    · obtain ⟨c1, c2, c3⟩ := cl_expose hc tb.2.1 hk
      have t1 : TB e (cxs Δ Γ0 (tAll B C), lft k ((cxs Δ Γ0 (tAll B C)).length - k) (bnd (cxs Δ Γ0 (tAll B C)) k), T) := ⟨⟨hc, ok_expose hc hk, hT⟩, tb.2.1, c2, bT⟩
      have tw := (stp_w tb.1 e1).1
      have tw : twt (cxs Δ Γ0 (tAll B C), lft k ((cxs Δ Γ0 (tAll B C)).length - k) (bnd (cxs Δ Γ0 (tAll B C)) k), T) + 0 + 1 ≤ twt (cxs Δ Γ0 (tAll B C), tVar k, T) := tw
      have et : trf (f + 1) (cxs Δ Γ0 (tAll B C), tVar k, T) = 1 + (trf f (cxs Δ Γ0 (tAll B C), lft k ((cxs Δ Γ0 (tAll B C)).length - k) (bnd (cxs Δ Γ0 (tAll B C)) k), T) + 0) := by
        rw [trf]
        simp only [e1]
        rw [r1]
        rfl
      rw [et]
      by_cases ne : k = Γ0.length
      · subst ne
        rw [mz_own hc]
        rw [cxs_up] at t1 tw ⊢
        have q := trf_upL z b' f t1 (by omega)
        omega
      · rw [mz_oth hc hk ne]
        have q := trf_op z f b b' Δ _ T t1 (by omega)
        have v := vlr_up (b := b) (e := e) (mz b e (cxs Δ Γ0 (tAll B tTop)) (lft k ((cxs Δ Γ0 (tAll B C)).length - k) (bnd (cxs Δ Γ0 (tAll B C)) k)))
        omega
    · have oS := (ok_rec hm).mp hS
      have oT := (ok_rec hm').mp hT
      have dS := (cbd_rec _ _ _ _).mp bS
      have dT := (cbd_rec _ _ _ _).mp bT
      have tw := (stp_w tb.1 e1).1
      rw [tws_app, tws_app] at tw
      have hsub : ∀ g, g < 3 → bit m' g = true → bit m g = true := by
        by_cases n6 : m &&& m' = m'
        · have := (sub_bits m hm m' hm').mp n6
          intro g hg
          rcases (show g = 0 ∨ g = 1 ∨ g = 2 by omega) with rfl | rfl | rfl
          · exact this.1
          · exact this.2.1
          · exact this.2.2
        · exfalso
          have n3 : 8 ≤ hd (tRec m x y w) ∧ 8 ≤ hd (tRec m' x' y' w') ∧ hd (tRec m' x' y' w') < 16 := by rw [hd_rec, hd_rec]; omega
          have en : stp (cxs Δ Γ0 (tAll B C)) (tRec m x y w) (tRec m' x' y' w') = none := by
            unfold stp
            rw [if_neg (by rw [hd_rec, hd_rec]; omega), if_neg (by rw [hd_rec]; omega), if_pos n3, hd_rec, hd_rec, show 8 + m - 8 = m by omega, show 8 + m' - 8 = m' by omega, if_neg n6]
          rw [en] at e1
          cases e1
      have key : ∀ (g : Nat) (p p' : Ty), g < 3 → okl (cxs Δ Γ0 (tAll B C)).length m g p → okl (cxs Δ Γ0 (tAll B C)).length m' g p' → cbd e (cl (cxs Δ Γ0 (tAll B C))) p → cbd e (cl (cxs Δ Γ0 (tAll B C))) p' → tws (stl (cxs Δ Γ0 (tAll B C)) m' g p p') ≤ f → sumt (trf f) (stl (cxs Δ Γ0 (tAll B C)) m' g p p') ≤ mz b e (cxs Δ Γ0 (tAll B tTop)) p + mz b' e (cxs Δ Γ0 (tAll B tTop)) p' := by
        intro g p p' hg hp hp' bp bp' hw
        unfold stl at hw ⊢
        by_cases hb1 : bit m' g = true
        · rw [if_pos hb1] at hw ⊢
          have hw : twt (cxs Δ Γ0 (tAll B C), p, p') + 0 ≤ f := hw
          exact trf_op z f b b' Δ p p' ⟨⟨hc, okl_on hp (bit_iff.mp (hsub g hg hb1)), okl_on hp' (bit_iff.mp hb1)⟩, tb.2.1, bp, bp'⟩ (by omega)
        · rw [if_neg hb1]
          exact Nat.zero_le _
      have k0 := key 0 x x' (by decide) oS.1 oT.1 dS.1 dT.1 (by omega)
      have k1 := key 1 y y' (by decide) oS.2.1 oT.2.1 dS.2.1 dT.2.1 (by omega)
      have k2 := key 2 w w' (by decide) oS.2.2 oT.2.2 dS.2.2 dT.2.2 (by omega)
      have et : trf (f + 1) (cxs Δ Γ0 (tAll B C), tRec m x y w, tRec m' x' y' w') = sumt (trf f) (stl (cxs Δ Γ0 (tAll B C)) m' 2 w w') + (sumt (trf f) (stl (cxs Δ Γ0 (tAll B C)) m' 1 y y') + sumt (trf f) (stl (cxs Δ Γ0 (tAll B C)) m' 0 x x')) := by
        rw [trf]
        simp only [e1]
        rw [r1, sumt_app, sumt_app]
        omega
      rw [et, mz_rec, mz_rec]
      omega
    · have oS := ok_fun.mp hS
      have oT := ok_fun.mp hT
      have dS := (cbd_fun _ _ _).mp bS
      have dT := (cbd_fun _ _ _).mp bT
      have tw := (stp_w tb.1 e1).1
      have tw : twt (cxs Δ Γ0 (tAll B C), c, c') + (twt (cxs Δ Γ0 (tAll B C), a', a) + 0) + 1 ≤ twt (cxs Δ Γ0 (tAll B C), tFun a c, tFun a' c') := tw
      have i1 := trf_op z f b b' Δ c c' ⟨⟨hc, oS.2, oT.2⟩, tb.2.1, dS.2, dT.2⟩ (by omega)
      have j1 := trf_op z f b' b Δ a' a ⟨⟨hc, oT.1, oS.1⟩, tb.2.1, dT.1, dS.1⟩ (by omega)
      have et : trf (f + 1) (cxs Δ Γ0 (tAll B C), tFun a c, tFun a' c') = trf f (cxs Δ Γ0 (tAll B C), c, c') + (trf f (cxs Δ Γ0 (tAll B C), a', a) + 0) := by
        rw [trf]
        simp only [e1]
        rw [r1]
        show 0 + (trf f (cxs Δ Γ0 (tAll B C), c, c') + (trf f (cxs Δ Γ0 (tAll B C), a', a) + 0)) = _
        omega
      rw [et, mz_fun, mz_fun]
      omega
    · have t2 := TB_all tb
      have tw := (stp_w tb.1 e1).1
      have tw : twt (a :: cxs Δ Γ0 (tAll B C), c, c') + 0 + 1 ≤ twt (cxs Δ Γ0 (tAll B C), tAll a c, tAll a c') := tw
      have i1 := trf_op z f b b' (a :: Δ) c c' t2 (by show twt (a :: cxs Δ Γ0 (tAll B C), c, c') ≤ f; omega)
      have i1 : trf f (a :: cxs Δ Γ0 (tAll B C), c, c') ≤ mz b e (a :: cxs Δ Γ0 (tAll B tTop)) c + mz b' e (a :: cxs Δ Γ0 (tAll B tTop)) c' := i1
      have et : trf (f + 1) (cxs Δ Γ0 (tAll B C), tAll a c, tAll a c') = 1 + (trf f (a :: cxs Δ Γ0 (tAll B C), c, c') + 0) := by
        rw [trf]
        simp only [e1]
        rw [r1]
        rfl
      rw [et, mz_all, mz_all]
      omega
/-- rows of a comparison -/
theorem trx_op (z : ZH h B C Γ0) (b b' : Bool) {Δ : List Ty} {S T : Ty} (tb : TB e (cxs Δ Γ0 (tAll B C), S, T)) : trx (cxs Δ Γ0 (tAll B C), S, T) ≤ mz b e (cxs Δ Γ0 (tAll B tTop)) S + mz b' e (cxs Δ Γ0 (tAll B tTop)) T := trf_op z _ b b' Δ S T tb (Nat.le_refl _)
theorem TB_swap {Γ : List Ty} {S T : Ty} (tb : TB e (Γ, S, T)) : TB e (Γ, T, S) := ⟨⟨tb.1.1, tb.1.2.2, tb.1.2.1⟩, tb.2.1, tb.2.2.2, tb.2.2.1⟩
theorem tru_op (z : ZH h B C Γ0) (b b' : Bool) {Δ : List Ty} {S T : Ty} (tb : TB e (cxs Δ Γ0 (tAll B C), S, T)) : tru (cxs Δ Γ0 (tAll B C), S, T) ≤ mz b e (cxs Δ Γ0 (tAll B tTop)) S + mz b' e (cxs Δ Γ0 (tAll B tTop)) T := by
  have q1 := trx_op z b b' tb
  have q2 := trx_op z b' b (TB_swap tb)
  show max (trx (cxs Δ Γ0 (tAll B C), S, T)) (trx (cxs Δ Γ0 (tAll B C), T, S)) ≤ _
  omega
end PmP6
