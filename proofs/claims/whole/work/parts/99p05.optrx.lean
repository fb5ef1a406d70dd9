/-! COMPARISONS, THE SCHEME BEING WITHOUT ITS BODY: both sides together. -/
section PmP5
variable {e h : Nat} {Γ0 : List Ty} {B C : Ty}
theorem cxz_exp {Δ : List Ty} {k : Nat} (ne : k ≠ Γ0.length) : lft k ((cxs Δ Γ0 (tAll B C)).length - k) (bnd (cxs Δ Γ0 (tAll B C)) k) = lft k ((cxs Δ Γ0 (tAll B tTop)).length - k) (bnd (cxs Δ Γ0 (tAll B tTop)) k) := by
  rw [cxs_ll (tAll B C) (tAll B tTop), cxs_other Γ0 (tAll B C) (tAll B tTop) ne]
theorem mz_oth {b : Bool} {Δ : List Ty} {k : Nat} (hc : okc (cxs Δ Γ0 (tAll B C))) (hk : k < (cxs Δ Γ0 (tAll B C)).length) (ne : k ≠ Γ0.length) : mz b e (cxs Δ Γ0 (tAll B tTop)) (tVar k) = vlr b e (mz b e (cxs Δ Γ0 (tAll B tTop)) (lft k ((cxs Δ Γ0 (tAll B C)).length - k) (bnd (cxs Δ Γ0 (tAll B C)) k))) := by
  rw [cxz_exp ne]
  exact mz_var (cxz_okc Δ hc) (by rw [cxs_ll (tAll B tTop) (tAll B C)]; exact hk)
/-- the scheme itself -/
theorem mz_own {b : Bool} {Δ : List Ty} (hc : okc (cxs Δ Γ0 (tAll B C))) : mz b e (cxs Δ Γ0 (tAll B tTop)) (tVar Γ0.length) = 3 + e := by
  have q := mz_var (b := b) (e := e) (cxz_okc Δ hc) (SGc.k_lt (Γ0 := Γ0) (Δ := Δ) (tAll B tTop))
  rw [cxs_up, upb_all, mz_all] at q
  have e0 : upb Γ0 Δ tTop = tTop := lft_top _ _
  rw [e0, mz_top] at q
  rw [q]
  cases b with
  | true => show max e (1 + (2 + e + 0)) = _; omega
  | false => show 1 + max e (2 + e + 0) = _; omega
/-- inside the scheme: left -/
theorem trx_inL {Δ : List Ty} {D : Ty} (z : ZH h B C Γ0) (b : Bool) (tb : TB e (upb Γ0 Δ B :: cxs Δ Γ0 (tAll B C), upb Γ0 Δ C, D)) : trx (upb Γ0 Δ B :: cxs Δ Γ0 (tAll B C), upb Γ0 Δ C, D) ≤ mz b e (upb Γ0 Δ B :: cxs Δ Γ0 (tAll B tTop)) D := by
  have hc : okc (cxs Δ Γ0 (tAll B C)) := tb.1.1.2
  have oB : ok (cxs Δ Γ0 (tAll B C)).length (upb Γ0 Δ B) = true := tb.1.1.1
  have s := (z.zc hc).ext oB (z.body hc).1
  have q := trx_good s (S := upb Γ0 Δ C) (T := D) tb.1.2.1 tb.1.2.2 (Or.inl (z.body hc).2)
  have q : trx (upb Γ0 Δ B :: cxs Δ Γ0 (tAll B C), upb Γ0 Δ C, D) = trx (upb Γ0 Δ B :: cxs Δ Γ0 (tAll B tTop), upb Γ0 Δ C, D) := q
  rw [q]
  exact trx_nzT b (cxz_TB (Δ := upb Γ0 Δ B :: Δ) tb)
/-- inside the scheme: right -/
theorem trx_inR {Δ : List Ty} {D : Ty} (z : ZH h B C Γ0) (b : Bool) (tb : TB e (upb Γ0 Δ B :: cxs Δ Γ0 (tAll B C), D, upb Γ0 Δ C)) : trx (upb Γ0 Δ B :: cxs Δ Γ0 (tAll B C), D, upb Γ0 Δ C) ≤ mz b e (upb Γ0 Δ B :: cxs Δ Γ0 (tAll B tTop)) D := by
  have hc : okc (cxs Δ Γ0 (tAll B C)) := tb.1.1.2
  have oB : ok (cxs Δ Γ0 (tAll B C)).length (upb Γ0 Δ B) = true := tb.1.1.1
  have s := (z.zc hc).ext oB (z.body hc).1
  have q := trx_good s (S := D) (T := upb Γ0 Δ C) tb.1.2.1 tb.1.2.2 (Or.inr (z.body hc).2)
  have q : trx (upb Γ0 Δ B :: cxs Δ Γ0 (tAll B C), D, upb Γ0 Δ C) = trx (upb Γ0 Δ B :: cxs Δ Γ0 (tAll B tTop), D, upb Γ0 Δ C) := q
  rw [q]
  exact trx_nzS b (cxz_TB (Δ := upb Γ0 Δ B :: Δ) tb)
theorem TB_all {Γ : List Ty} {a b b' : Ty} (tb : TB e (Γ, tAll a b, tAll a b')) : TB e (a :: Γ, b, b') := by
  have oS := ok_all.mp (show ok Γ.length (tAll a b) = true from tb.1.2.1)
  have oT := ok_all.mp (show ok Γ.length (tAll a b') = true from tb.1.2.2)
  have dS := (cbd_all _ _ _).mp (show cbd e (cl Γ) (tAll a b) from tb.2.2.1)
  have dT := (cbd_all _ _ _).mp (show cbd e (cl Γ) (tAll a b') from tb.2.2.2)
  exact ⟨⟨⟨oS.1, tb.1.1⟩, oS.2, oT.2⟩, ⟨⟨dS.1, dS.2.1⟩, tb.2.1⟩, dS.2.2, dT.2.2⟩
/-- the scheme, exposed on the left -/
theorem trf_upL {Δ : List Ty} {T : Ty} (z : ZH h B C Γ0) (b : Bool) (f : Nat) (tb : TB e (cxs Δ Γ0 (tAll B C), upb Γ0 Δ (tAll B C), T)) (hf : twt (cxs Δ Γ0 (tAll B C), upb Γ0 Δ (tAll B C), T) ≤ f) : trf f (cxs Δ Γ0 (tAll B C), upb Γ0 Δ (tAll B C), T) ≤ mz b e (cxs Δ Γ0 (tAll B tTop)) T := by
  rw [← trx_big tb.1 hf, trx_big tb.1 (F := twt (cxs Δ Γ0 (tAll B C), upb Γ0 Δ (tAll B C), T) + 1) (by omega)]
  have h2 : hd (upb Γ0 Δ (tAll B C)) = 2 := by rw [upb_all, hd_all]
  rcases stp_cases tb.1 with e1 | ⟨e1, r1⟩ | ⟨k, hk, eS, hT0, e1, r1⟩ | ⟨m, x, y, w, m', x', y', w', hm, hm', eS, eT, e1, r1⟩ | ⟨a, c, a', c', eS, eT, e1, r1⟩ | ⟨a, c, c', eS, eT, e1, r1⟩
  · unfold trf
    simp only [e1]
    exact Nat.zero_le _
  · unfold trf
    simp only [e1]
    show rst _ T + 0 ≤ _
    omega
  · rw [eS, hd_var] at h2; omega
  · rw [eS, hd_rec] at h2; omega
  · rw [eS, hd_fun] at h2; omega
  · have eS' := eS
    rw [upb_all] at eS'
    injection eS' with _ eS'
    injection eS' with ea ec
    subst eT ea ec
    have t2 : TB e (upb Γ0 Δ B :: cxs Δ Γ0 (tAll B C), upb Γ0 Δ C, c') := by
      have tb' := tb
      rw [upb_all] at tb'
      exact TB_all tb'
    have et : trf (twt (cxs Δ Γ0 (tAll B C), upb Γ0 Δ (tAll B C), tAll (upb Γ0 Δ B) c') + 1) (cxs Δ Γ0 (tAll B C), upb Γ0 Δ (tAll B C), tAll (upb Γ0 Δ B) c') = 1 + (trf (twt (cxs Δ Γ0 (tAll B C), upb Γ0 Δ (tAll B C), tAll (upb Γ0 Δ B) c')) (upb Γ0 Δ B :: cxs Δ Γ0 (tAll B C), upb Γ0 Δ C, c') + 0) := by
      rw [trf]
      simp only [e1]
      rw [r1]
      rfl
    have tw := (stp_w tb.1 e1).1
    have tw : twt (upb Γ0 Δ B :: cxs Δ Γ0 (tAll B C), upb Γ0 Δ C, c') + 0 + 1 ≤ twt (cxs Δ Γ0 (tAll B C), upb Γ0 Δ (tAll B C), tAll (upb Γ0 Δ B) c') := tw
    rw [et, ← trx_big t2.1 (by omega), mz_all]
    have q := trx_inL z b t2
    omega
/-- the scheme, exposed on the right, against what is not below it -/
theorem trf_upR {Δ : List Ty} (z : ZH h B C Γ0) (b : Bool) : ∀ (f : Nat) (T : Ty), TB e (cxs Δ Γ0 (tAll B C), T, upb Γ0 Δ (tAll B C)) → twt (cxs Δ Γ0 (tAll B C), T, upb Γ0 Δ (tAll B C)) ≤ f → bel (cxs Δ Γ0 (tAll B C)) T (tVar Γ0.length) = false → trf f (cxs Δ Γ0 (tAll B C), T, upb Γ0 Δ (tAll B C)) ≤ mz b e (cxs Δ Γ0 (tAll B tTop)) T
  | 0, T, tb, hf, _ => by have := twt_two tb.1; omega
  | f + 1, T, tb, hf, nb => by
    have h2 : hd (upb Γ0 Δ (tAll B C)) = 2 := by rw [upb_all, hd_all]
    have hc : okc (cxs Δ Γ0 (tAll B C)) := tb.1.1
    have oT : ok (cxs Δ Γ0 (tAll B C)).length T = true := tb.1.2.1
    have kl := SGc.k_lt (Γ0 := Γ0) (Δ := Δ) (tAll B C)
    rcases stp_cases tb.1 with e1 | ⟨e1, r1⟩ | ⟨k, hk, eS, hT0, e1, r1⟩ | ⟨m, x, y, w, m', x', y', w', hm, hm', eS, eT, e1, r1⟩ | ⟨a, c, a', c', eS, eT, e1, r1⟩ | ⟨a, c, c', eS, eT, e1, r1⟩
    · unfold trf
      simp only [e1]
      exact Nat.zero_le _
    · unfold trf
      simp only [e1]
      show rst T _ + 0 ≤ _
      omega
    · subst eS
      have oA : ok (cxs Δ Γ0 (tAll B C)).length (tVar Γ0.length) = true := by rw [ok_var]; simpa using kl
      by_cases ne : k = Γ0.length
      · subst ne
        rw [bel_refl _ _ _ (Nat.le_refl _) hc oA] at nb
        cases nb
      · have nb' := nb
        have bv := bel_var (Γ := cxs Δ Γ0 (tAll B C)) (T := tVar Γ0.length) (k := k) (show tok (cxs Δ Γ0 (tAll B C), tVar k, tVar Γ0.length) from ⟨hc, oT, oA⟩) (by rw [hd_var]; omega) (by rw [hd_var]; omega)
        rw [bv] at nb'
        obtain ⟨c1, c2, c3⟩ := cl_expose hc tb.2.1 hk
        have t1 : TB e (cxs Δ Γ0 (tAll B C), lft k ((cxs Δ Γ0 (tAll B C)).length - k) (bnd (cxs Δ Γ0 (tAll B C)) k), upb Γ0 Δ (tAll B C)) := ⟨⟨hc, ok_expose hc hk, tb.1.2.2⟩, tb.2.1, c2, tb.2.2.2⟩
        have tw := (stp_w tb.1 e1).1
        have tw : twt (cxs Δ Γ0 (tAll B C), lft k ((cxs Δ Γ0 (tAll B C)).length - k) (bnd (cxs Δ Γ0 (tAll B C)) k), upb Γ0 Δ (tAll B C)) + 0 + 1 ≤ twt (cxs Δ Γ0 (tAll B C), tVar k, upb Γ0 Δ (tAll B C)) := tw
        have q := trf_upR z b f _ t1 (by omega) nb'
        have et : trf (f + 1) (cxs Δ Γ0 (tAll B C), tVar k, upb Γ0 Δ (tAll B C)) = 1 + (trf f (cxs Δ Γ0 (tAll B C), lft k ((cxs Δ Γ0 (tAll B C)).length - k) (bnd (cxs Δ Γ0 (tAll B C)) k), upb Γ0 Δ (tAll B C)) + 0) := by
          rw [trf]
          simp only [e1]
          rw [r1]
          rfl
        rw [et, mz_oth hc hk ne]
        have v := vlr_up (b := b) (e := e) (mz b e (cxs Δ Γ0 (tAll B tTop)) (lft k ((cxs Δ Γ0 (tAll B C)).length - k) (bnd (cxs Δ Γ0 (tAll B C)) k)))
        omega
    · rw [eT, hd_rec] at h2; omega
    · rw [eT, hd_fun] at h2; omega
    · have eT' := eT
      rw [upb_all] at eT'
      injection eT' with _ eT'
      injection eT' with ea ec
      subst eS ea ec
      have t2 : TB e (upb Γ0 Δ B :: cxs Δ Γ0 (tAll B C), c, upb Γ0 Δ C) := by
        have tb' := tb
        rw [upb_all] at tb'
        exact TB_all tb'
      have et : trf (f + 1) (cxs Δ Γ0 (tAll B C), tAll (upb Γ0 Δ B) c, upb Γ0 Δ (tAll B C)) = 1 + (trf f (upb Γ0 Δ B :: cxs Δ Γ0 (tAll B C), c, upb Γ0 Δ C) + 0) := by
        rw [trf]
        simp only [e1]
        rw [r1]
        rfl
      have tw := (stp_w tb.1 e1).1
      have tw : twt (upb Γ0 Δ B :: cxs Δ Γ0 (tAll B C), c, upb Γ0 Δ C) + 0 + 1 ≤ twt (cxs Δ Γ0 (tAll B C), tAll (upb Γ0 Δ B) c, upb Γ0 Δ (tAll B C)) := tw
      rw [et, ← trx_big t2.1 (by omega), mz_all]
      have q := trx_inR z b t2
      omega
end PmP5
