/-! ANY TWO TYPES, THE SCHEME'S BODY REPLACED BY A SMALL ONE: comparisons and joins. -/
/-- the body, when it is entered, is old, and what is old meets the body only in small walks -/
def OVh (e : Nat) (B C Dm : Ty) (Γ0 : List Ty) : Prop := (ok (Γ0.length + 1) Dm = true ∧ hd Dm ≠ 0) ∧ ∀ Δ, okc (cxs Δ Γ0 (tAll B C)) → ∃ Kp, KPc e B C Dm Γ0 Kp ∧ Kp (upb Γ0 Δ B :: Δ) (upb Γ0 Δ C)
section PmU6
variable {e : Nat} {Γ0 : List Ty} {B C Dm : Ty}
theorem pmz_mz {b : Bool} {Γ : List Ty} {t : Ty} (hc : okc Γ) (o : ok Γ.length t = true) (d : Bool) : pmz (qu e) d (oq (qu e) Γ) t ≤ mz b e Γ t := by
  have l1 := onz_len 0 (fun _ => 1 + e) (2 + e) (vlr b e) Γ
  exact (pmz_nz (b := b) (e := e) _ t _ _ (Nat.le_refl _) (by rw [l1, oq_len]) (by rw [l1]; exact o) (fun j hj => (onz_oz Γ hc j (by rw [l1] at hj; exact hj)).2)).1 d
theorem mz_othD {b : Bool} {Δ : List Ty} {k : Nat} (z : OVh e B C Dm Γ0) (hc : okc (cxs Δ Γ0 (tAll B C))) (hk : k < (cxs Δ Γ0 (tAll B C)).length) (ne : k ≠ Γ0.length) : mz b e (cxs Δ Γ0 (tAll B Dm)) (tVar k) = vlr b e (mz b e (cxs Δ Γ0 (tAll B Dm)) (lft k ((cxs Δ Γ0 (tAll B C)).length - k) (bnd (cxs Δ Γ0 (tAll B C)) k))) := by
  rw [cxd_exp (D := Dm) ne]
  exact mz_var (cxd_okc (B := B) (C := C) z.1.1 Δ hc) (by rw [cxs_ll (tAll B Dm) (tAll B C)]; exact hk)
theorem mz_ownD (b : Bool) {Δ : List Ty} (z : OVh e B C Dm Γ0) (hc : okc (cxs Δ Γ0 (tAll B C))) : 3 + e ≤ mz b e (cxs Δ Γ0 (tAll B Dm)) (tVar Γ0.length) := by
  have q := mz_var (b := b) (e := e) (cxd_okc (B := B) (C := C) z.1.1 Δ hc) (SGc.k_lt (Γ0 := Γ0) (Δ := Δ) (tAll B Dm))
  rw [cxs_up, upb_all, mz_all] at q
  rw [q]
  have v := vlr_up (b := b) (e := e) ((2 + e) + mz b e (upb Γ0 Δ B :: cxs Δ Γ0 (tAll B Dm)) (upb Γ0 Δ Dm))
  omega
theorem trx_inLD {Δ : List Ty} {D : Ty} (z : OVh e B C Dm Γ0) (b : Bool) (tb : TB e (upb Γ0 Δ B :: cxs Δ Γ0 (tAll B C), upb Γ0 Δ C, D)) : trx (upb Γ0 Δ B :: cxs Δ Γ0 (tAll B C), upb Γ0 Δ C, D) ≤ mz b e (upb Γ0 Δ B :: cxs Δ Γ0 (tAll B Dm)) D := by
  have hc1 : okc (upb Γ0 Δ B :: cxs Δ Γ0 (tAll B C)) := tb.1.1
  obtain ⟨Kp, K, kC⟩ := z.2 Δ hc1.2
  have hcD := cxd_okc (B := B) (C := C) (Γ0 := Γ0) z.1.1 (upb Γ0 Δ B :: Δ) hc1
  have oD : ok (cxs (upb Γ0 Δ B :: Δ) Γ0 (tAll B Dm)).length D = true := by
    rw [cxs_ll (Γ0 := Γ0) (Δ := upb Γ0 Δ B :: Δ) (tAll B Dm) (tAll B C)]; exact tb.1.2.2
  by_cases h0 : hd D = 0
  · exact Nat.le_trans (Nat.le_of_eq (trf_top _ h0)) (Nat.zero_le _)
  · have a1 := (trfV K (twt (upb Γ0 Δ B :: cxs Δ Γ0 (tAll B C), upb Γ0 Δ C, D)) (upb Γ0 Δ B :: Δ) (upb Γ0 Δ C) D kC tb).2 h0
    have a1 : trx (upb Γ0 Δ B :: cxs Δ Γ0 (tAll B C), upb Γ0 Δ C, D) + e ≤ chn (cl (cxs (upb Γ0 Δ B :: Δ) Γ0 (tAll B C))) (upb Γ0 Δ C) + pmz (qu e) false (oq (qu e) (cxs (upb Γ0 Δ B :: Δ) Γ0 (tAll B Dm))) D := a1
    have a2 : chn (cl (cxs (upb Γ0 Δ B :: Δ) Γ0 (tAll B C))) (upb Γ0 Δ C) ≤ e := chn_le tb.1.1 tb.2.1 tb.1.2.1
    have a3 := pmz_mz (e := e) (b := b) hcD oD false
    have a3 : pmz (qu e) false (oq (qu e) (cxs (upb Γ0 Δ B :: Δ) Γ0 (tAll B Dm))) D ≤ mz b e (upb Γ0 Δ B :: cxs Δ Γ0 (tAll B Dm)) D := a3
    omega
theorem trx_inRD {Δ : List Ty} {D : Ty} (z : OVh e B C Dm Γ0) (b : Bool) (tb : TB e (upb Γ0 Δ B :: cxs Δ Γ0 (tAll B C), D, upb Γ0 Δ C)) : trx (upb Γ0 Δ B :: cxs Δ Γ0 (tAll B C), D, upb Γ0 Δ C) ≤ mz b e (upb Γ0 Δ B :: cxs Δ Γ0 (tAll B Dm)) D := by
  have hc1 : okc (upb Γ0 Δ B :: cxs Δ Γ0 (tAll B C)) := tb.1.1
  obtain ⟨Kp, K, kC⟩ := z.2 Δ hc1.2
  have hcD := cxd_okc (B := B) (C := C) (Γ0 := Γ0) z.1.1 (upb Γ0 Δ B :: Δ) hc1
  have oD : ok (cxs (upb Γ0 Δ B :: Δ) Γ0 (tAll B Dm)).length D = true := by
    rw [cxs_ll (Γ0 := Γ0) (Δ := upb Γ0 Δ B :: Δ) (tAll B Dm) (tAll B C)]; exact tb.1.2.1
  have a1 := (trfV K (twt (upb Γ0 Δ B :: cxs Δ Γ0 (tAll B C), D, upb Γ0 Δ C)) (upb Γ0 Δ B :: Δ) (upb Γ0 Δ C) D kC (TB_sw tb)).1
  exact Nat.le_trans a1 (pmz_mz (e := e) (b := b) hcD oD true)
theorem gm_inLD {w : Nat} {Δ : List Ty} {D : Ty} (z : OVh e B C Dm Γ0) (e1 : 1 ≤ e) (w1 : w ≤ 1) (tb : TB e (upb Γ0 Δ B :: cxs Δ Γ0 (tAll B C), upb Γ0 Δ C, D)) : gm (w, upb Γ0 Δ B :: cxs Δ Γ0 (tAll B C), upb Γ0 Δ C, D) ≤ mz false e (upb Γ0 Δ B :: cxs Δ Γ0 (tAll B Dm)) D := by
  have hc1 : okc (upb Γ0 Δ B :: cxs Δ Γ0 (tAll B C)) := tb.1.1
  obtain ⟨Kp, K, kC⟩ := z.2 Δ hc1.2
  have hcD := cxd_okc (B := B) (C := C) (Γ0 := Γ0) z.1.1 (upb Γ0 Δ B :: Δ) hc1
  have oD : ok (cxs (upb Γ0 Δ B :: Δ) Γ0 (tAll B Dm)).length D = true := by
    rw [cxs_ll (Γ0 := Γ0) (Δ := upb Γ0 Δ B :: Δ) (tAll B Dm) (tAll B C)]; exact tb.1.2.2
  have a1 := Nat.le_trans (gmV_T K e1 (twt (upb Γ0 Δ B :: cxs Δ Γ0 (tAll B C), upb Γ0 Δ C, D)) w (upb Γ0 Δ B :: Δ) (upb Γ0 Δ C) D w1 kC tb) (UT_le K e1 tb)
  exact Nat.le_trans a1 (urm_nz (b := false) (e := e) (w := w) hcD oD)
theorem gm_inRD {w : Nat} {Δ : List Ty} {D : Ty} (z : OVh e B C Dm Γ0) (e1 : 1 ≤ e) (w1 : w ≤ 1) (tb : TB e (upb Γ0 Δ B :: cxs Δ Γ0 (tAll B C), D, upb Γ0 Δ C)) : gm (w, upb Γ0 Δ B :: cxs Δ Γ0 (tAll B C), D, upb Γ0 Δ C) ≤ mz true e (upb Γ0 Δ B :: cxs Δ Γ0 (tAll B Dm)) D := by
  have hc1 : okc (upb Γ0 Δ B :: cxs Δ Γ0 (tAll B C)) := tb.1.1
  obtain ⟨Kp, K, kC⟩ := z.2 Δ hc1.2
  have hcD := cxd_okc (B := B) (C := C) (Γ0 := Γ0) z.1.1 (upb Γ0 Δ B :: Δ) hc1
  have oD : ok (cxs (upb Γ0 Δ B :: Δ) Γ0 (tAll B Dm)).length D = true := by
    rw [cxs_ll (Γ0 := Γ0) (Δ := upb Γ0 Δ B :: Δ) (tAll B Dm) (tAll B C)]; exact tb.1.2.1
  have a1 := Nat.le_trans (gmV_S K e1 (twt (upb Γ0 Δ B :: cxs Δ Γ0 (tAll B C), D, upb Γ0 Δ C)) w (upb Γ0 Δ B :: Δ) D (upb Γ0 Δ C) w1 kC tb) (UQ_le K e1 tb)
  exact Nat.le_trans a1 (urm_nz (b := true) (e := e) (w := w) hcD oD)
end PmU6
section PmU7
variable {e : Nat} {Γ0 : List Ty} {B C Dm : Ty}
/-- the scheme, exposed on the left -/
theorem trf_upLD {Δ : List Ty} {T : Ty} (z : OVh e B C Dm Γ0) (b : Bool) (f : Nat) (tb : TB e (cxs Δ Γ0 (tAll B C), upb Γ0 Δ (tAll B C), T)) (hf : twt (cxs Δ Γ0 (tAll B C), upb Γ0 Δ (tAll B C), T) ≤ f) : trf f (cxs Δ Γ0 (tAll B C), upb Γ0 Δ (tAll B C), T) ≤ mz b e (cxs Δ Γ0 (tAll B Dm)) T := by
  rw [← trx_big tb.1 hf, trx_big tb.1 (F := twt (cxs Δ Γ0 (tAll B C), upb Γ0 Δ (tAll B C), T) + 1) (by omega)]
  have h2 : hd (upb Γ0 Δ (tAll B C)) = 2 := by rw [upb_all, hd_all]
  rcases stp_cases tb.1 with e1 | ⟨e1, r1⟩ | ⟨k, hk, eS, hT0, e1, r1⟩ | ⟨m, x, y, w, m', x', y', w', hm, hm', eS, eT, e1, r1⟩ | ⟨a, c, a', c', eS, eT, e1, r1⟩ | ⟨a, c, c', eS, eT, e1, r1⟩
  · unfold trf
    simp only [e1]
    exact Nat.zero_le _
  · unfold trf
    simp only [e1]
    show rst _ T + 0 ≤ _
    omega
  · rw [eS, hd_var] at h2; omega
  · rw [eS, hd_rec] at h2; omega
  · rw [eS, hd_fun] at h2; omega
  · have eS' := eS
    rw [upb_all] at eS'
    injection eS' with _ eS'
    injection eS' with ea ec
    subst eT ea ec
    have t2 : TB e (upb Γ0 Δ B :: cxs Δ Γ0 (tAll B C), upb Γ0 Δ C, c') := by
      have tb' := tb
      rw [upb_all] at tb'
      exact TB_all tb'
    have et : trf (twt (cxs Δ Γ0 (tAll B C), upb Γ0 Δ (tAll B C), tAll (upb Γ0 Δ B) c') + 1) (cxs Δ Γ0 (tAll B C), upb Γ0 Δ (tAll B C), tAll (upb Γ0 Δ B) c') = 1 + (trf (twt (cxs Δ Γ0 (tAll B C), upb Γ0 Δ (tAll B C), tAll (upb Γ0 Δ B) c')) (upb Γ0 Δ B :: cxs Δ Γ0 (tAll B C), upb Γ0 Δ C, c') + 0) := by
      rw [trf]
      simp only [e1]
      rw [r1]
      rfl
    have tw := (stp_w tb.1 e1).1
    have tw : twt (upb Γ0 Δ B :: cxs Δ Γ0 (tAll B C), upb Γ0 Δ C, c') + 0 + 1 ≤ twt (cxs Δ Γ0 (tAll B C), upb Γ0 Δ (tAll B C), tAll (upb Γ0 Δ B) c') := tw
    rw [et, ← trx_big t2.1 (by omega), mz_all]
    have q := trx_inLD z b t2
    omega
/-- the scheme, exposed on the right, against what is not below it -/
theorem trf_upRD {Δ : List Ty} (z : OVh e B C Dm Γ0) (b : Bool) : ∀ (f : Nat) (T : Ty), TB e (cxs Δ Γ0 (tAll B C), T, upb Γ0 Δ (tAll B C)) → twt (cxs Δ Γ0 (tAll B C), T, upb Γ0 Δ (tAll B C)) ≤ f → bel (cxs Δ Γ0 (tAll B C)) T (tVar Γ0.length) = false → trf f (cxs Δ Γ0 (tAll B C), T, upb Γ0 Δ (tAll B C)) ≤ mz b e (cxs Δ Γ0 (tAll B Dm)) T
  | 0, T, tb, hf, _ => by have := twt_two tb.1; omega
  | f + 1, T, tb, hf, nb => by
    have h2 : hd (upb Γ0 Δ (tAll B C)) = 2 := by rw [upb_all, hd_all]
    have hc : okc (cxs Δ Γ0 (tAll B C)) := tb.1.1
    have oT : ok (cxs Δ Γ0 (tAll B C)).length T = true := tb.1.2.1
    have kl := SGc.k_lt (Γ0 := Γ0) (Δ := Δ) (tAll B C)
    rcases stp_cases tb.1 with e1 | ⟨e1, r1⟩ | ⟨k, hk, eS, hT0, e1, r1⟩ | ⟨m, x, y, w, m', x', y', w', hm, hm', eS, eT, e1, r1⟩ | ⟨a, c, a', c', eS, eT, e1, r1⟩ | ⟨a, c, c', eS, eT, e1, r1⟩
    · unfold trf
      simp only [e1]
      exact Nat.zero_le _
    · unfold trf
      simp only [e1]
      show rst T _ + 0 ≤ _
      omega
    · subst eS
      have oA : ok (cxs Δ Γ0 (tAll B C)).length (tVar Γ0.length) = true := by rw [ok_var]; simpa using kl
      by_cases ne : k = Γ0.length
      · subst ne
        rw [bel_refl _ _ _ (Nat.le_refl _) hc oA] at nb
        cases nb
      · have nb' := nb
        have bv := bel_var (Γ := cxs Δ Γ0 (tAll B C)) (T := tVar Γ0.length) (k := k) (show tok (cxs Δ Γ0 (tAll B C), tVar k, tVar Γ0.length) from ⟨hc, oT, oA⟩) (by rw [hd_var]; omega) (by rw [hd_var]; omega)
        rw [bv] at nb'
        obtain ⟨c1, c2, c3⟩ := cl_expose hc tb.2.1 hk
        have t1 : TB e (cxs Δ Γ0 (tAll B C), lft k ((cxs Δ Γ0 (tAll B C)).length - k) (bnd (cxs Δ Γ0 (tAll B C)) k), upb Γ0 Δ (tAll B C)) := ⟨⟨hc, ok_expose hc hk, tb.1.2.2⟩, tb.2.1, c2, tb.2.2.2⟩
        have tw := (stp_w tb.1 e1).1
        have tw : twt (cxs Δ Γ0 (tAll B C), lft k ((cxs Δ Γ0 (tAll B C)).length - k) (bnd (cxs Δ Γ0 (tAll B C)) k), upb Γ0 Δ (tAll B C)) + 0 + 1 ≤ twt (cxs Δ Γ0 (tAll B C), tVar k, upb Γ0 Δ (tAll B C)) := tw
        have q := trf_upRD z b f _ t1 (by omega) nb'
        have et : trf (f + 1) (cxs Δ Γ0 (tAll B C), tVar k, upb Γ0 Δ (tAll B C)) = 1 + (trf f (cxs Δ Γ0 (tAll B C), lft k ((cxs Δ Γ0 (tAll B C)).length - k) (bnd (cxs Δ Γ0 (tAll B C)) k), upb Γ0 Δ (tAll B C)) + 0) := by
          rw [trf]
          simp only [e1]
          rw [r1]
          rfl
        rw [et, mz_othD z hc hk ne]
        have v := vlr_up (b := b) (e := e) (mz b e (cxs Δ Γ0 (tAll B Dm)) (lft k ((cxs Δ Γ0 (tAll B C)).length - k) (bnd (cxs Δ Γ0 (tAll B C)) k)))
        omega
    · rw [eT, hd_rec] at h2; omega
    · rw [eT, hd_fun] at h2; omega
    · have eT' := eT
      rw [upb_all] at eT'
      injection eT' with _ eT'
      injection eT' with ea ec
      subst eS ea ec
      have t2 : TB e (upb Γ0 Δ B :: cxs Δ Γ0 (tAll B C), c, upb Γ0 Δ C) := by
        have tb' := tb
        rw [upb_all] at tb'
        exact TB_all tb'
      have et : trf (f + 1) (cxs Δ Γ0 (tAll B C), tAll (upb Γ0 Δ B) c, upb Γ0 Δ (tAll B C)) = 1 + (trf f (upb Γ0 Δ B :: cxs Δ Γ0 (tAll B C), c, upb Γ0 Δ C) + 0) := by
        rw [trf]
        simp only [e1]
        rw [r1]
        rfl
      have tw := (stp_w tb.1 e1).1
      have tw : twt (upb Γ0 Δ B :: cxs Δ Γ0 (tAll B C), c, upb Γ0 Δ C) + 0 + 1 ≤ twt (cxs Δ Γ0 (tAll B C), tAll (upb Γ0 Δ B) c, upb Γ0 Δ (tAll B C)) := tw
      rw [et, ← trx_big t2.1 (by omega), mz_all]
      have q := trx_inRD z b t2
      omega
end PmU7
section PmU8
variable {e : Nat} {Γ0 : List Ty} {B C Dm : Ty}
theorem trf_opD (z : OVh e B C Dm Γ0) : ∀ (f : Nat) (b b' : Bool) (Δ : List Ty) (S T : Ty), TB e (cxs Δ Γ0 (tAll B C), S, T) → twt (cxs Δ Γ0 (tAll B C), S, T) ≤ f → trf f (cxs Δ Γ0 (tAll B C), S, T) ≤ mz b e (cxs Δ Γ0 (tAll B Dm)) S + mz b' e (cxs Δ Γ0 (tAll B Dm)) T
  | 0, _, _, _, _, _, tb, hf => by have := twt_two tb.1; omega
  | f + 1, b, b', Δ, S, T, tb, hf => by
    have hc : okc (cxs Δ Γ0 (tAll B C)) := tb.1.1
    have hS : ok (cxs Δ Γ0 (tAll B C)).length S = true := tb.1.2.1
    have hT : ok (cxs Δ Γ0 (tAll B C)).length T = true := tb.1.2.2
    have bS : cbd e (cl (cxs Δ Γ0 (tAll B C))) S := tb.2.2.1
    have bT : cbd e (cl (cxs Δ Γ0 (tAll B C))) T := tb.2.2.2
    rcases stp_cases tb.1 with e1 | ⟨e1, r1⟩ | ⟨k, hk, rfl, hT0, e1, r1⟩ | ⟨m, x, y, w, m', x', y', w', hm, hm', rfl, rfl, e1, r1⟩ | ⟨a, c, a', c', rfl, rfl, e1, r1⟩ | ⟨a, c, c', rfl, rfl, e1, r1⟩
    · unfold trf
      simp only [e1]
      exact Nat.zero_le _
    · unfold trf
      simp only [e1]
      show rst S T + 0 ≤ _
      omega
    · obtain ⟨c1, c2, c3⟩ := cl_expose hc tb.2.1 hk
      have t1 : TB e (cxs Δ Γ0 (tAll B C), lft k ((cxs Δ Γ0 (tAll B C)).length - k) (bnd (cxs Δ Γ0 (tAll B C)) k), T) := ⟨⟨hc, ok_expose hc hk, hT⟩, tb.2.1, c2, bT⟩
      have tw := (stp_w tb.1 e1).1
      have tw : twt (cxs Δ Γ0 (tAll B C), lft k ((cxs Δ Γ0 (tAll B C)).length - k) (bnd (cxs Δ Γ0 (tAll B C)) k), T) + 0 + 1 ≤ twt (cxs Δ Γ0 (tAll B C), tVar k, T) := tw
      have et : trf (f + 1) (cxs Δ Γ0 (tAll B C), tVar k, T) = 1 + (trf f (cxs Δ Γ0 (tAll B C), lft k ((cxs Δ Γ0 (tAll B C)).length - k) (bnd (cxs Δ Γ0 (tAll B C)) k), T) + 0) := by
        rw [trf]
        simp only [e1]
        rw [r1]
        rfl
      rw [et]
      by_cases ne : k = Γ0.length
      · subst ne
        have q0 := mz_ownD b z hc
        rw [cxs_up] at t1 tw ⊢
        have q := trf_upLD z b' f t1 (by omega)
        omega
      · rw [mz_othD z hc hk ne]
        have q := trf_opD z f b b' Δ _ T t1 (by omega)
        have v := vlr_up (b := b) (e := e) (mz b e (cxs Δ Γ0 (tAll B Dm)) (lft k ((cxs Δ Γ0 (tAll B C)).length - k) (bnd (cxs Δ Γ0 (tAll B C)) k)))
        omega
    · have oS := (ok_rec hm).mp hS
      have oT := (ok_rec hm').mp hT
      have dS := (cbd_rec _ _ _ _).mp bS
      have dT := (cbd_rec _ _ _ _).mp bT
      have tw := (stp_w tb.1 e1).1
      rw [tws_app, tws_app] at tw
      have hsub : ∀ g, g < 3 → bit m' g = true → bit m g = true := by
        by_cases n6 : m &&& m' = m'
        · have := (sub_bits m hm m' hm').mp n6
          intro g hg
          rcases (show g = 0 ∨ g = 1 ∨ g = 2 by omega) with rfl | rfl | rfl
          · exact this.1
          · exact this.2.1
          · exact this.2.2
        · exfalso
          have n3 : 8 ≤ hd (tRec m x y w) ∧ 8 ≤ hd (tRec m' x' y' w') ∧ hd (tRec m' x' y' w') < 16 := by rw [hd_rec, hd_rec]; omega
          have en : stp (cxs Δ Γ0 (tAll B C)) (tRec m x y w) (tRec m' x' y' w') = none := by
            unfold stp
            rw [if_neg (by rw [hd_rec, hd_rec]; omega), if_neg (by rw [hd_rec]; omega), if_pos n3, hd_rec, hd_rec, show 8 + m - 8 = m by omega, show 8 + m' - 8 = m' by omega, if_neg n6]
          rw [en] at e1
          cases e1
      have key : ∀ (g : Nat) (p p' : Ty), g < 3 → okl (cxs Δ Γ0 (tAll B C)).length m g p → okl (cxs Δ Γ0 (tAll B C)).length m' g p' → cbd e (cl (cxs Δ Γ0 (tAll B C))) p → cbd e (cl (cxs Δ Γ0 (tAll B C))) p' → tws (stl (cxs Δ Γ0 (tAll B C)) m' g p p') ≤ f → sumt (trf f) (stl (cxs Δ Γ0 (tAll B C)) m' g p p') ≤ mz b e (cxs Δ Γ0 (tAll B Dm)) p + mz b' e (cxs Δ Γ0 (tAll B Dm)) p' := by
        intro g p p' hg hp hp' bp bp' hw
        unfold stl at hw ⊢
        by_cases hb1 : bit m' g = true
        · rw [if_pos hb1] at hw ⊢
          have hw : twt (cxs Δ Γ0 (tAll B C), p, p') + 0 ≤ f := hw
          exact trf_opD z f b b' Δ p p' ⟨⟨hc, okl_on hp (bit_iff.mp (hsub g hg hb1)), okl_on hp' (bit_iff.mp hb1)⟩, tb.2.1, bp, bp'⟩ (by omega)
        · rw [if_neg hb1]
          exact Nat.zero_le _
      have k0 := key 0 x x' (by decide) oS.1 oT.1 dS.1 dT.1 (by omega)
      have k1 := key 1 y y' (by decide) oS.2.1 oT.2.1 dS.2.1 dT.2.1 (by omega)
      have k2 := key 2 w w' (by decide) oS.2.2 oT.2.2 dS.2.2 dT.2.2 (by omega)
      have et : trf (f + 1) (cxs Δ Γ0 (tAll B C), tRec m x y w, tRec m' x' y' w') = sumt (trf f) (stl (cxs Δ Γ0 (tAll B C)) m' 2 w w') + (sumt (trf f) (stl (cxs Δ Γ0 (tAll B C)) m' 1 y y') + sumt (trf f) (stl (cxs Δ Γ0 (tAll B C)) m' 0 x x')) := by
        rw [trf]
        simp only [e1]
        rw [r1, sumt_app, sumt_app]
        omega
      rw [et, mz_rec, mz_rec]
      omega
    · have oS := ok_fun.mp hS
      have oT := ok_fun.mp hT
      have dS := (cbd_fun _ _ _).mp bS
      have dT := (cbd_fun _ _ _).mp bT
      have tw := (stp_w tb.1 e1).1
      have tw : twt (cxs Δ Γ0 (tAll B C), c, c') + (twt (cxs Δ Γ0 (tAll B C), a', a) + 0) + 1 ≤ twt (cxs Δ Γ0 (tAll B C), tFun a c, tFun a' c') := tw
      have i1 := trf_opD z f b b' Δ c c' ⟨⟨hc, oS.2, oT.2⟩, tb.2.1, dS.2, dT.2⟩ (by omega)
      have j1 := trf_opD z f b' b Δ a' a ⟨⟨hc, oT.1, oS.1⟩, tb.2.1, dT.1, dS.1⟩ (by omega)
      have et : trf (f + 1) (cxs Δ Γ0 (tAll B C), tFun a c, tFun a' c') = trf f (cxs Δ Γ0 (tAll B C), c, c') + (trf f (cxs Δ Γ0 (tAll B C), a', a) + 0) := by
        rw [trf]
        simp only [e1]
        rw [r1]
        show 0 + (trf f (cxs Δ Γ0 (tAll B C), c, c') + (trf f (cxs Δ Γ0 (tAll B C), a', a) + 0)) = _
        omega
      rw [et, mz_fun, mz_fun]
      omega
    · have t2 := TB_all tb
      have tw := (stp_w tb.1 e1).1
      have tw : twt (a :: cxs Δ Γ0 (tAll B C), c, c') + 0 + 1 ≤ twt (cxs Δ Γ0 (tAll B C), tAll a c, tAll a c') := tw
      have i1 := trf_opD z f b b' (a :: Δ) c c' t2 (by show twt (a :: cxs Δ Γ0 (tAll B C), c, c') ≤ f; omega)
      have i1 : trf f (a :: cxs Δ Γ0 (tAll B C), c, c') ≤ mz b e (a :: cxs Δ Γ0 (tAll B Dm)) c + mz b' e (a :: cxs Δ Γ0 (tAll B Dm)) c' := i1
      have et : trf (f + 1) (cxs Δ Γ0 (tAll B C), tAll a c, tAll a c') = 1 + (trf f (a :: cxs Δ Γ0 (tAll B C), c, c') + 0) := by
        rw [trf]
        simp only [e1]
        rw [r1]
        rfl
      rw [et, mz_all, mz_all]
      omega
/-- rows of a comparison -/
theorem trx_opD (z : OVh e B C Dm Γ0) (b b' : Bool) {Δ : List Ty} {S T : Ty} (tb : TB e (cxs Δ Γ0 (tAll B C), S, T)) : trx (cxs Δ Γ0 (tAll B C), S, T) ≤ mz b e (cxs Δ Γ0 (tAll B Dm)) S + mz b' e (cxs Δ Γ0 (tAll B Dm)) T := trf_opD z _ b b' Δ S T tb (Nat.le_refl _)
theorem tru_opD (z : OVh e B C Dm Γ0) (b b' : Bool) {Δ : List Ty} {S T : Ty} (tb : TB e (cxs Δ Γ0 (tAll B C), S, T)) : tru (cxs Δ Γ0 (tAll B C), S, T) ≤ mz b e (cxs Δ Γ0 (tAll B Dm)) S + mz b' e (cxs Δ Γ0 (tAll B Dm)) T := by
  have q1 := trx_opD z b b' tb
  have q2 := trx_opD z b' b (TB_swap tb)
  show max (trx (cxs Δ Γ0 (tAll B C), S, T)) (trx (cxs Δ Γ0 (tAll B C), T, S)) ≤ _
  omega
end PmU8
section PmU9
variable {e w : Nat} {Γ0 Δ : List Ty} {B C Dm : Ty}
/-- the scheme, exposed on the left, against what is not below it -/
theorem gmf_upLD (z : OVh e B C Dm Γ0) (e1 : 1 ≤ e) (w1 : w ≤ 1) : ∀ (f : Nat) (T : Ty), TB e (cxs Δ Γ0 (tAll B C), upb Γ0 Δ (tAll B C), T) → bel (cxs Δ Γ0 (tAll B C)) T (tVar Γ0.length) = false → gmf f (w, cxs Δ Γ0 (tAll B C), upb Γ0 Δ (tAll B C), T) ≤ mz false e (cxs Δ Γ0 (tAll B Dm)) T
  | 0, _, _, _ => Nat.zero_le _
  | f + 1, T, tb, nb => by
    have w2 : w ≠ 2 := by omega
    have tk : tok (cxs Δ Γ0 (tAll B C), upb Γ0 Δ (tAll B C), T) := tb.1
    have hc : okc (cxs Δ Γ0 (tAll B C)) := tk.1
    have hS : ok (cxs Δ Γ0 (tAll B C)).length (upb Γ0 Δ (tAll B C)) = true := tk.2.1
    have hT : ok (cxs Δ Γ0 (tAll B C)).length T = true := tk.2.2
    have hTz : ok (cxs Δ Γ0 (tAll B Dm)).length T = true := by rw [cxs_ll (tAll B Dm) (tAll B C)]; exact hT
    have kl := SGc.k_lt (Γ0 := Γ0) (Δ := Δ) (tAll B C)
    have h2 : hd (upb Γ0 Δ (tAll B C)) = 2 := by rw [upb_all, hd_all]
    have u1 : trx (cxs Δ Γ0 (tAll B C), upb Γ0 Δ (tAll B C), T) ≤ mz false e (cxs Δ Γ0 (tAll B Dm)) T := trf_upLD z false _ tb (Nat.le_refl _)
    have u2 : trx (cxs Δ Γ0 (tAll B C), T, upb Γ0 Δ (tAll B C)) ≤ mz false e (cxs Δ Γ0 (tAll B Dm)) T := trf_upRD z false _ T (TB_swap tb) (Nat.le_refl _) nb
    have tu : tru (cxs Δ Γ0 (tAll B C), upb Γ0 Δ (tAll B C), T) ≤ mz false e (cxs Δ Γ0 (tAll B Dm)) T := by
      show max (trx _) (trx (cxs Δ Γ0 (tAll B C), T, upb Γ0 Δ (tAll B C))) ≤ _
      omega
    suffices hh : gro (w, cxs Δ Γ0 (tAll B C), upb Γ0 Δ (tAll B C), T) + sgl (gmf f) (gcs (w, cxs Δ Γ0 (tAll B C), upb Γ0 Δ (tAll B C), T)) ≤ mz false e (cxs Δ Γ0 (tAll B Dm)) T by
      rw [gmf_succ f w2]
      omega
    by_cases bl : bel (cxs Δ Γ0 (tAll B C)) (upb Γ0 Δ (tAll B C)) T = true ∨ bel (cxs Δ Γ0 (tAll B C)) T (upb Γ0 Δ (tAll B C)) = true
    · rw [gcs_of_bel bl, gro_bel bl]; exact Nat.zero_le _
    have h1 : hd T ≠ 0 := fun e => bl (Or.inl (bel_top tk e))
    have one := mz_one (b := false) (e := e) (cxd_okc (B := B) (C := C) z.1.1 Δ hc) hTz h1
    have kids := tb.gcs w2 (by omega)
    rcases gcs_cases (w := w) tk w2 with ⟨g1, g2, g3⟩ | ⟨q1, k, hk, eS, g1, g2, g3⟩ | ⟨q1, n1, k, hk, rfl, g1, g2, g3⟩ | ⟨m, X0, X1, X2, m', Y0, Y1, Y2, hm, hm', eS, eT, g1, g2, g3⟩ | ⟨A, D, A', D', eS, eT, g1, g2, g3⟩ | ⟨A, D, D', eS, eT, g1, g2, g3⟩
    · rw [g1]
      show gro _ + 0 ≤ _
      omega
    · rw [eS, hd_var] at h2; omega
    · have t1 := (kids _ (by rw [g1]; exact List.mem_cons_self ..)).1
      have t1 : TB e (cxs Δ Γ0 (tAll B C), upb Γ0 Δ (tAll B C), lft k ((cxs Δ Γ0 (tAll B C)).length - k) (bnd (cxs Δ Γ0 (tAll B C)) k)) := t1
      have oA : ok (cxs Δ Γ0 (tAll B C)).length (tVar Γ0.length) = true := by rw [ok_var]; simpa using kl
      by_cases ne : k = Γ0.length
      · subst ne
        rw [bel_refl _ _ _ (Nat.le_refl _) hc oA] at nb
        cases nb
      · have bv := bel_var (Γ := cxs Δ Γ0 (tAll B C)) (T := tVar Γ0.length) (k := k) (show tok (cxs Δ Γ0 (tAll B C), tVar k, tVar Γ0.length) from ⟨hc, hT, oA⟩) (by rw [hd_var]; omega) (by rw [hd_var]; omega)
        rw [bv] at nb
        have q := gmf_upLD z e1 w1 f _ t1 nb
        rw [g1, g2, mz_othD z hc hk ne]
        have v := vlr_up (b := false) (e := e) (mz false e (cxs Δ Γ0 (tAll B Dm)) (lft k ((cxs Δ Γ0 (tAll B C)).length - k) (bnd (cxs Δ Γ0 (tAll B C)) k)))
        show 1 + (gmf f (w, cxs Δ Γ0 (tAll B C), upb Γ0 Δ (tAll B C), lft k ((cxs Δ Γ0 (tAll B C)).length - k) (bnd (cxs Δ Γ0 (tAll B C)) k)) + 0) ≤ _
        omega
    · rw [eS, hd_rec] at h2; omega
    · rw [eS, hd_fun] at h2; omega
    · have eS' := eS
      rw [upb_all] at eS'
      injection eS' with _ eS'
      injection eS' with ea ec
      subst eT ea ec
      have t2 : TB e (upb Γ0 Δ B :: cxs Δ Γ0 (tAll B C), upb Γ0 Δ C, D') := by
        have tb' := tb
        rw [upb_all] at tb'
        exact TB_all tb'
      have q := Nat.le_trans (gmf_gm (z := (w, upb Γ0 Δ B :: cxs Δ Γ0 (tAll B C), upb Γ0 Δ C, D')) t2.1 f) (gm_inLD z e1 w1 t2)
      rw [g1, g2, mz_all]
      show 2 + (gmf f (w, upb Γ0 Δ B :: cxs Δ Γ0 (tAll B C), upb Γ0 Δ C, D') + 0) ≤ _
      omega
/-- the scheme, exposed on the right, against what is no variable and not below it -/
theorem gmf_upRD (z : OVh e B C Dm Γ0) (e1 : 1 ≤ e) (w1 : w ≤ 1) (f : Nat) (S : Ty) (tb : TB e (cxs Δ Γ0 (tAll B C), S, upb Γ0 Δ (tAll B C))) (nv : ¬ 16 ≤ hd S) (nb : bel (cxs Δ Γ0 (tAll B C)) S (tVar Γ0.length) = false) : gmf f (w, cxs Δ Γ0 (tAll B C), S, upb Γ0 Δ (tAll B C)) ≤ mz true e (cxs Δ Γ0 (tAll B Dm)) S := by
  cases f with
  | zero => exact Nat.zero_le _
  | succ f =>
    have w2 : w ≠ 2 := by omega
    have tk : tok (cxs Δ Γ0 (tAll B C), S, upb Γ0 Δ (tAll B C)) := tb.1
    have hc : okc (cxs Δ Γ0 (tAll B C)) := tk.1
    have hS : ok (cxs Δ Γ0 (tAll B C)).length S = true := tk.2.1
    have hSz : ok (cxs Δ Γ0 (tAll B Dm)).length S = true := by rw [cxs_ll (tAll B Dm) (tAll B C)]; exact hS
    have hT : ok (cxs Δ Γ0 (tAll B C)).length (upb Γ0 Δ (tAll B C)) = true := tk.2.2
    have h2 : hd (upb Γ0 Δ (tAll B C)) = 2 := by rw [upb_all, hd_all]
    have u1 : trx (cxs Δ Γ0 (tAll B C), upb Γ0 Δ (tAll B C), S) ≤ mz true e (cxs Δ Γ0 (tAll B Dm)) S := trf_upLD z true _ (TB_swap tb) (Nat.le_refl _)
    have u2 : trx (cxs Δ Γ0 (tAll B C), S, upb Γ0 Δ (tAll B C)) ≤ mz true e (cxs Δ Γ0 (tAll B Dm)) S := trf_upRD z true _ S tb (Nat.le_refl _) nb
    have tu : tru (cxs Δ Γ0 (tAll B C), S, upb Γ0 Δ (tAll B C)) ≤ mz true e (cxs Δ Γ0 (tAll B Dm)) S := by
      show max (trx _) (trx (cxs Δ Γ0 (tAll B C), upb Γ0 Δ (tAll B C), S)) ≤ _
      omega
    suffices hh : gro (w, cxs Δ Γ0 (tAll B C), S, upb Γ0 Δ (tAll B C)) + sgl (gmf f) (gcs (w, cxs Δ Γ0 (tAll B C), S, upb Γ0 Δ (tAll B C))) ≤ mz true e (cxs Δ Γ0 (tAll B Dm)) S by
      rw [gmf_succ f w2]
      omega
    by_cases bl : bel (cxs Δ Γ0 (tAll B C)) S (upb Γ0 Δ (tAll B C)) = true ∨ bel (cxs Δ Γ0 (tAll B C)) (upb Γ0 Δ (tAll B C)) S = true
    · rw [gcs_of_bel bl, gro_bel bl]; exact Nat.zero_le _
    have h1 : hd S ≠ 0 := fun e => bl (Or.inr (bel_top ⟨hc, hT, hS⟩ e))
    have one := mz_one (b := true) (e := e) (cxd_okc (B := B) (C := C) z.1.1 Δ hc) hSz h1
    rcases gcs_cases (w := w) tk w2 with ⟨g1, g2, g3⟩ | ⟨q1, k, hk, rfl, g1, g2, g3⟩ | ⟨q1, n1, k, hk, eT, g1, g2, g3⟩ | ⟨m, X0, X1, X2, m', Y0, Y1, Y2, hm, hm', eS, eT, g1, g2, g3⟩ | ⟨A, D, A', D', eS, eT, g1, g2, g3⟩ | ⟨A, D, D', eS, eT, g1, g2, g3⟩
    · rw [g1]
      show gro _ + 0 ≤ _
      omega
    · rw [hd_var] at nv; omega
    · rw [eT, hd_var] at h2; omega
    · rw [eT, hd_rec] at h2; omega
    · rw [eT, hd_fun] at h2; omega
    · have eT' := eT
      rw [upb_all] at eT'
      injection eT' with _ eT'
      injection eT' with ea ec
      subst eS ea ec
      have t2 : TB e (upb Γ0 Δ B :: cxs Δ Γ0 (tAll B C), D, upb Γ0 Δ C) := by
        have tb' := tb
        rw [upb_all] at tb'
        exact TB_all tb'
      have q := Nat.le_trans (gmf_gm (z := (w, upb Γ0 Δ B :: cxs Δ Γ0 (tAll B C), D, upb Γ0 Δ C)) t2.1 f) (gm_inRD z e1 w1 t2)
      rw [g1, g2, mz_all]
      show 2 + (gmf f (w, upb Γ0 Δ B :: cxs Δ Γ0 (tAll B C), D, upb Γ0 Δ C) + 0) ≤ _
      omega
end PmU9
section PmUa
variable {e : Nat} {Γ0 : List Ty} {B C Dm : Ty}
theorem gmf_opD (z : OVh e B C Dm Γ0) (e1 : 1 ≤ e) : ∀ (f w : Nat) (Δ : List Ty) (S T : Ty), w ≤ 1 → TB e (cxs Δ Γ0 (tAll B C), S, T) → gmf f (w, cxs Δ Γ0 (tAll B C), S, T) ≤ mz true e (cxs Δ Γ0 (tAll B Dm)) S + mz false e (cxs Δ Γ0 (tAll B Dm)) T
  | 0, _, _, _, _, _, _ => Nat.zero_le _
  | f + 1, w, Δ, S, T, w1, tb => by
    have w2 : w ≠ 2 := by omega
    have tk : tok (cxs Δ Γ0 (tAll B C), S, T) := tb.1
    have hc : okc (cxs Δ Γ0 (tAll B C)) := tk.1
    have hS : ok (cxs Δ Γ0 (tAll B C)).length S = true := tk.2.1
    have hT : ok (cxs Δ Γ0 (tAll B C)).length T = true := tk.2.2
    have hSz : ok (cxs Δ Γ0 (tAll B Dm)).length S = true := by rw [cxs_ll (tAll B Dm) (tAll B C)]; exact hS
    have tu := tru_opD z true false tb
    have ih := gmf_opD z e1 f
    suffices hh : gro (w, cxs Δ Γ0 (tAll B C), S, T) + sgl (gmf f) (gcs (w, cxs Δ Γ0 (tAll B C), S, T)) ≤ mz true e (cxs Δ Γ0 (tAll B Dm)) S + mz false e (cxs Δ Γ0 (tAll B Dm)) T by
      rw [gmf_succ f w2]
      omega
    by_cases bl : bel (cxs Δ Γ0 (tAll B C)) S T = true ∨ bel (cxs Δ Γ0 (tAll B C)) T S = true
    · rw [gcs_of_bel bl, gro_bel bl]; exact Nat.zero_le _
    have h0 : hd S ≠ 0 := fun e => bl (Or.inr (bel_top ⟨hc, hT, hS⟩ e))
    have one := mz_one (b := true) (e := e) (cxd_okc (B := B) (C := C) z.1.1 Δ hc) hSz h0
    have kids := tb.gcs w2 (by omega)
    have bS : cbd e (cl (cxs Δ Γ0 (tAll B C))) S := tb.2.2.1
    have bT : cbd e (cl (cxs Δ Γ0 (tAll B C))) T := tb.2.2.2
    rcases gcs_cases (w := w) tk w2 with ⟨g1, g2, g3⟩ | ⟨q1, k, hk, rfl, g1, g2, g3⟩ | ⟨q1, n1, k, hk, rfl, g1, g2, g3⟩ | ⟨m, X0, X1, X2, m', Y0, Y1, Y2, hm, hm', rfl, rfl, g1, g2, g3⟩ | ⟨A, D, A', D', rfl, rfl, g1, g2, g3⟩ | ⟨A, D, D', rfl, rfl, g1, g2, g3⟩
    · rw [g1]
      show gro _ + 0 ≤ _
      omega
    · have t1 := (kids _ (by rw [g1]; exact List.mem_cons_self ..)).1
      have t1 : TB e (cxs Δ Γ0 (tAll B C), lft k ((cxs Δ Γ0 (tAll B C)).length - k) (bnd (cxs Δ Γ0 (tAll B C)) k), T) := t1
      rw [g1, g2]
      show 1 + (gmf f (w, cxs Δ Γ0 (tAll B C), lft k ((cxs Δ Γ0 (tAll B C)).length - k) (bnd (cxs Δ Γ0 (tAll B C)) k), T) + 0) ≤ _
      by_cases ne : k = Γ0.length
      · subst ne
        have nb : bel (cxs Δ Γ0 (tAll B C)) T (tVar Γ0.length) = false := by
          cases hq : bel (cxs Δ Γ0 (tAll B C)) T (tVar Γ0.length) with
          | false => rfl
          | true => exact absurd (Or.inr hq) bl
        have q0 := mz_ownD true z hc
        rw [cxs_up] at t1 ⊢
        have q := gmf_upLD z e1 w1 f T t1 nb
        omega
      · rw [mz_othD z hc hk ne]
        have q := ih w Δ _ T w1 t1
        have v := vlr_up (b := true) (e := e) (mz true e (cxs Δ Γ0 (tAll B Dm)) (lft k ((cxs Δ Γ0 (tAll B C)).length - k) (bnd (cxs Δ Γ0 (tAll B C)) k)))
        omega
    · have t1 := (kids _ (by rw [g1]; exact List.mem_cons_self ..)).1
      have t1 : TB e (cxs Δ Γ0 (tAll B C), S, lft k ((cxs Δ Γ0 (tAll B C)).length - k) (bnd (cxs Δ Γ0 (tAll B C)) k)) := t1
      rw [g1, g2]
      show 1 + (gmf f (w, cxs Δ Γ0 (tAll B C), S, lft k ((cxs Δ Γ0 (tAll B C)).length - k) (bnd (cxs Δ Γ0 (tAll B C)) k)) + 0) ≤ _
      by_cases ne : k = Γ0.length
      · subst ne
        have nb : bel (cxs Δ Γ0 (tAll B C)) S (tVar Γ0.length) = false := by
          cases hq : bel (cxs Δ Γ0 (tAll B C)) S (tVar Γ0.length) with
          | false => rfl
          | true => exact absurd (Or.inl hq) bl
        have q0 := mz_ownD false z hc
        rw [cxs_up] at t1 ⊢
        have q := gmf_upRD z e1 w1 f S t1 n1 nb
        omega
      · rw [mz_othD (b := false) z hc hk ne]
        have q := ih w Δ S _ w1 t1
        have v := vlr_up (b := false) (e := e) (mz false e (cxs Δ Γ0 (tAll B Dm)) (lft k ((cxs Δ Γ0 (tAll B C)).length - k) (bnd (cxs Δ Γ0 (tAll B C)) k)))
        omega
    · have oS := (ok_rec hm).mp hS
      have oT := (ok_rec hm').mp hT
      have dS := (cbd_rec _ _ _ _).mp bS
      have dT := (cbd_rec _ _ _ _).mp bT
      rw [g1, g2, sgl_app, sgl_app, mz_rec, mz_rec]
      have f2 : ∀ z : Gz, z.1 = 2 → gmf f z = 0 := fun z h => gmf_two f h
      have k0 := gzl_s (w := w) (f := gmf f) (g := mz true e (cxs Δ Γ0 (tAll B Dm))) (g' := mz false e (cxs Δ Γ0 (tAll B Dm))) (Γ := cxs Δ Γ0 (tAll B C)) (X := X0) (Y := Y0) hm hm' (show 0 < 3 by decide) w2 f2 (fun b1 b2 => ih w Δ X0 Y0 w1 ⟨⟨hc, okl_on oS.1 (bit_iff.mp b1), okl_on oT.1 (bit_iff.mp b2)⟩, tb.2.1, dS.1, dT.1⟩)
      have k1 := gzl_s (w := w) (f := gmf f) (g := mz true e (cxs Δ Γ0 (tAll B Dm))) (g' := mz false e (cxs Δ Γ0 (tAll B Dm))) (Γ := cxs Δ Γ0 (tAll B C)) (X := X1) (Y := Y1) hm hm' (show 1 < 3 by decide) w2 f2 (fun b1 b2 => ih w Δ X1 Y1 w1 ⟨⟨hc, okl_on oS.2.1 (bit_iff.mp b1), okl_on oT.2.1 (bit_iff.mp b2)⟩, tb.2.1, dS.2.1, dT.2.1⟩)
      have k2 := gzl_s (w := w) (f := gmf f) (g := mz true e (cxs Δ Γ0 (tAll B Dm))) (g' := mz false e (cxs Δ Γ0 (tAll B Dm))) (Γ := cxs Δ Γ0 (tAll B C)) (X := X2) (Y := Y2) hm hm' (show 2 < 3 by decide) w2 f2 (fun b1 b2 => ih w Δ X2 Y2 w1 ⟨⟨hc, okl_on oS.2.2 (bit_iff.mp b1), okl_on oT.2.2 (bit_iff.mp b2)⟩, tb.2.1, dS.2.2, dT.2.2⟩)
      omega
    · have oS := ok_fun.mp hS
      have oT := ok_fun.mp hT
      have dS := (cbd_fun _ _ _).mp bS
      have dT := (cbd_fun _ _ _).mp bT
      have p1 := ih (1 - w) Δ A A' (by omega) ⟨⟨hc, oS.1, oT.1⟩, tb.2.1, dS.1, dT.1⟩
      have p2 := ih w Δ D D' w1 ⟨⟨hc, oS.2, oT.2⟩, tb.2.1, dS.2, dT.2⟩
      rw [g1, g2, mz_fun, mz_fun]
      show 1 + (gmf f (1 - w, cxs Δ Γ0 (tAll B C), A, A') + (gmf f (w, cxs Δ Γ0 (tAll B C), D, D') + 0)) ≤ _
      omega
    · have p2 := ih w (A :: Δ) D D' w1 (TB_all tb)
      have p2 : gmf f (w, A :: cxs Δ Γ0 (tAll B C), D, D') ≤ mz true e (A :: cxs Δ Γ0 (tAll B Dm)) D + mz false e (A :: cxs Δ Γ0 (tAll B Dm)) D' := p2
      rw [g1, g2, mz_all, mz_all]
      show 2 + (gmf f (w, A :: cxs Δ Γ0 (tAll B C), D, D') + 0) ≤ _
      omega
/-- ROWS OF A JOIN, where no scheme inside the scheme has its bound's head: both sides together, the scheme being worth 3 + e -/
theorem gm_opD (z : OVh e B C Dm Γ0) (e1 : 1 ≤ e) {w : Nat} (w1 : w ≤ 1) {Δ : List Ty} {S T : Ty} (tb : TB e (cxs Δ Γ0 (tAll B C), S, T)) : gm (w, cxs Δ Γ0 (tAll B C), S, T) ≤ mz true e (cxs Δ Γ0 (tAll B Dm)) S + mz false e (cxs Δ Γ0 (tAll B Dm)) T := gmf_opD z e1 _ w Δ S T w1 tb
end PmUa
