/-! WHAT STANDS INSIDE A SCHEME OF THE CONTEXT AGAINST ANY TYPE: joins. -/
section PmU3
variable {e : Nat} {B C D : Ty} {Γ0 : List Ty} {Kp : List Ty → Ty → Prop}
/-- what is old against the scheme itself -/
theorem trfV_upR (K : KPc e B C D Γ0 Kp) : ∀ (f : Nat) (Δ : List Ty) (S : Ty), Kp Δ S → TB e (cxs Δ Γ0 (tAll B C), S, upb Γ0 Δ (tAll B C)) → trf f (cxs Δ Γ0 (tAll B C), S, upb Γ0 Δ (tAll B C)) ≤ chn (cl (cxs Δ Γ0 (tAll B C))) S + (1 + pmz (qu e) true (oq (qu e) (upb Γ0 Δ B :: cxs Δ Γ0 (tAll B D))) (upb Γ0 Δ D))
  | 0, _, _, _, _ => Nat.zero_le _
  | f + 1, Δ, S, kS, tb => by
    have hc : okc (cxs Δ Γ0 (tAll B C)) := tb.1.1
    have hb : cbc e (cxs Δ Γ0 (tAll B C)) := tb.2.1
    have h2 : hd (upb Γ0 Δ (tAll B C)) = 2 := by rw [upb_all, hd_all]
    rcases stp_cases tb.1 with e1 | ⟨e1, r1⟩ | ⟨k, hk, rfl, hT0, e1, r1⟩ | ⟨m, x, y, w, m', x', y', w', hm, hm', eS, eT, e1, r1⟩ | ⟨a, c, a', c', eS, eT, e1, r1⟩ | ⟨a, c, c', eS, eT, e1, r1⟩
    · unfold trf
      simp only [e1]
      exact Nat.zero_le _
    · unfold trf
      simp only [e1]
      show rst S _ + 0 ≤ _
      omega
    · obtain ⟨c1, c2, c3⟩ := cl_expose hc hb hk
      have i1 := trfV_upR K f Δ _ ((K.2 Δ _ kS).2.2.2.1 k rfl hk).2 ⟨⟨hc, ok_expose hc hk, tb.1.2.2⟩, hb, c2, tb.2.2.2⟩
      have et : trf (f + 1) (cxs Δ Γ0 (tAll B C), tVar k, upb Γ0 Δ (tAll B C)) = 1 + (trf f (cxs Δ Γ0 (tAll B C), lft k ((cxs Δ Γ0 (tAll B C)).length - k) (bnd (cxs Δ Γ0 (tAll B C)) k), upb Γ0 Δ (tAll B C)) + 0) := by
        rw [trf]
        simp only [e1]
        rw [r1]
        rfl
      rw [et, chn_var]
      omega
    · rw [eT, hd_rec] at h2; omega
    · rw [eT, hd_fun] at h2; omega
    · have eT' := eT
      rw [upb_all] at eT'
      injection eT' with _ eT'
      injection eT' with ea ec
      subst eS ea ec
      have t2 : TB e (upb Γ0 Δ B :: cxs Δ Γ0 (tAll B C), c, upb Γ0 Δ C) := by
        have tb' := tb
        rw [upb_all] at tb'
        exact TB_all tb'
      have et : trf (f + 1) (cxs Δ Γ0 (tAll B C), tAll (upb Γ0 Δ B) c, upb Γ0 Δ (tAll B C)) = 1 + (trf f (upb Γ0 Δ B :: cxs Δ Γ0 (tAll B C), c, upb Γ0 Δ C) + 0) := by
        rw [trf]
        simp only [e1]
        rw [r1]
        rfl
      have ev := ((K.2 Δ _ kS).2.2.2.2 c rfl t2).1
      have q := trf_trx t2.1 f
      rw [et]
      omega
theorem urm_D {b : Bool} {w : Nat} {Δ : List Ty} : urm b e w (cxs Δ Γ0 (tAll B D)) (upb Γ0 Δ (tAll B D)) = (2 + e) + urm b e w (upb Γ0 Δ B :: cxs Δ Γ0 (tAll B D)) (upb Γ0 Δ D) := by
  rw [upb_all]; exact mrz_all _ _ _ _
theorem okD (K : KPc e B C D Γ0 Kp) {Δ : List Ty} (hc : okc (cxs Δ Γ0 (tAll B C))) : okc (upb Γ0 Δ B :: cxs Δ Γ0 (tAll B D)) ∧ ok (upb Γ0 Δ B :: cxs Δ Γ0 (tAll B D)).length (upb Γ0 Δ D) = true := by
  have h1 := cxd_okc (B := B) (C := C) K.1.1 Δ hc
  have h2 := ok_expose h1 (SGc.k_lt (Γ0 := Γ0) (Δ := Δ) (tAll B D))
  rw [cxs_up, upb_all] at h2
  exact ⟨⟨(ok_all.mp h2).1, h1⟩, (ok_all.mp h2).2⟩
theorem D_big (K : KPc e B C D Γ0 Kp) (e1 : 1 ≤ e) {b : Bool} {Δ : List Ty} (hc : okc (cxs Δ Γ0 (tAll B C))) : pmz (qu e) true (oq (qu e) (upb Γ0 Δ B :: cxs Δ Γ0 (tAll B D))) (upb Γ0 Δ D) ≤ urm b e 0 (upb Γ0 Δ B :: cxs Δ Γ0 (tAll B D)) (upb Γ0 Δ D) := by
  obtain ⟨h1, h2⟩ := okD K hc
  exact (qu_rows (b := b) e1 (decide (0 = 0)) h1 h2).1.1
/-- the scheme itself on the right, joins -/
theorem gmV_upR (K : KPc e B C D Γ0 Kp) (e1 : 1 ≤ e) (f : Nat) {Δ : List Ty} {S : Ty} (kS : Kp Δ S) (nv : ¬ 16 ≤ hd S) (tb : TB e (cxs Δ Γ0 (tAll B C), S, upb Γ0 Δ (tAll B C))) : gmf f (0, cxs Δ Γ0 (tAll B C), S, upb Γ0 Δ (tAll B C)) ≤ 2 + urm false e 0 (upb Γ0 Δ B :: cxs Δ Γ0 (tAll B D)) (upb Γ0 Δ D) := by
  cases f with
  | zero => exact Nat.zero_le _
  | succ f =>
    have hc : okc (cxs Δ Γ0 (tAll B C)) := tb.1.1
    have h2 : hd (upb Γ0 Δ (tAll B C)) = 2 := by rw [upb_all, hd_all]
    have d1 := D_big K e1 (b := false) hc
    have u1 := trfV_upR K (twt (cxs Δ Γ0 (tAll B C), S, upb Γ0 Δ (tAll B C))) Δ S kS tb
    rw [chn_no nv] at u1
    have u2 := trfV_up K (twt (cxs Δ Γ0 (tAll B C), upb Γ0 Δ (tAll B C), S)) kS (TB_sw tb)
    have p1 : pmz (qu e) true (oq (qu e) (cxs Δ Γ0 (tAll B D))) (upb Γ0 Δ (tAll B D)) = 1 + pmz (qu e) true (oq (qu e) (upb Γ0 Δ B :: cxs Δ Γ0 (tAll B D))) (upb Γ0 Δ D) := by
      rw [upb_all]; exact pmz_all _ _ _
    rw [p1] at u2
    have tu : tru (cxs Δ Γ0 (tAll B C), S, upb Γ0 Δ (tAll B C)) ≤ 2 + urm false e 0 (upb Γ0 Δ B :: cxs Δ Γ0 (tAll B D)) (upb Γ0 Δ D) := by
      have u1' : trx (cxs Δ Γ0 (tAll B C), S, upb Γ0 Δ (tAll B C)) ≤ _ := u1
      have u2' : trx (cxs Δ Γ0 (tAll B C), upb Γ0 Δ (tAll B C), S) ≤ _ := u2
      refine Nat.max_le.mpr ⟨?_, ?_⟩
      · show trx (cxs Δ Γ0 (tAll B C), S, upb Γ0 Δ (tAll B C)) ≤ _
        omega
      · show trx (cxs Δ Γ0 (tAll B C), upb Γ0 Δ (tAll B C), S) ≤ _
        omega
    have hh : gro (0, cxs Δ Γ0 (tAll B C), S, upb Γ0 Δ (tAll B C)) + sgl (gmf f) (gcs (0, cxs Δ Γ0 (tAll B C), S, upb Γ0 Δ (tAll B C))) ≤ 2 + urm false e 0 (upb Γ0 Δ B :: cxs Δ Γ0 (tAll B D)) (upb Γ0 Δ D) := by
      rcases gcs_cases (w := 0) tb.1 (by decide) with ⟨g1, g2, g3⟩ | ⟨q1, k, hk, rfl, g1, g2, g3⟩ | ⟨q1, n1, k, hk, eT, g1, g2, g3⟩ | ⟨m, X0, X1, X2, m', Y0, Y1, Y2, hm, hm', eS, eT, g1, g2, g3⟩ | ⟨A, F, A', F', eS, eT, g1, g2, g3⟩ | ⟨A, F, F', eS, eT, g1, g2, g3⟩
      · rw [g1]
        show gro _ + 0 ≤ _
        omega
      · rw [hd_var] at nv; omega
      · rw [eT, hd_var] at h2; omega
      · rw [eT, hd_rec] at h2; omega
      · rw [eT, hd_fun] at h2; omega
      · have eT' := eT
        rw [upb_all] at eT'
        injection eT' with _ eT'
        injection eT' with ea ec
        subst eS ea ec
        have t2 : TB e (upb Γ0 Δ B :: cxs Δ Γ0 (tAll B C), F, upb Γ0 Δ C) := by
          have tb' := tb
          rw [upb_all] at tb'
          exact TB_all tb'
        have ev := ((K.2 Δ _ kS).2.2.2.2 F rfl t2).2.2.1
        have q := gmf_gm (z := (0, upb Γ0 Δ B :: cxs Δ Γ0 (tAll B C), F, upb Γ0 Δ C)) t2.1 f
        rw [g1, g2]
        show 2 + (gmf f (0, upb Γ0 Δ B :: cxs Δ Γ0 (tAll B C), F, upb Γ0 Δ C) + 0) ≤ _
        omega
    rw [gmf_succ f (by decide)]
    omega
/-- the scheme itself on the left, joins -/
theorem gmV_upL (K : KPc e B C D Γ0 Kp) (e1 : 1 ≤ e) : ∀ (f : Nat) (Δ : List Ty) (S : Ty), Kp Δ S → TB e (cxs Δ Γ0 (tAll B C), upb Γ0 Δ (tAll B C), S) → gmf f (0, cxs Δ Γ0 (tAll B C), upb Γ0 Δ (tAll B C), S) ≤ chn (cl (cxs Δ Γ0 (tAll B C))) S + (2 + urm true e 0 (upb Γ0 Δ B :: cxs Δ Γ0 (tAll B D)) (upb Γ0 Δ D))
  | 0, _, _, _, _ => Nat.zero_le _
  | f + 1, Δ, S, kS, tb => by
    have hc : okc (cxs Δ Γ0 (tAll B C)) := tb.1.1
    have hb : cbc e (cxs Δ Γ0 (tAll B C)) := tb.2.1
    have h2 : hd (upb Γ0 Δ (tAll B C)) = 2 := by rw [upb_all, hd_all]
    have d1 := D_big K e1 (b := true) hc
    have u1 := trfV_upR K (twt (cxs Δ Γ0 (tAll B C), S, upb Γ0 Δ (tAll B C))) Δ S kS (TB_sw tb)
    have u2 := trfV_up K (twt (cxs Δ Γ0 (tAll B C), upb Γ0 Δ (tAll B C), S)) kS tb
    have p1 : pmz (qu e) true (oq (qu e) (cxs Δ Γ0 (tAll B D))) (upb Γ0 Δ (tAll B D)) = 1 + pmz (qu e) true (oq (qu e) (upb Γ0 Δ B :: cxs Δ Γ0 (tAll B D))) (upb Γ0 Δ D) := by
      rw [upb_all]; exact pmz_all _ _ _
    rw [p1] at u2
    have tu : tru (cxs Δ Γ0 (tAll B C), upb Γ0 Δ (tAll B C), S) ≤ chn (cl (cxs Δ Γ0 (tAll B C))) S + (2 + urm true e 0 (upb Γ0 Δ B :: cxs Δ Γ0 (tAll B D)) (upb Γ0 Δ D)) := by
      have u1' : trx (cxs Δ Γ0 (tAll B C), S, upb Γ0 Δ (tAll B C)) ≤ _ := u1
      have u2' : trx (cxs Δ Γ0 (tAll B C), upb Γ0 Δ (tAll B C), S) ≤ _ := u2
      refine Nat.max_le.mpr ⟨?_, ?_⟩
      · show trx (cxs Δ Γ0 (tAll B C), upb Γ0 Δ (tAll B C), S) ≤ _
        omega
      · show trx (cxs Δ Γ0 (tAll B C), S, upb Γ0 Δ (tAll B C)) ≤ _
        omega
    have hh : gro (0, cxs Δ Γ0 (tAll B C), upb Γ0 Δ (tAll B C), S) + sgl (gmf f) (gcs (0, cxs Δ Γ0 (tAll B C), upb Γ0 Δ (tAll B C), S)) ≤ chn (cl (cxs Δ Γ0 (tAll B C))) S + (2 + urm true e 0 (upb Γ0 Δ B :: cxs Δ Γ0 (tAll B D)) (upb Γ0 Δ D)) := by
      have kids := tb.gcs (w := 0) (by decide) (by decide)
      rcases gcs_cases (w := 0) tb.1 (by decide) with ⟨g1, g2, g3⟩ | ⟨q1, k, hk, eS, g1, g2, g3⟩ | ⟨q1, n1, k, hk, rfl, g1, g2, g3⟩ | ⟨m, X0, X1, X2, m', Y0, Y1, Y2, hm, hm', eS, eT, g1, g2, g3⟩ | ⟨A, F, A', F', eS, eT, g1, g2, g3⟩ | ⟨A, F, F', eS, eT, g1, g2, g3⟩
      · rw [g1]
        show gro _ + 0 ≤ _
        omega
      · rw [eS, hd_var] at h2; omega
      · have t1 := (kids _ (by rw [g1]; exact List.mem_cons_self ..)).1
        have c1 := (cl_expose hc hb hk).1
        have i1 := gmV_upL K e1 f Δ _ ((K.2 Δ _ kS).2.2.2.1 k rfl hk).2 t1
        rw [g1, g2, chn_var]
        show 1 + (gmf f (0, cxs Δ Γ0 (tAll B C), upb Γ0 Δ (tAll B C), lft k ((cxs Δ Γ0 (tAll B C)).length - k) (bnd (cxs Δ Γ0 (tAll B C)) k)) + 0) ≤ _
        omega
      · rw [eS, hd_rec] at h2; omega
      · rw [eS, hd_fun] at h2; omega
      · have eS' := eS
        rw [upb_all] at eS'
        injection eS' with _ eS'
        injection eS' with ea ec
        subst eT ea ec
        have t2 : TB e (upb Γ0 Δ B :: cxs Δ Γ0 (tAll B C), upb Γ0 Δ C, F') := by
          have tb' := tb
          rw [upb_all] at tb'
          exact TB_all tb'
        have ev := ((K.2 Δ _ kS).2.2.2.2 F' rfl (TB_sw t2)).2.2.2
        have q := gmf_gm (z := (0, upb Γ0 Δ B :: cxs Δ Γ0 (tAll B C), upb Γ0 Δ C, F')) t2.1 f
        rw [g1, g2]
        show 2 + (gmf f (0, upb Γ0 Δ B :: cxs Δ Γ0 (tAll B C), upb Γ0 Δ C, F') + 0) ≤ _
        omega
    rw [gmf_succ f (by decide)]
    omega
end PmU3
section PmU4
variable {e : Nat} {B C D : Ty} {Γ0 : List Ty} {Kp : List Ty → Ty → Prop}
def UT (e : Nat) (B C D : Ty) (Γ0 : List Ty) (w : Nat) (Δ : List Ty) (S T : Ty) : Nat := if hd T = 0 then 0 else urm false e w (cxs Δ Γ0 (tAll B D)) T - e + chn (cl (cxs Δ Γ0 (tAll B C))) S
theorem UT_le (K : KPc e B C D Γ0 Kp) (e1 : 1 ≤ e) {w : Nat} {Δ : List Ty} {S T : Ty} (h : TB e (cxs Δ Γ0 (tAll B C), S, T)) : UT e B C D Γ0 w Δ S T ≤ urm false e w (cxs Δ Γ0 (tAll B D)) T := by
  have hc : okc (cxs Δ Γ0 (tAll B C)) := h.1.1
  have hT : ok (cxs Δ Γ0 (tAll B C)).length T = true := h.1.2.2
  unfold UT
  split
  · exact Nat.zero_le _
  · rename_i hn
    have a1 : chn (cl (cxs Δ Γ0 (tAll B C))) S ≤ e := chn_le hc h.2.1 h.1.2.1
    have a2 := (urm_big (w := w) e1 (cxd_okc (B := B) (C := C) K.1.1 Δ hc) (show ok (cxs Δ Γ0 (tAll B D)).length T = true by rw [cxs_ll (tAll B D) (tAll B C)]; exact hT) hn).2
    omega
/-- what is old on the left -/
theorem gmV_T (K : KPc e B C D Γ0 Kp) (e1 : 1 ≤ e) : ∀ (f w : Nat) (Δ : List Ty) (S T : Ty), w ≤ 1 → Kp Δ S → TB e (cxs Δ Γ0 (tAll B C), S, T) → gmf f (w, cxs Δ Γ0 (tAll B C), S, T) ≤ UT e B C D Γ0 w Δ S T
  | 0, _, _, _, _, _, _, _ => Nat.zero_le _
  | f + 1, w, Δ, S, T, w1, kS, tb => by
    have w2 : w ≠ 2 := by omega
    have tk : tok (cxs Δ Γ0 (tAll B C), S, T) := tb.1
    have hb : cbc e (cxs Δ Γ0 (tAll B C)) := tb.2.1
    have hc : okc (cxs Δ Γ0 (tAll B C)) := tk.1
    have hS : ok (cxs Δ Γ0 (tAll B C)).length S = true := tk.2.1
    have hT : ok (cxs Δ Γ0 (tAll B C)).length T = true := tk.2.2
    have hcD := cxd_okc (B := B) (C := C) K.1.1 Δ hc
    have lD := cxs_ll (Γ0 := Γ0) (Δ := Δ) (tAll B D) (tAll B C)
    have hTD : ok (cxs Δ Γ0 (tAll B D)).length T = true := by rw [lD]; exact hT
    have tv := trfV K (twt (cxs Δ Γ0 (tAll B C), S, T)) Δ S T kS tb
    have tv2 := trfV K (twt (cxs Δ Γ0 (tAll B C), T, S)) Δ S T kS tb
    have tv1 : trx (cxs Δ Γ0 (tAll B C), T, S) ≤ pmz (qu e) true (oq (qu e) (cxs Δ Γ0 (tAll B D))) T := tv2.1
    have ih := fun w' Δ' S' T' => gmV_T K e1 f w' Δ' S' T'
    obtain ⟨kf, kr, ka, kv, -⟩ := K.2 Δ S kS
    have le := fun w' Δ' (S' T' : Ty) (h1 : w' ≤ 1) (h2 : Kp Δ' S') (h3 : TB e (cxs Δ' Γ0 (tAll B C), S', T')) => Nat.le_trans (ih w' Δ' S' T' h1 h2 h3) (UT_le K e1 h3)
    rw [gmf_succ f w2]
    by_cases h0 : hd T = 0
    · have e2 : T = tTop := by
        rcases ok_cases hT with h | ⟨k, hk, rfl⟩ | ⟨a', b', rfl, -, -⟩ | ⟨a', b', rfl, -, -⟩ | ⟨m, x, y, z, hm, rfl, -, -, -⟩
        · exact h
        · rw [hd_var] at h0; omega
        · rw [hd_fun] at h0; omega
        · rw [hd_all] at h0; omega
        · rw [hd_rec] at h0; omega
      have a0 : trx (cxs Δ Γ0 (tAll B C), S, T) = 0 := trf_top _ h0
      have a1 : trx (cxs Δ Γ0 (tAll B C), T, S) ≤ 0 := by
        have q := tv1
        rw [e2, pmz_top] at q
        rw [e2]
        exact q
      have tu : tru (cxs Δ Γ0 (tAll B C), S, T) = 0 := by
        show max (trx _) (trx (cxs Δ Γ0 (tAll B C), T, S)) = 0
        omega
      rw [gcs_of_bel (Or.inl (bel_top tk h0)), gro_bel (Or.inl (bel_top tk h0)), tu]
      exact Nat.zero_le _
    have big := urm_big (w := w) e1 hcD hTD h0
    have a2 : trx (cxs Δ Γ0 (tAll B C), S, T) + e ≤ chn (cl (cxs Δ Γ0 (tAll B C))) S + pmz (qu e) false (oq (qu e) (cxs Δ Γ0 (tAll B D))) T := tv.2 h0
    have a3 := (qu_rows (b := false) e1 (decide (w = 0)) hcD hTD).1.2
    have a3 : pmz (qu e) false (oq (qu e) (cxs Δ Γ0 (tAll B D))) T ≤ urm false e w (cxs Δ Γ0 (tAll B D)) T := a3
    have mus : UT e B C D Γ0 w Δ S T = urm false e w (cxs Δ Γ0 (tAll B D)) T - e + chn (cl (cxs Δ Γ0 (tAll B C))) S := if_neg h0
    have tu : tru (cxs Δ Γ0 (tAll B C), S, T) ≤ UT e B C D Γ0 w Δ S T := by
      rw [mus]
      refine Nat.max_le.mpr ⟨?_, ?_⟩
      · show trx (cxs Δ Γ0 (tAll B C), S, T) ≤ _
        omega
      · show trx (cxs Δ Γ0 (tAll B C), T, S) ≤ _
        omega
    refine Nat.max_le.mpr ⟨tu, ?_⟩
    have kids := tb.gcs w2 (by omega)
    have f2 : ∀ z : Gz, z.1 = 2 → gmf f z = 0 := fun z h => gmf_two f h
    rw [mus]
    rcases gcs_cases (w := w) tk w2 with ⟨g1, g2, -⟩ | ⟨q1, k, hk, rfl, g1, g2, -⟩ | ⟨q1, n1, k, hk, rfl, g1, g2, -⟩ | ⟨m, X0, X1, X2, m', Y0, Y1, Y2, hm, hm', rfl, rfl, g1, g2, -⟩ | ⟨A, F, A', F', rfl, rfl, g1, g2, -⟩ | ⟨A, F, F', rfl, rfl, g1, g2, -⟩
    · rw [g1]
      show gro (w, cxs Δ Γ0 (tAll B C), S, T) + 0 ≤ _
      omega
    · have w0 : w = 0 := by omega
      subst w0
      have t1 := (kids _ (by rw [g1]; exact List.mem_cons_self ..)).1
      have i1 := ih 0 Δ _ T w1 (kv k rfl hk).2 t1
      have m1 : UT e B C D Γ0 0 Δ (lft k ((cxs Δ Γ0 (tAll B C)).length - k) (bnd (cxs Δ Γ0 (tAll B C)) k)) T = urm false e 0 (cxs Δ Γ0 (tAll B D)) T - e + chn (cl (cxs Δ Γ0 (tAll B C))) (lft k ((cxs Δ Γ0 (tAll B C)).length - k) (bnd (cxs Δ Γ0 (tAll B C)) k)) := if_neg h0
      have a5 := (cl_expose hc hb hk).1
      rw [g1, g2, chn_var]
      show 1 + (gmf f (0, cxs Δ Γ0 (tAll B C), lft k ((cxs Δ Γ0 (tAll B C)).length - k) (bnd (cxs Δ Γ0 (tAll B C)) k), T) + 0) ≤ _
      omega
    · have w0 : w = 0 := by omega
      subst w0
      have t1 := (kids _ (by rw [g1]; exact List.mem_cons_self ..)).1
      have t1 : TB e (cxs Δ Γ0 (tAll B C), S, lft k ((cxs Δ Γ0 (tAll B C)).length - k) (bnd (cxs Δ Γ0 (tAll B C)) k)) := t1
      have ex : urm false e 0 (cxs Δ Γ0 (tAll B D)) (tVar k) = 1 + max e (urm false e 0 (cxs Δ Γ0 (tAll B D)) (lft k ((cxs Δ Γ0 (tAll B D)).length - k) (bnd (cxs Δ Γ0 (tAll B D)) k))) := (mrz_vt _ _ _).trans (oz_expose false e hcD (by rw [lD]; exact hk))
      rw [g1, g2, chn_no n1]
      show 1 + (gmf f (0, cxs Δ Γ0 (tAll B C), S, lft k ((cxs Δ Γ0 (tAll B C)).length - k) (bnd (cxs Δ Γ0 (tAll B C)) k)) + 0) ≤ _
      by_cases ne : k = Γ0.length
      · subst ne
        rw [cxs_up] at t1 ex ⊢
        have q := gmV_upR K e1 f kS n1 t1
        rw [urm_D] at ex
        omega
      · have i1 := ih 0 Δ S _ w1 kS t1
        rw [← cxd_exp (C := C) ne] at ex
        have m1 : UT e B C D Γ0 0 Δ S (lft k ((cxs Δ Γ0 (tAll B C)).length - k) (bnd (cxs Δ Γ0 (tAll B C)) k)) ≤ urm false e 0 (cxs Δ Γ0 (tAll B D)) (lft k ((cxs Δ Γ0 (tAll B C)).length - k) (bnd (cxs Δ Γ0 (tAll B C)) k)) - e := by
          unfold UT
          split
          · exact Nat.zero_le _
          · rw [chn_no n1]; exact Nat.le_refl _
        omega
    · have oS := (ok_rec hm).mp hS
      have oT := (ok_rec hm').mp hT
      have dS := (cbd_rec _ _ _ _).mp tb.2.2.1
      have dT := (cbd_rec _ _ _ _).mp tb.2.2.2
      obtain ⟨r0, r1, r2'⟩ := kr m X0 X1 X2 hm rfl
      rw [g1, g2, sgl_app, sgl_app, chn_no (by rw [hd_rec]; omega)]
      have k0 := gzl_s (w := w) (f := gmf f) (g := fun _ => 0) (g' := urm false e w (cxs Δ Γ0 (tAll B D))) (Γ := cxs Δ Γ0 (tAll B C)) (X := X0) (Y := Y0) hm hm' (show 0 < 3 by decide) w2 f2 (fun b1 b2 => by rw [Nat.zero_add]; exact le w Δ X0 Y0 w1 (r0 b1) ⟨⟨hc, okl_on oS.1 (bit_iff.mp b1), okl_on oT.1 (bit_iff.mp b2)⟩, hb, dS.1, dT.1⟩)
      have k1 := gzl_s (w := w) (f := gmf f) (g := fun _ => 0) (g' := urm false e w (cxs Δ Γ0 (tAll B D))) (Γ := cxs Δ Γ0 (tAll B C)) (X := X1) (Y := Y1) hm hm' (show 1 < 3 by decide) w2 f2 (fun b1 b2 => by rw [Nat.zero_add]; exact le w Δ X1 Y1 w1 (r1 b1) ⟨⟨hc, okl_on oS.2.1 (bit_iff.mp b1), okl_on oT.2.1 (bit_iff.mp b2)⟩, hb, dS.2.1, dT.2.1⟩)
      have k2 := gzl_s (w := w) (f := gmf f) (g := fun _ => 0) (g' := urm false e w (cxs Δ Γ0 (tAll B D))) (Γ := cxs Δ Γ0 (tAll B C)) (X := X2) (Y := Y2) hm hm' (show 2 < 3 by decide) w2 f2 (fun b1 b2 => by rw [Nat.zero_add]; exact le w Δ X2 Y2 w1 (r2' b1) ⟨⟨hc, okl_on oS.2.2 (bit_iff.mp b1), okl_on oT.2.2 (bit_iff.mp b2)⟩, hb, dS.2.2, dT.2.2⟩)
      have p3 : urm false e w (cxs Δ Γ0 (tAll B D)) (tRec m' Y0 Y1 Y2) = (1 + e) + (urm false e w (cxs Δ Γ0 (tAll B D)) Y0 + (urm false e w (cxs Δ Γ0 (tAll B D)) Y1 + urm false e w (cxs Δ Γ0 (tAll B D)) Y2)) := mrz_rec _ _ _ _ _
      rw [p3]
      rw [Nat.zero_add] at k0 k1 k2
      omega
    · have oS := ok_fun.mp hS
      have oT := ok_fun.mp hT
      have dS := (cbd_fun _ _ _).mp tb.2.2.1
      have dT := (cbd_fun _ _ _).mp tb.2.2.2
      obtain ⟨k1, k2⟩ := kf A F rfl
      rw [g1, g2, chn_no (by rw [hd_fun]; omega)]
      show 1 + (gmf f (1 - w, cxs Δ Γ0 (tAll B C), A, A') + (gmf f (w, cxs Δ Γ0 (tAll B C), F, F') + 0)) ≤ _
      have a1 := le (1 - w) Δ A A' (by omega) k1 ⟨⟨hc, oS.1, oT.1⟩, hb, dS.1, dT.1⟩
      have a2 := le w Δ F F' w1 k2 ⟨⟨hc, oS.2, oT.2⟩, hb, dS.2, dT.2⟩
      have ed : (decide (1 - w = 0)) = !(decide (w = 0)) := by
        rcases (show w = 0 ∨ w = 1 by omega) with rfl | rfl <;> rfl
      have p3 : urm false e w (cxs Δ Γ0 (tAll B D)) (tFun A' F') = (1 + e) + (urm false e (1 - w) (cxs Δ Γ0 (tAll B D)) A' + urm false e w (cxs Δ Γ0 (tAll B D)) F') := by
        unfold urm
        rw [mrz_fun, ed]
      rw [p3]
      omega
    · have a2 := le w (A :: Δ) F F' w1 (ka A F rfl) (TB_all tb)
      have a2 : gmf f (w, A :: cxs Δ Γ0 (tAll B C), F, F') ≤ urm false e w (A :: cxs Δ Γ0 (tAll B D)) F' := a2
      rw [g1, g2, chn_no (by rw [hd_all]; omega)]
      show 2 + (gmf f (w, A :: cxs Δ Γ0 (tAll B C), F, F') + 0) ≤ _
      have p3 : urm false e w (cxs Δ Γ0 (tAll B D)) (tAll A F') = (2 + e) + urm false e w (A :: cxs Δ Γ0 (tAll B D)) F' := mrz_all _ _ _ _
      rw [p3]
      omega
end PmU4
