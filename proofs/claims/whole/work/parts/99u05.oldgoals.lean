/-! WHAT STANDS INSIDE A SCHEME OF THE CONTEXT AGAINST ANY TYPE: goals. -/
/-- goals of the body against the body of an inner scheme with the same bound -/
def KGc (B C D : Ty) (Γ0 : List Ty) (Kp : List Ty → Ty → Prop) : Prop := ∀ Δ t, Kp Δ t → ∀ f, t = tAll (upb Γ0 Δ B) f → tok (upb Γ0 Δ B :: cxs Δ Γ0 (tAll B C), f, upb Γ0 Δ C) → gn (0, upb Γ0 Δ B :: cxs Δ Γ0 (tAll B C), f, upb Γ0 Δ C) ≤ gz (upb Γ0 Δ B :: cxs Δ Γ0 (tAll B D)) (upb Γ0 Δ D) ∧ gn (0, upb Γ0 Δ B :: cxs Δ Γ0 (tAll B C), upb Γ0 Δ C, f) ≤ gz (upb Γ0 Δ B :: cxs Δ Γ0 (tAll B D)) (upb Γ0 Δ D)
theorem gzl_oR {w f m m' i : Nat} {Γ : List Ty} {X Y : Ty} {v : Nat} (hm : m < 8) (hm' : m' < 8) (hi : i < 3) (gY : bit m' i = true → 1 ≤ v) (hf : bit m i = true → bit m' i = true → gnf f (w, Γ, X, Y) ≤ v) : sgl (gnf f) (gzl w Γ (lset w m m') m m' i X Y) ≤ v + (if bit m' i = true then 0 else 1) := by
  rcases gzl_cases (W := w) (Γ := Γ) (X := X) (Y := Y) (lset_in w m hm m' hm' i hi) with ⟨h1, h2, h3, e⟩ | ⟨h1, h2, h3, e⟩ | ⟨h1, h2, h3, e⟩ | ⟨h1, e⟩
  · rw [e]
    have := hf h2 h3
    show gnf f (w, Γ, X, Y) + 0 ≤ _
    omega
  · rw [e, if_neg h3]
    show gnf f (2, Γ, _, _) + 0 ≤ _
    rw [gnf_two f rfl]; omega
  · rw [e]
    have := gY h3
    show gnf f (2, Γ, _, _) + 0 ≤ _
    rw [gnf_two f rfl]; omega
  · rw [e]; exact Nat.zero_le _
theorem gzl_oL {w f m m' i : Nat} {Γ : List Ty} {X Y : Ty} {v : Nat} (hm : m < 8) (hm' : m' < 8) (hi : i < 3) (gX : bit m i = true → 1 ≤ v) (hf : bit m i = true → bit m' i = true → gnf f (w, Γ, X, Y) ≤ v) : sgl (gnf f) (gzl w Γ (lset w m m') m m' i X Y) ≤ v + (if bit m i = true then 0 else 1) := by
  rcases gzl_cases (W := w) (Γ := Γ) (X := X) (Y := Y) (lset_in w m hm m' hm' i hi) with ⟨h1, h2, h3, e⟩ | ⟨h1, h2, h3, e⟩ | ⟨h1, h2, h3, e⟩ | ⟨h1, e⟩
  · rw [e]
    have := hf h2 h3
    show gnf f (w, Γ, X, Y) + 0 ≤ _
    omega
  · rw [e]
    have := gX h2
    show gnf f (2, Γ, _, _) + 0 ≤ _
    rw [gnf_two f rfl]; omega
  · rw [e, if_neg h2]
    show gnf f (2, Γ, _, _) + 0 ≤ _
    rw [gnf_two f rfl]; omega
  · rw [e]; exact Nat.zero_le _
section PmUb
variable {e : Nat} {B C D : Ty} {Γ0 : List Ty} {Kp : List Ty → Ty → Prop}
theorem gz_D {Δ : List Ty} : gz (cxs Δ Γ0 (tAll B D)) (upb Γ0 Δ (tAll B D)) = 1 + gz (upb Γ0 Δ B :: cxs Δ Γ0 (tAll B D)) (upb Γ0 Δ D) := by
  rw [upb_all]; exact gz_all _ _
theorem gnV_upR (K : KPc e B C D Γ0 Kp) (G : KGc B C D Γ0 Kp) (f : Nat) {Δ : List Ty} {S : Ty} (kS : Kp Δ S) (nv : ¬ 16 ≤ hd S) (tk : tok (cxs Δ Γ0 (tAll B C), S, upb Γ0 Δ (tAll B C))) : gnf f (0, cxs Δ Γ0 (tAll B C), S, upb Γ0 Δ (tAll B C)) ≤ 1 + gz (upb Γ0 Δ B :: cxs Δ Γ0 (tAll B D)) (upb Γ0 Δ D) := by
  cases f with
  | zero => exact Nat.le_add_right 1 _
  | succ f =>
    have h2 : hd (upb Γ0 Δ (tAll B C)) = 2 := by rw [upb_all, hd_all]
    rw [gnf_succ f (by decide)]
    rcases gcs_cases (w := 0) tk (by decide) with ⟨g1, g2, g3⟩ | ⟨q1, k, hk, rfl, g1, g2, g3⟩ | ⟨q1, n1, k, hk, eT, g1, g2, g3⟩ | ⟨m, X0, X1, X2, m', Y0, Y1, Y2, hm, hm', eS, eT, g1, g2, g3⟩ | ⟨A, F, A', F', eS, eT, g1, g2, g3⟩ | ⟨A, F, F', eS, eT, g1, g2, g3⟩
    · rw [g1, g3]
      show max 1 (1 + 0) ≤ _
      omega
    · rw [hd_var] at nv; omega
    · rw [eT, hd_var] at h2; omega
    · rw [eT, hd_rec] at h2; omega
    · rw [eT, hd_fun] at h2; omega
    · have eT' := eT
      rw [upb_all] at eT'
      injection eT' with _ eT'
      injection eT' with ea ec
      subst eS ea ec
      have t2 : tok (upb Γ0 Δ B :: cxs Δ Γ0 (tAll B C), F, upb Γ0 Δ C) := by
        have tk' := tk
        rw [upb_all] at tk'
        exact tok_all tk'
      have ev := (G Δ _ kS F rfl t2).1
      have q := gnf_gn (z := (0, upb Γ0 Δ B :: cxs Δ Γ0 (tAll B C), F, upb Γ0 Δ C)) t2 f
      rw [g1, g3]
      show max 1 (1 + (gnf f (0, upb Γ0 Δ B :: cxs Δ Γ0 (tAll B C), F, upb Γ0 Δ C) + 0)) ≤ _
      omega
theorem gnV_upL (K : KPc e B C D Γ0 Kp) (G : KGc B C D Γ0 Kp) : ∀ (f : Nat) (Δ : List Ty) (S : Ty), Kp Δ S → tok (cxs Δ Γ0 (tAll B C), upb Γ0 Δ (tAll B C), S) → gnf f (0, cxs Δ Γ0 (tAll B C), upb Γ0 Δ (tAll B C), S) ≤ 1 + gz (upb Γ0 Δ B :: cxs Δ Γ0 (tAll B D)) (upb Γ0 Δ D)
  | 0, _, _, _, _ => Nat.le_add_right 1 _
  | f + 1, Δ, S, kS, tk => by
    have hc : okc (cxs Δ Γ0 (tAll B C)) := tk.1
    have h2 : hd (upb Γ0 Δ (tAll B C)) = 2 := by rw [upb_all, hd_all]
    rw [gnf_succ f (by decide)]
    rcases gcs_cases (w := 0) tk (by decide) with ⟨g1, g2, g3⟩ | ⟨q1, k, hk, eS, g1, g2, g3⟩ | ⟨q1, n1, k, hk, rfl, g1, g2, g3⟩ | ⟨m, X0, X1, X2, m', Y0, Y1, Y2, hm, hm', eS, eT, g1, g2, g3⟩ | ⟨A, F, A', F', eS, eT, g1, g2, g3⟩ | ⟨A, F, F', eS, eT, g1, g2, g3⟩
    · rw [g1, g3]
      show max 1 (1 + 0) ≤ _
      omega
    · rw [eS, hd_var] at h2; omega
    · have i1 := gnV_upL K G f Δ _ ((K.2 Δ _ kS).2.2.2.1 k rfl hk).2 ⟨hc, tk.2.1, ok_expose hc hk⟩
      rw [g1, g3]
      show max 1 (0 + (gnf f (0, cxs Δ Γ0 (tAll B C), upb Γ0 Δ (tAll B C), lft k ((cxs Δ Γ0 (tAll B C)).length - k) (bnd (cxs Δ Γ0 (tAll B C)) k)) + 0)) ≤ _
      omega
    · rw [eS, hd_rec] at h2; omega
    · rw [eS, hd_fun] at h2; omega
    · have eS' := eS
      rw [upb_all] at eS'
      injection eS' with _ eS'
      injection eS' with ea ec
      subst eT ea ec
      have t2 : tok (upb Γ0 Δ B :: cxs Δ Γ0 (tAll B C), upb Γ0 Δ C, F') := by
        have tk' := tk
        rw [upb_all] at tk'
        exact tok_all tk'
      have ev := (G Δ _ kS F' rfl ⟨t2.1, t2.2.2, t2.2.1⟩).2
      have q := gnf_gn (z := (0, upb Γ0 Δ B :: cxs Δ Γ0 (tAll B C), upb Γ0 Δ C, F')) t2 f
      rw [g1, g3]
      show max 1 (1 + (gnf f (0, upb Γ0 Δ B :: cxs Δ Γ0 (tAll B C), upb Γ0 Δ C, F') + 0)) ≤ _
      omega
/-- goals: what is old on either side -/
theorem gnV (K : KPc e B C D Γ0 Kp) (G : KGc B C D Γ0 Kp) : ∀ (f w : Nat) (Δ : List Ty) (S T : Ty), w ≤ 1 → Kp Δ S → tok (cxs Δ Γ0 (tAll B C), S, T) → gnf f (w, cxs Δ Γ0 (tAll B C), S, T) ≤ gz (cxs Δ Γ0 (tAll B D)) T ∧ gnf f (w, cxs Δ Γ0 (tAll B C), T, S) ≤ gz (cxs Δ Γ0 (tAll B D)) T
  | 0, _, Δ, S, T, _, _, tk => by
    have := gz_pos (T := T) (cxd_okc (B := B) (C := C) K.1.1 Δ tk.1) (by rw [cxs_ll (tAll B D) (tAll B C)]; exact tk.2.2)
    exact ⟨this, this⟩
  | f + 1, w, Δ, S, T, w1, kS, tk => by
    have w2 : w ≠ 2 := by omega
    have hc : okc (cxs Δ Γ0 (tAll B C)) := tk.1
    have hS : ok (cxs Δ Γ0 (tAll B C)).length S = true := tk.2.1
    have hT : ok (cxs Δ Γ0 (tAll B C)).length T = true := tk.2.2
    have hcD := cxd_okc (B := B) (C := C) K.1.1 Δ hc
    have lD := cxs_ll (Γ0 := Γ0) (Δ := Δ) (tAll B D) (tAll B C)
    have pos : ∀ X : Ty, ok (cxs Δ Γ0 (tAll B C)).length X = true → 1 ≤ gz (cxs Δ Γ0 (tAll B D)) X := fun X o => gz_pos hcD (by rw [lD]; exact o)
    have oneT := pos T hT
    have ih := fun w' Δ' S' T' => gnV K G f w' Δ' S' T'
    obtain ⟨kf, kr, ka, kv, -⟩ := K.2 Δ S kS
    have ex : ∀ k, k < (cxs Δ Γ0 (tAll B C)).length → gz (cxs Δ Γ0 (tAll B D)) (tVar k) = gz (cxs Δ Γ0 (tAll B D)) (lft k ((cxs Δ Γ0 (tAll B D)).length - k) (bnd (cxs Δ Γ0 (tAll B D)) k)) := fun k hk => gz_var hcD (by rw [lD]; exact hk)
    have en : ∀ w Γ (X Y : Ty), gcs (w, Γ, X, Y) = [] → gno (w, Γ, X, Y) ≤ 1 := by
      intro w Γ X Y _
      unfold gno
      split
      · exact Nat.le_refl _
      · split
        · exact Nat.le_refl _
        · split
          · exact Nat.le_refl _
          · split <;> omega
    rw [gnf_succ f w2, gnf_succ f w2]
    refine ⟨?_, ?_⟩
    · rcases gcs_cases (w := w) tk w2 with ⟨g1, g2, g3⟩ | ⟨q1, k, hk, rfl, g1, g2, g3⟩ | ⟨q1, n1, k, hk, rfl, g1, g2, g3⟩ | ⟨m, X0, X1, X2, m', Y0, Y1, Y2, hm, hm', rfl, rfl, g1, g2, g3⟩ | ⟨A, F, A', F', rfl, rfl, g1, g2, g3⟩ | ⟨A, F, F', rfl, rfl, g1, g2, g3⟩
      · rw [g1, g3]
        show max 1 (1 + 0) ≤ _
        omega
      · have i1 := (ih w Δ _ T w1 (kv k rfl hk).2 ⟨hc, ok_expose hc hk, hT⟩).1
        rw [g1, g3]
        show max 1 (0 + (gnf f (w, cxs Δ Γ0 (tAll B C), lft k ((cxs Δ Γ0 (tAll B C)).length - k) (bnd (cxs Δ Γ0 (tAll B C)) k), T) + 0)) ≤ _
        omega
      · have w0 : w = 0 := by omega
        subst w0
        have ek := ex k hk
        rw [g1, g3]
        show max 1 (0 + (gnf f (0, cxs Δ Γ0 (tAll B C), S, lft k ((cxs Δ Γ0 (tAll B C)).length - k) (bnd (cxs Δ Γ0 (tAll B C)) k)) + 0)) ≤ _
        by_cases ne : k = Γ0.length
        · subst ne
          rw [cxs_up] at ek ⊢
          have t1 := ok_expose hc hk
          rw [cxs_up] at t1
          have q := gnV_upR K G f kS n1 ⟨hc, hS, t1⟩
          rw [gz_D] at ek
          omega
        · have i1 := (ih 0 Δ S _ w1 kS ⟨hc, hS, ok_expose hc hk⟩).1
          rw [← cxd_exp (C := C) ne] at ek
          omega
      · by_cases m0 : m' = 0
        · subst m0
          have bt : bel (cxs Δ Γ0 (tAll B C)) (tRec m X0 X1 X2) (tRec 0 Y0 Y1 Y2) = true := bel_rec0 hm tk
          have ge := gcs_of_bel (w := w) (Or.inl bt)
          have gl := en w (cxs Δ Γ0 (tAll B C)) (tRec m X0 X1 X2) (tRec 0 Y0 Y1 Y2) ge
          rw [ge]
          show max 1 (gno _ + 0) ≤ _
          omega
        have oS := (ok_rec hm).mp hS
        have oT := (ok_rec hm').mp hT
        obtain ⟨r0, r1, r2'⟩ := kr m X0 X1 X2 hm rfl
        rw [g1, g3, sgl_app, sgl_app, gz_rec]
        have k0 := gzl_oR (w := w) (f := f) (Γ := cxs Δ Γ0 (tAll B C)) (X := X0) (Y := Y0) (v := gz (cxs Δ Γ0 (tAll B D)) Y0) hm hm' (show 0 < 3 by decide) (fun b2 => pos _ (okl_on oT.1 (bit_iff.mp b2))) (fun b1 b2 => (ih w Δ X0 Y0 w1 (r0 b1) ⟨hc, okl_on oS.1 (bit_iff.mp b1), okl_on oT.1 (bit_iff.mp b2)⟩).1)
        have k1 := gzl_oR (w := w) (f := f) (Γ := cxs Δ Γ0 (tAll B C)) (X := X1) (Y := Y1) (v := gz (cxs Δ Γ0 (tAll B D)) Y1) hm hm' (show 1 < 3 by decide) (fun b2 => pos _ (okl_on oT.2.1 (bit_iff.mp b2))) (fun b1 b2 => (ih w Δ X1 Y1 w1 (r1 b1) ⟨hc, okl_on oS.2.1 (bit_iff.mp b1), okl_on oT.2.1 (bit_iff.mp b2)⟩).1)
        have k2 := gzl_oR (w := w) (f := f) (Γ := cxs Δ Γ0 (tAll B C)) (X := X2) (Y := Y2) (v := gz (cxs Δ Γ0 (tAll B D)) Y2) hm hm' (show 2 < 3 by decide) (fun b2 => pos _ (okl_on oT.2.2 (bit_iff.mp b2))) (fun b1 b2 => (ih w Δ X2 Y2 w1 (r2' b1) ⟨hc, okl_on oS.2.2 (bit_iff.mp b1), okl_on oT.2.2 (bit_iff.mp b2)⟩).1)
        have ms := mis_sum m' hm' m0
        have ng : ngc (8 + m') = 1 + mis m' := by
          unfold ngc
          rw [if_neg (by omega), show 8 + m' - 8 = m' by omega]
        rw [ng]
        omega
      · have oS := ok_fun.mp hS
        have oT := ok_fun.mp hT
        obtain ⟨k1, k2⟩ := kf A F rfl
        have p1 := (ih (1 - w) Δ A A' (by omega) k1 ⟨hc, oS.1, oT.1⟩).1
        have p2 := (ih w Δ F F' w1 k2 ⟨hc, oS.2, oT.2⟩).1
        have n1 := ngc_one 1 (Or.inl rfl)
        rw [g1, g3, gz_fun]
        show max 1 (1 + (gnf f (1 - w, cxs Δ Γ0 (tAll B C), A, A') + (gnf f (w, cxs Δ Γ0 (tAll B C), F, F') + 0))) ≤ _
        omega
      · have p2 := (ih w (A :: Δ) F F' w1 (ka A F rfl) (tok_all tk)).1
        have p2 : gnf f (w, A :: cxs Δ Γ0 (tAll B C), F, F') ≤ gz (A :: cxs Δ Γ0 (tAll B D)) F' := p2
        rw [g1, g3, gz_all]
        show max 1 (1 + (gnf f (w, A :: cxs Δ Γ0 (tAll B C), F, F') + 0)) ≤ _
        omega
    · rcases gcs_cases (w := w) (show tok (cxs Δ Γ0 (tAll B C), T, S) from ⟨hc, hT, hS⟩) w2 with ⟨g1, g2, g3⟩ | ⟨q1, k, hk, rfl, g1, g2, g3⟩ | ⟨q1, n1, k, hk, rfl, g1, g2, g3⟩ | ⟨m, X0, X1, X2, m', Y0, Y1, Y2, hm, hm', rfl, rfl, g1, g2, g3⟩ | ⟨A, F, A', F', rfl, rfl, g1, g2, g3⟩ | ⟨A, F, F', rfl, rfl, g1, g2, g3⟩
      · rw [g1, g3]
        show max 1 (1 + 0) ≤ _
        omega
      · have w0 : w = 0 := by omega
        subst w0
        have ek := ex k hk
        rw [g1, g3]
        show max 1 (0 + (gnf f (0, cxs Δ Γ0 (tAll B C), lft k ((cxs Δ Γ0 (tAll B C)).length - k) (bnd (cxs Δ Γ0 (tAll B C)) k), S) + 0)) ≤ _
        by_cases ne : k = Γ0.length
        · subst ne
          rw [cxs_up] at ek ⊢
          have t1 := ok_expose hc hk
          rw [cxs_up] at t1
          have q := gnV_upL K G f Δ S kS ⟨hc, t1, hS⟩
          rw [gz_D] at ek
          omega
        · have i1 := (ih 0 Δ S _ w1 kS ⟨hc, hS, ok_expose hc hk⟩).2
          rw [← cxd_exp (C := C) ne] at ek
          omega
      · have i1 := (ih w Δ _ T w1 (kv k rfl hk).2 ⟨hc, ok_expose hc hk, hT⟩).2
        rw [g1, g3]
        show max 1 (0 + (gnf f (w, cxs Δ Γ0 (tAll B C), T, lft k ((cxs Δ Γ0 (tAll B C)).length - k) (bnd (cxs Δ Γ0 (tAll B C)) k)) + 0)) ≤ _
        omega
      · by_cases m0 : m = 0
        · subst m0
          have bt : bel (cxs Δ Γ0 (tAll B C)) (tRec m' Y0 Y1 Y2) (tRec 0 X0 X1 X2) = true := bel_rec0 hm' ⟨hc, hS, hT⟩
          have ge := gcs_of_bel (w := w) (S := tRec 0 X0 X1 X2) (T := tRec m' Y0 Y1 Y2) (Or.inr bt)
          have gl := en w (cxs Δ Γ0 (tAll B C)) (tRec 0 X0 X1 X2) (tRec m' Y0 Y1 Y2) ge
          rw [ge]
          show max 1 (gno _ + 0) ≤ _
          omega
        have oT := (ok_rec hm).mp hT
        have oS := (ok_rec hm').mp hS
        obtain ⟨r0, r1, r2'⟩ := kr m' Y0 Y1 Y2 hm' rfl
        rw [g1, g3, sgl_app, sgl_app, gz_rec]
        have k0 := gzl_oL (w := w) (f := f) (Γ := cxs Δ Γ0 (tAll B C)) (X := X0) (Y := Y0) (v := gz (cxs Δ Γ0 (tAll B D)) X0) hm hm' (show 0 < 3 by decide) (fun b2 => pos _ (okl_on oT.1 (bit_iff.mp b2))) (fun b1 b2 => (ih w Δ Y0 X0 w1 (r0 b2) ⟨hc, okl_on oS.1 (bit_iff.mp b2), okl_on oT.1 (bit_iff.mp b1)⟩).2)
        have k1 := gzl_oL (w := w) (f := f) (Γ := cxs Δ Γ0 (tAll B C)) (X := X1) (Y := Y1) (v := gz (cxs Δ Γ0 (tAll B D)) X1) hm hm' (show 1 < 3 by decide) (fun b2 => pos _ (okl_on oT.2.1 (bit_iff.mp b2))) (fun b1 b2 => (ih w Δ Y1 X1 w1 (r1 b2) ⟨hc, okl_on oS.2.1 (bit_iff.mp b2), okl_on oT.2.1 (bit_iff.mp b1)⟩).2)
        have k2 := gzl_oL (w := w) (f := f) (Γ := cxs Δ Γ0 (tAll B C)) (X := X2) (Y := Y2) (v := gz (cxs Δ Γ0 (tAll B D)) X2) hm hm' (show 2 < 3 by decide) (fun b2 => pos _ (okl_on oT.2.2 (bit_iff.mp b2))) (fun b1 b2 => (ih w Δ Y2 X2 w1 (r2' b2) ⟨hc, okl_on oS.2.2 (bit_iff.mp b2), okl_on oT.2.2 (bit_iff.mp b1)⟩).2)
        have ms := mis_sum m hm m0
        have ng : ngc (8 + m) = 1 + mis m := by
          unfold ngc
          rw [if_neg (by omega), show 8 + m - 8 = m by omega]
        rw [ng]
        omega
      · have oT := ok_fun.mp hT
        have oS := ok_fun.mp hS
        obtain ⟨k1, k2⟩ := kf A' F' rfl
        have p1 := (ih (1 - w) Δ A' A (by omega) k1 ⟨hc, oS.1, oT.1⟩).2
        have p2 := (ih w Δ F' F w1 k2 ⟨hc, oS.2, oT.2⟩).2
        have n1 := ngc_one 1 (Or.inl rfl)
        rw [g1, g3, gz_fun]
        show max 1 (1 + (gnf f (1 - w, cxs Δ Γ0 (tAll B C), A, A') + (gnf f (w, cxs Δ Γ0 (tAll B C), F, F') + 0))) ≤ _
        omega
      · have t2 := tok_all (show tok (cxs Δ Γ0 (tAll B C), tAll A F, tAll A F') from ⟨hc, hT, hS⟩)
        have p2 := (ih w (A :: Δ) F' F w1 (ka A F' rfl) ⟨t2.1, t2.2.2, t2.2.1⟩).2
        have p2 : gnf f (w, A :: cxs Δ Γ0 (tAll B C), F, F') ≤ gz (A :: cxs Δ Γ0 (tAll B D)) F := p2
        rw [g1, g3, gz_all]
        show max 1 (1 + (gnf f (w, A :: cxs Δ Γ0 (tAll B C), F, F') + 0)) ≤ _
        omega
end PmUb
