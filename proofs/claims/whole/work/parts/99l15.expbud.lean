/-! THE SAME, BY CHARACTERS, where bounds of the context are exposed: they count like annotations. -/
section PmLf
variable {N t0 fn s2 hv r0 r1 r2 r3 x0 : Nat} {n1 h e : Nat → Nat} {P Q : List (List Nat)} {F G : FrT} {X : List Nat}
theorem ebd_X (T : TBs N t0 fn s2 hv r0 r1 r2 r3 x0 n1 h P Q F G X) {kb c z : Nat} (hc : c + kb + 4 ≤ 56) (hz : z ≤ X.getD c 0) : ∀ {ω : List Nat} {Γ : List Ty}, okc Γ → ω.length = Γ.length → (∀ j, j < ω.length → vw ω j ≤ X.getD c 0) → (∀ b ∈ Γ, tch b ≤ kb) → ebd t0 n1 s2 h ω Γ z ≤ X.getD (c + kb + 4) 0
  | [], [], _, _, _, _ => Nat.zero_le _
  | w :: ω, b :: Γ, ho, hl, hw, hk => by
    have hl' : ω.length = Γ.length := by simpa using hl
    have hw' : ∀ j, j < ω.length → vw ω j ≤ X.getD c 0 := fun j hj => by
      have := hw j (by rw [List.length_cons]; omega)
      rwa [vw_cons, if_neg (by omega)] at this
    have q1 := ebd_X T hc hz (ω := ω) (Γ := Γ) ho.2 hl' hw' (fun b hb => hk b (List.mem_cons_of_mem _ hb))
    have q2 := hk b (List.mem_cons_self ..)
    have q3 := (val_up T (z := z) (cv := c) (c := c + kb + 4) (A := b) (by rw [hl']; exact ho.1) (by omega) hc hw' hz).1
    show max _ _ ≤ _
    omega
  | [], _ :: _, _, hl, _, _ => by simp at hl
  | _ :: _, [], _, hl, _, _ => by simp at hl
theorem GB2_le (T : TBs N t0 fn s2 hv r0 r1 r2 r3 x0 n1 h P Q F G X) : ∀ (f : Nat) (t : Ty) (z : Nat) (ω : List Nat) (Γ : List Ty) (Δ : List (Nat × Ty × Nat)) (cv cd kb : Nat), TWf f Γ.length (Δ.map (fun a => a.1)) t → TE Γ Δ → ω.length = Γ.length → (∀ j, j < ω.length → vw ω j ≤ X.getD cv 0) → z ≤ X.getD cv 0 → dch Δ ≤ cd → kb + 4 ≤ cd → (∀ c z, cv ≤ c → c + kb + 4 ≤ 56 → z ≤ X.getD c 0 → e z ≤ X.getD (c + kb + 4) 0) → cv + cd + 2 * mch t ≤ N → GB2 t0 n1 s2 h e f t z ω Γ Δ ≤ pg P (cv + cd) (mch t)
  | 0, _, _, _, _, _, _, _, _, w, _, _, _, _, _, _, _, _ => w.elim
  | f + 1, t, z, ω, Γ, Δ, cv, cd, kb, w, he, hl, hw, hz, hd, hkb, hE, hb => by
    have mp := mch_pos w
    obtain ⟨w0, w5, w6, w7, w8, w9, w10, w11, w12⟩ := w
    have em := mch_is w0.2.1
    have hN := T.2.2.2.2.2.2.1
    have hp := T.2.2.2.2.2.1
    unfold GB2
    by_cases c5 : nKd t = 5
    · rw [if_pos c5] at em ⊢
      obtain ⟨a, ha⟩ := dlk_some (w5 c5)
      obtain ⟨e1, e2, e3⟩ := he.2.2 _ (dlk_mem ha)
      have e1 : a.2 ≤ Γ.length := e1
      have e2 : ok a.2 a.1 = true := e2
      have e4 : tch a.1 + 4 ≤ dch Δ := dch_mem (dlk_mem ha)
      rw [ha]
      show nz t0 n1 s2 (hzx h z) ω (lft a.2 (Γ.length - a.2) a.1) ≤ _
      have o := ok_lft a.2 (Γ.length - a.2) a.1 0 e2
      rw [show a.2 + (Γ.length - a.2) + 0 = Γ.length by omega] at o
      have et : tch (lft a.2 (Γ.length - a.2) a.1) = tch a.1 := tch_lft _ _ _ _ e2
      have q := (val_up (z := z) (c := cv + cd) T (by rw [hl]; exact o) (by rw [et]; omega) (by omega) hw hz).1
      have q2 := (psc_m hp mp hb).1
      omega
    rw [if_neg c5] at em
    rw [if_neg c5]
    by_cases c6 : nKd t = 6
    · rw [if_pos (Or.inl c6)] at em
      rw [if_pos c6]
      obtain ⟨-, x1, x2, x3⟩ := w6 c6
      have tp := tch_pos x1
      have e1 : 1 ≤ mch (nY t) := by
        cases f with
        | zero => exact x3.elim
        | succ f => exact mch_pos x3
      have q := GB2_le T f (nY t) z ω Γ ((nPl t, nX t, Γ.length) :: Δ) cv (cd + tch (nX t) + 4) kb x3 (he.lam x1 x2) hl hw hz (by show (tch (nX t) + 4) + dch Δ ≤ _; omega) (by omega) hE (by omega)
      obtain ⟨p, pp, q1⟩ := val_text (z := z) (cv := cv) T (by rw [hl]; exact x1) (by omega) (by omega) hw hz
      have q2 := ((psc_k hp (c := cv + cd) tp e1 (by omega)).2.2.1 (by omega)).2 p pp
      have q3 := fxc_le T.2.1 (c := cv) (d := cv + cd) (by omega) (by omega)
      have q4 := Nat.mul_le_mul_left p.1 q3
      have q5 := T.2.2.2.1
      rw [em, show 4 + (tch (nX t) + mch (nY t)) = tch (nX t) + mch (nY t) + 4 by omega]
      rw [show cv + (cd + tch (nX t) + 4) = cv + cd + tch (nX t) + 4 by omega] at q
      omega
    rw [if_neg c6]
    by_cases c7 : nKd t = 7
    · rw [if_neg (by omega), if_neg (by omega), if_neg (by omega)] at em
      rw [if_pos c7]
      obtain ⟨x1, x2⟩ := w7 (Or.inl c7)
      have e1 : 1 ≤ mch (nX t) := by
        cases f with
        | zero => exact x1.elim
        | succ f => exact mch_pos x1
      have q := GB2_le T f (nX t) z ω Γ Δ cv cd kb x1 he hl hw hz hd hkb hE (by omega)
      have q2 := psc_up hp e1 (k := mch t) (by omega) hb
      have q5 := hE cv z (Nat.le_refl _) (by omega) hz
      have q6 := fxc_le T.2.1 (c := cv + kb + 4) (d := cv + cd) (by omega) (by omega)
      have q7 := (psc_m hp mp hb).1
      omega
    rw [if_neg c7]
    by_cases c8 : nKd t = 8
    · rw [if_pos c8]; exact Nat.zero_le _
    rw [if_neg c8]
    rw [if_neg (by omega)] at em
    by_cases c9 : nKd t = 9
    · rw [if_pos c9] at em ⊢
      obtain ⟨x1, x2, x3⟩ := w9 c9
      have tp := tch_pos x2
      have e1 : 1 ≤ mch (nX t) := by
        cases f with
        | zero => exact x1.elim
        | succ f => exact mch_pos x1
      by_cases eq : tch (nY t) = 1
      · have u := val_arg (z := z) (cv := cv) (c := cv) T (A := nY t) (by rw [hl]; exact x2) hw hz (Nat.le_refl _) (Or.inl eq) (by omega)
        have q := GB2_le T f (nX t) _ ω Γ Δ cv cd kb x1 he hl hw u hd hkb hE (by omega)
        have q5 := hE cv _ (Nat.le_refl _) (by omega) u
        have q6 := fxc_le T.2.1 (c := cv + kb + 4) (d := cv + cd) (by omega) (by omega)
        have q7 := (psc_m hp mp hb).1
        have q2 := psc_up hp e1 (k := mch t) (by omega) hb
        omega
      · have u := val_arg (z := z) (cv := cv) (c := cv + tch (nY t) + 4) T (A := nY t) (by rw [hl]; exact x2) hw hz (by omega) (Or.inr (Nat.le_refl _)) (by omega)
        have q3 := fxc_le T.2.1 (c := cv) (d := cv + tch (nY t) + 4) (by omega) (by omega)
        have q := GB2_le T f (nX t) _ ω Γ Δ (cv + tch (nY t) + 4) cd kb x1 he hl (fun j hj => Nat.le_trans (hw j hj) q3) u hd hkb (fun c z h1 h2 h3 => hE c z (by omega) h2 h3) (by omega)
        have q5 := hE (cv + tch (nY t) + 4) _ (by omega) (by omega) u
        have q6 := fxc_le T.2.1 (c := cv + tch (nY t) + 4 + kb + 4) (d := cv + tch (nY t) + 4 + cd) (by omega) (by omega)
        have q7 := (psc_m hp (c := cv + tch (nY t) + 4 + cd) (m := mch (nX t)) e1 (by omega)).1
        have q2 := (psc_k hp (c := cv + cd) tp e1 (by omega)).2.2.2 (by omega) (by omega)
        rw [em, show 1 + (mch (nX t) + tch (nY t)) = tch (nY t) + mch (nX t) + 1 by omega]
        rw [show cv + tch (nY t) + 4 + cd = cv + cd + tch (nY t) + 4 by omega] at q q6 q7
        omega
    rw [if_neg c9]
    rw [if_neg c9] at em
    by_cases c10 : nKd t = 10
    · rw [if_pos c10] at em ⊢
      obtain ⟨m8, x1⟩ := w10 c10
      have hmr := T.2.2.2.2.1 (nMk t) m8
      have key : ∀ g, g < 3 → bit (nMk t) g = true → GB2 t0 n1 s2 h e f (nP t g) z ω Γ Δ ≤ pg P (cv + cd) (mch (nP t g)) ∧ 1 ≤ mch (nP t g) := by
        intro g hg hbg
        have w := x1 g hg hbg
        have m1 : mch (nP t g) ≤ mch t := by
          rw [em]
          rcases (show g = 0 ∨ g = 1 ∨ g = 2 by omega) with rfl | rfl | rfl
          · show mch (nX t) ≤ _; omega
          · show mch (nY t) ≤ _; omega
          · show mch (nZ t) ≤ _; omega
        refine ⟨GB2_le T f (nP t g) z ω Γ Δ cv cd kb w he hl hw hz hd hkb hE (by omega), ?_⟩
        cases f with
        | zero => exact w.elim
        | succ f => exact mch_pos w
      have k0 : bit (nMk t) 0 = true → GB2 t0 n1 s2 h e f (nX t) z ω Γ Δ ≤ pg P (cv + cd) (mch (nX t)) ∧ 1 ≤ mch (nX t) := key 0 (by decide)
      have k1 : bit (nMk t) 1 = true → GB2 t0 n1 s2 h e f (nY t) z ω Γ Δ ≤ pg P (cv + cd) (mch (nY t)) ∧ 1 ≤ mch (nY t) := key 1 (by decide)
      have k2 : bit (nMk t) 2 = true → GB2 t0 n1 s2 h e f (nZ t) z ω Γ Δ ≤ pg P (cv + cd) (mch (nZ t)) ∧ 1 ≤ mch (nZ t) := key 2 (by decide)
      clear key x1
      have hbb := hb
      rw [em] at hb
      rw [em]
      rcases (show nMk t = 0 ∨ nMk t = 1 ∨ nMk t = 2 ∨ nMk t = 3 ∨ nMk t = 4 ∨ nMk t = 5 ∨ nMk t = 6 ∨ nMk t = 7 by omega) with e | e | e | e | e | e | e | e
      · rw [e] at hmr hb k0 k1 k2 ⊢
        rw [if_neg (by decide), if_neg (by decide), if_neg (by decide)]
        have hmr : n1 (8 + 0) ≤ r0 := hmr
        rw [if_pos rfl] at hb ⊢
        have q1 := (psc_m hp (c := cv + cd) (m := 2) (by decide) (by omega)).2.1 (by decide)
        have q2 := psc_up hp (c := cv + cd) (m := 2) (by decide) (k := 2 + (mch (nX t) + (mch (nY t) + mch (nZ t)))) (by omega) (by omega)
        omega
      · rw [e] at hmr hb k0 k1 k2 ⊢
        obtain ⟨a0, b0⟩ := k0 (by decide)
        rw [if_pos (by decide), if_neg (by decide), if_neg (by decide)]
        have hmr : n1 (8 + 1) ≤ r1 := hmr
        rw [if_neg (by decide)] at hb ⊢
        have en : nlb 1 = 1 := by decide
        rw [en] at hb ⊢
        have q1 := (psc_m hp (c := cv + cd) (m := mch (nX t)) b0 (by omega)).2.2.2.1 (by omega)
        have q2 := psc_up hp (c := cv + cd) (m := mch (nX t) + 4) (by omega) (k := 1 + 3 * 1 + (mch (nX t) + (mch (nY t) + mch (nZ t)))) (by omega) (by omega)
        omega
      · rw [e] at hmr hb k0 k1 k2 ⊢
        obtain ⟨a1, b1⟩ := k1 (by decide)
        rw [if_neg (by decide), if_pos (by decide), if_neg (by decide)]
        have hmr : n1 (8 + 2) ≤ r1 := hmr
        rw [if_neg (by decide)] at hb ⊢
        have en : nlb 2 = 1 := by decide
        rw [en] at hb ⊢
        have q1 := (psc_m hp (c := cv + cd) (m := mch (nY t)) b1 (by omega)).2.2.2.1 (by omega)
        have q2 := psc_up hp (c := cv + cd) (m := mch (nY t) + 4) (by omega) (k := 1 + 3 * 1 + (mch (nX t) + (mch (nY t) + mch (nZ t)))) (by omega) (by omega)
        omega
      · rw [e] at hmr hb k0 k1 k2 ⊢
        obtain ⟨a0, b0⟩ := k0 (by decide)
        obtain ⟨a1, b1⟩ := k1 (by decide)
        rw [if_pos (by decide), if_pos (by decide), if_neg (by decide)]
        have hmr : n1 (8 + 3) ≤ r2 := hmr
        rw [if_neg (by decide)] at hb ⊢
        have en : nlb 3 = 2 := by decide
        rw [en] at hb ⊢
        have q0 := (psc_k hp (c := cv + cd) b0 b1 (by omega)).1
        have q1 := (psc_m hp (c := cv + cd) (m := mch (nX t) + mch (nY t)) (by omega) (by omega)).2.2.2.2.2 (by omega) (by omega)
        have q2 := psc_up hp (c := cv + cd) (m := mch (nX t) + mch (nY t) + 7) (by omega) (k := 1 + 3 * 2 + (mch (nX t) + (mch (nY t) + mch (nZ t)))) (by omega) (by omega)
        omega
      · rw [e] at hmr hb k0 k1 k2 ⊢
        obtain ⟨a2, b2⟩ := k2 (by decide)
        rw [if_neg (by decide), if_neg (by decide), if_pos (by decide)]
        have hmr : n1 (8 + 4) ≤ r1 := hmr
        rw [if_neg (by decide)] at hb ⊢
        have en : nlb 4 = 1 := by decide
        rw [en] at hb ⊢
        have q1 := (psc_m hp (c := cv + cd) (m := mch (nZ t)) b2 (by omega)).2.2.2.1 (by omega)
        have q2 := psc_up hp (c := cv + cd) (m := mch (nZ t) + 4) (by omega) (k := 1 + 3 * 1 + (mch (nX t) + (mch (nY t) + mch (nZ t)))) (by omega) (by omega)
        omega
      · rw [e] at hmr hb k0 k1 k2 ⊢
        obtain ⟨a0, b0⟩ := k0 (by decide)
        obtain ⟨a2, b2⟩ := k2 (by decide)
        rw [if_pos (by decide), if_neg (by decide), if_pos (by decide)]
        have hmr : n1 (8 + 5) ≤ r2 := hmr
        rw [if_neg (by decide)] at hb ⊢
        have en : nlb 5 = 2 := by decide
        rw [en] at hb ⊢
        have q0 := (psc_k hp (c := cv + cd) b0 b2 (by omega)).1
        have q1 := (psc_m hp (c := cv + cd) (m := mch (nX t) + mch (nZ t)) (by omega) (by omega)).2.2.2.2.2 (by omega) (by omega)
        have q2 := psc_up hp (c := cv + cd) (m := mch (nX t) + mch (nZ t) + 7) (by omega) (k := 1 + 3 * 2 + (mch (nX t) + (mch (nY t) + mch (nZ t)))) (by omega) (by omega)
        omega
      · rw [e] at hmr hb k0 k1 k2 ⊢
        obtain ⟨a1, b1⟩ := k1 (by decide)
        obtain ⟨a2, b2⟩ := k2 (by decide)
        rw [if_neg (by decide), if_pos (by decide), if_pos (by decide)]
        have hmr : n1 (8 + 6) ≤ r2 := hmr
        rw [if_neg (by decide)] at hb ⊢
        have en : nlb 6 = 2 := by decide
        rw [en] at hb ⊢
        have q0 := (psc_k hp (c := cv + cd) b1 b2 (by omega)).1
        have q1 := (psc_m hp (c := cv + cd) (m := mch (nY t) + mch (nZ t)) (by omega) (by omega)).2.2.2.2.2 (by omega) (by omega)
        have q2 := psc_up hp (c := cv + cd) (m := mch (nY t) + mch (nZ t) + 7) (by omega) (k := 1 + 3 * 2 + (mch (nX t) + (mch (nY t) + mch (nZ t)))) (by omega) (by omega)
        omega
      · rw [e] at hmr hb k0 k1 k2 ⊢
        obtain ⟨a0, b0⟩ := k0 (by decide)
        obtain ⟨a1, b1⟩ := k1 (by decide)
        obtain ⟨a2, b2⟩ := k2 (by decide)
        rw [if_pos (by decide), if_pos (by decide), if_pos (by decide)]
        have hmr : n1 (8 + 7) ≤ r3 := hmr
        rw [if_neg (by decide)] at hb ⊢
        have en : nlb 7 = 3 := by decide
        rw [en] at hb ⊢
        have q0 := (psc_k hp (c := cv + cd) b0 b1 (by omega)).1
        have q1 := (psc_k hp (c := cv + cd) (m := mch (nX t) + mch (nY t)) (k := mch (nZ t)) (by omega) b2 (by omega)).2.1 (by omega) (by omega)
        have q2 := psc_up hp (c := cv + cd) (m := mch (nX t) + mch (nY t) + mch (nZ t) + 10) (by omega) (k := 1 + 3 * 3 + (mch (nX t) + (mch (nY t) + mch (nZ t)))) (by omega) (by omega)
        omega
    rw [if_neg c10]
    rw [if_neg c10] at em
    by_cases c11 : nKd t = 11
    · rw [if_pos c11]
      obtain ⟨m3, x1⟩ := w11 c11
      have e1 : 1 ≤ mch (nX t) := by
        cases f with
        | zero => exact x1.elim
        | succ f => exact mch_pos x1
      have q := GB2_le T f (nX t) z ω Γ Δ cv cd kb x1 he hl hw hz hd hkb hE (by omega)
      have q2 := psc_up hp e1 (k := mch t) (by omega) hb
      have q5 := hE cv z (Nat.le_refl _) (by omega) hz
      have q6 := fxc_le T.2.1 (c := cv + kb + 4) (d := cv + cd) (by omega) (by omega)
      have q7 := (psc_m hp mp hb).1
      omega
    rw [if_neg c11]
    exact Nat.zero_le _
theorem GB1_le (hm : ∀ y y', y ≤ y' → h y ≤ h y') (T : TBs N t0 fn s2 hv r0 r1 r2 r3 x0 n1 h P Q F G X) : ∀ (f : Nat) (t : Ty) (z : Nat) (ω : List Nat) (Γ : List Ty) (Δ : List (Nat × Ty × Nat)) (cv cd kb : Nat), TWf f Γ.length (Δ.map (fun a => a.1)) t → TE Γ Δ → ω.length = Γ.length → (∀ j, j < ω.length → vw ω j ≤ X.getD cv 0) → z ≤ X.getD cv 0 → dch Δ ≤ cd → kb + 4 ≤ cd → (∀ c z, cv ≤ c → c + kb + 4 ≤ 56 → z ≤ X.getD c 0 → e z ≤ X.getD (c + kb + 4) 0) → cv + cd + 2 * mch t ≤ N → GB1 t0 n1 s2 h e f t z ω Γ Δ ≤ pg P (cv + cd) (mch t)
  | 0, _, _, _, _, _, _, _, _, w, _, _, _, _, _, _, _, _ => w.elim
  | f + 1, t, z, ω, Γ, Δ, cv, cd, kb, w, he, hl, hw, hz, hd, hkb, hE, hb => by
    have mp := mch_pos w
    obtain ⟨w0, w5, w6, w7, w8, w9, w10, w11, w12⟩ := w
    have em := mch_is w0.2.1
    have hN := T.2.2.2.2.2.2.1
    have hp := T.2.2.2.2.2.1
    unfold GB1
    by_cases c5 : nKd t = 5
    · rw [if_pos c5] at em ⊢
      obtain ⟨a, ha⟩ := dlk_some (w5 c5)
      obtain ⟨e1, e2, e3⟩ := he.2.2 _ (dlk_mem ha)
      have e1 : a.2 ≤ Γ.length := e1
      have e2 : ok a.2 a.1 = true := e2
      have e4 : tch a.1 + 4 ≤ dch Δ := dch_mem (dlk_mem ha)
      rw [ha]
      have u1 := nz1_le (t0 := t0) (n1 := n1) (s2 := s2) hm z _ (lft a.2 (Γ.length - a.2) a.1) ω (Nat.le_refl _) (by
        rw [hl]
        have o := ok_lft a.2 (Γ.length - a.2) a.1 0 e2
        rwa [show a.2 + (Γ.length - a.2) + 0 = Γ.length by omega] at o)
      show nz1 t0 n1 s2 h z ω (lft a.2 (Γ.length - a.2) a.1) ≤ _
      have o := ok_lft a.2 (Γ.length - a.2) a.1 0 e2
      rw [show a.2 + (Γ.length - a.2) + 0 = Γ.length by omega] at o
      have et : tch (lft a.2 (Γ.length - a.2) a.1) = tch a.1 := tch_lft _ _ _ _ e2
      have q := (val_up (z := z) (c := cv + cd) T (by rw [hl]; exact o) (by rw [et]; omega) (by omega) hw hz).1
      have q2 := (psc_m hp mp hb).1
      omega
    rw [if_neg c5] at em
    rw [if_neg c5]
    by_cases c6 : nKd t = 6
    · rw [if_pos (Or.inl c6)] at em
      rw [if_pos c6]
      obtain ⟨-, x1, x2, x3⟩ := w6 c6
      have tp := tch_pos x1
      have e1 : 1 ≤ mch (nY t) := by
        cases f with
        | zero => exact x3.elim
        | succ f => exact mch_pos x3
      have q := GB1_le hm T f (nY t) z ω Γ ((nPl t, nX t, Γ.length) :: Δ) cv (cd + tch (nX t) + 4) kb x3 (he.lam x1 x2) hl hw hz (by show (tch (nX t) + 4) + dch Δ ≤ _; omega) (by omega) hE (by omega)
      have u1 := nz1_le (t0 := t0) (n1 := n1) (s2 := s2) hm z _ (nX t) ω (Nat.le_refl _) (by rw [hl]; exact x1)
      obtain ⟨p, pp, q1⟩ := val_text (z := z) (cv := cv) T (by rw [hl]; exact x1) (by omega) (by omega) hw hz
      have q2 := ((psc_k hp (c := cv + cd) tp e1 (by omega)).2.2.1 (by omega)).2 p pp
      have q3 := fxc_le T.2.1 (c := cv) (d := cv + cd) (by omega) (by omega)
      have q4 := Nat.mul_le_mul_left p.1 q3
      have q5 := T.2.2.2.1
      rw [em, show 4 + (tch (nX t) + mch (nY t)) = tch (nX t) + mch (nY t) + 4 by omega]
      rw [show cv + (cd + tch (nX t) + 4) = cv + cd + tch (nX t) + 4 by omega] at q
      omega
    rw [if_neg c6]
    by_cases c7 : nKd t = 7
    · rw [if_neg (by omega), if_neg (by omega), if_neg (by omega)] at em
      rw [if_pos c7]
      obtain ⟨x1, x2⟩ := w7 (Or.inl c7)
      have e1 : 1 ≤ mch (nX t) := by
        cases f with
        | zero => exact x1.elim
        | succ f => exact mch_pos x1
      have q := GB1_le hm T f (nX t) z ω Γ Δ cv cd kb x1 he hl hw hz hd hkb hE (by omega)
      have q2 := psc_up hp e1 (k := mch t) (by omega) hb
      have q5 := hE cv z (Nat.le_refl _) (by omega) hz
      have q6 := fxc_le T.2.1 (c := cv + kb + 4) (d := cv + cd) (by omega) (by omega)
      have q7 := (psc_m hp mp hb).1
      omega
    rw [if_neg c7]
    by_cases c8 : nKd t = 8
    · rw [if_pos c8]; exact Nat.zero_le _
    rw [if_neg c8]
    rw [if_neg (by omega)] at em
    by_cases c9 : nKd t = 9
    · rw [if_pos c9] at em ⊢
      obtain ⟨x1, x2, x3⟩ := w9 c9
      have tp := tch_pos x2
      have e1 : 1 ≤ mch (nX t) := by
        cases f with
        | zero => exact x1.elim
        | succ f => exact mch_pos x1
      by_cases eq : tch (nY t) = 1
      · have u := val_arg (z := z) (cv := cv) (c := cv) T (A := nY t) (by rw [hl]; exact x2) hw hz (Nat.le_refl _) (Or.inl eq) (by omega)
        have q := GB2_le T f (nX t) _ ω Γ Δ cv cd kb x1 he hl hw u hd hkb hE (by omega)
        have q5 := hE cv _ (Nat.le_refl _) (by omega) u
        have q6 := fxc_le T.2.1 (c := cv + kb + 4) (d := cv + cd) (by omega) (by omega)
        have q7 := (psc_m hp mp hb).1
        have q2 := psc_up hp e1 (k := mch t) (by omega) hb
        omega
      · have u := val_arg (z := z) (cv := cv) (c := cv + tch (nY t) + 4) T (A := nY t) (by rw [hl]; exact x2) hw hz (by omega) (Or.inr (Nat.le_refl _)) (by omega)
        have q3 := fxc_le T.2.1 (c := cv) (d := cv + tch (nY t) + 4) (by omega) (by omega)
        have q := GB2_le T f (nX t) _ ω Γ Δ (cv + tch (nY t) + 4) cd kb x1 he hl (fun j hj => Nat.le_trans (hw j hj) q3) u hd hkb (fun c z h1 h2 h3 => hE c z (by omega) h2 h3) (by omega)
        have q5 := hE (cv + tch (nY t) + 4) _ (by omega) (by omega) u
        have q6 := fxc_le T.2.1 (c := cv + tch (nY t) + 4 + kb + 4) (d := cv + tch (nY t) + 4 + cd) (by omega) (by omega)
        have q7 := (psc_m hp (c := cv + tch (nY t) + 4 + cd) (m := mch (nX t)) e1 (by omega)).1
        have q2 := (psc_k hp (c := cv + cd) tp e1 (by omega)).2.2.2 (by omega) (by omega)
        rw [em, show 1 + (mch (nX t) + tch (nY t)) = tch (nY t) + mch (nX t) + 1 by omega]
        rw [show cv + tch (nY t) + 4 + cd = cv + cd + tch (nY t) + 4 by omega] at q q6 q7
        omega
    rw [if_neg c9]
    rw [if_neg c9] at em
    by_cases c10 : nKd t = 10
    · rw [if_pos c10] at em ⊢
      obtain ⟨m8, x1⟩ := w10 c10
      have hmr := T.2.2.2.2.1 (nMk t) m8
      have key : ∀ g, g < 3 → bit (nMk t) g = true → GB1 t0 n1 s2 h e f (nP t g) z ω Γ Δ ≤ pg P (cv + cd) (mch (nP t g)) ∧ 1 ≤ mch (nP t g) := by
        intro g hg hbg
        have w := x1 g hg hbg
        have m1 : mch (nP t g) ≤ mch t := by
          rw [em]
          rcases (show g = 0 ∨ g = 1 ∨ g = 2 by omega) with rfl | rfl | rfl
          · show mch (nX t) ≤ _; omega
          · show mch (nY t) ≤ _; omega
          · show mch (nZ t) ≤ _; omega
        refine ⟨GB1_le hm T f (nP t g) z ω Γ Δ cv cd kb w he hl hw hz hd hkb hE (by omega), ?_⟩
        cases f with
        | zero => exact w.elim
        | succ f => exact mch_pos w
      have k0 : bit (nMk t) 0 = true → GB1 t0 n1 s2 h e f (nX t) z ω Γ Δ ≤ pg P (cv + cd) (mch (nX t)) ∧ 1 ≤ mch (nX t) := key 0 (by decide)
      have k1 : bit (nMk t) 1 = true → GB1 t0 n1 s2 h e f (nY t) z ω Γ Δ ≤ pg P (cv + cd) (mch (nY t)) ∧ 1 ≤ mch (nY t) := key 1 (by decide)
      have k2 : bit (nMk t) 2 = true → GB1 t0 n1 s2 h e f (nZ t) z ω Γ Δ ≤ pg P (cv + cd) (mch (nZ t)) ∧ 1 ≤ mch (nZ t) := key 2 (by decide)
      clear key x1
      have hbb := hb
      rw [em] at hb
      rw [em]
      rcases (show nMk t = 0 ∨ nMk t = 1 ∨ nMk t = 2 ∨ nMk t = 3 ∨ nMk t = 4 ∨ nMk t = 5 ∨ nMk t = 6 ∨ nMk t = 7 by omega) with e | e | e | e | e | e | e | e
      · rw [e] at hmr hb k0 k1 k2 ⊢
        rw [if_neg (by decide), if_neg (by decide), if_neg (by decide)]
        have hmr : n1 (8 + 0) ≤ r0 := hmr
        rw [if_pos rfl] at hb ⊢
        have q1 := (psc_m hp (c := cv + cd) (m := 2) (by decide) (by omega)).2.1 (by decide)
        have q2 := psc_up hp (c := cv + cd) (m := 2) (by decide) (k := 2 + (mch (nX t) + (mch (nY t) + mch (nZ t)))) (by omega) (by omega)
        omega
      · rw [e] at hmr hb k0 k1 k2 ⊢
        obtain ⟨a0, b0⟩ := k0 (by decide)
        rw [if_pos (by decide), if_neg (by decide), if_neg (by decide)]
        have hmr : n1 (8 + 1) ≤ r1 := hmr
        rw [if_neg (by decide)] at hb ⊢
        have en : nlb 1 = 1 := by decide
        rw [en] at hb ⊢
        have q1 := (psc_m hp (c := cv + cd) (m := mch (nX t)) b0 (by omega)).2.2.2.1 (by omega)
        have q2 := psc_up hp (c := cv + cd) (m := mch (nX t) + 4) (by omega) (k := 1 + 3 * 1 + (mch (nX t) + (mch (nY t) + mch (nZ t)))) (by omega) (by omega)
        omega
      · rw [e] at hmr hb k0 k1 k2 ⊢
        obtain ⟨a1, b1⟩ := k1 (by decide)
        rw [if_neg (by decide), if_pos (by decide), if_neg (by decide)]
        have hmr : n1 (8 + 2) ≤ r1 := hmr
        rw [if_neg (by decide)] at hb ⊢
        have en : nlb 2 = 1 := by decide
        rw [en] at hb ⊢
        have q1 := (psc_m hp (c := cv + cd) (m := mch (nY t)) b1 (by omega)).2.2.2.1 (by omega)
        have q2 := psc_up hp (c := cv + cd) (m := mch (nY t) + 4) (by omega) (k := 1 + 3 * 1 + (mch (nX t) + (mch (nY t) + mch (nZ t)))) (by omega) (by omega)
        omega
      · rw [e] at hmr hb k0 k1 k2 ⊢
        obtain ⟨a0, b0⟩ := k0 (by decide)
        obtain ⟨a1, b1⟩ := k1 (by decide)
        rw [if_pos (by decide), if_pos (by decide), if_neg (by decide)]
        have hmr : n1 (8 + 3) ≤ r2 := hmr
        rw [if_neg (by decide)] at hb ⊢
        have en : nlb 3 = 2 := by decide
        rw [en] at hb ⊢
        have q0 := (psc_k hp (c := cv + cd) b0 b1 (by omega)).1
        have q1 := (psc_m hp (c := cv + cd) (m := mch (nX t) + mch (nY t)) (by omega) (by omega)).2.2.2.2.2 (by omega) (by omega)
        have q2 := psc_up hp (c := cv + cd) (m := mch (nX t) + mch (nY t) + 7) (by omega) (k := 1 + 3 * 2 + (mch (nX t) + (mch (nY t) + mch (nZ t)))) (by omega) (by omega)
        omega
      · rw [e] at hmr hb k0 k1 k2 ⊢
        obtain ⟨a2, b2⟩ := k2 (by decide)
        rw [if_neg (by decide), if_neg (by decide), if_pos (by decide)]
        have hmr : n1 (8 + 4) ≤ r1 := hmr
        rw [if_neg (by decide)] at hb ⊢
        have en : nlb 4 = 1 := by decide
        rw [en] at hb ⊢
        have q1 := (psc_m hp (c := cv + cd) (m := mch (nZ t)) b2 (by omega)).2.2.2.1 (by omega)
        have q2 := psc_up hp (c := cv + cd) (m := mch (nZ t) + 4) (by omega) (k := 1 + 3 * 1 + (mch (nX t) + (mch (nY t) + mch (nZ t)))) (by omega) (by omega)
        omega
      · rw [e] at hmr hb k0 k1 k2 ⊢
        obtain ⟨a0, b0⟩ := k0 (by decide)
        obtain ⟨a2, b2⟩ := k2 (by decide)
        rw [if_pos (by decide), if_neg (by decide), if_pos (by decide)]
        have hmr : n1 (8 + 5) ≤ r2 := hmr
        rw [if_neg (by decide)] at hb ⊢
        have en : nlb 5 = 2 := by decide
        rw [en] at hb ⊢
        have q0 := (psc_k hp (c := cv + cd) b0 b2 (by omega)).1
        have q1 := (psc_m hp (c := cv + cd) (m := mch (nX t) + mch (nZ t)) (by omega) (by omega)).2.2.2.2.2 (by omega) (by omega)
        have q2 := psc_up hp (c := cv + cd) (m := mch (nX t) + mch (nZ t) + 7) (by omega) (k := 1 + 3 * 2 + (mch (nX t) + (mch (nY t) + mch (nZ t)))) (by omega) (by omega)
        omega
      · rw [e] at hmr hb k0 k1 k2 ⊢
        obtain ⟨a1, b1⟩ := k1 (by decide)
        obtain ⟨a2, b2⟩ := k2 (by decide)
        rw [if_neg (by decide), if_pos (by decide), if_pos (by decide)]
        have hmr : n1 (8 + 6) ≤ r2 := hmr
        rw [if_neg (by decide)] at hb ⊢
        have en : nlb 6 = 2 := by decide
        rw [en] at hb ⊢
        have q0 := (psc_k hp (c := cv + cd) b1 b2 (by omega)).1
        have q1 := (psc_m hp (c := cv + cd) (m := mch (nY t) + mch (nZ t)) (by omega) (by omega)).2.2.2.2.2 (by omega) (by omega)
        have q2 := psc_up hp (c := cv + cd) (m := mch (nY t) + mch (nZ t) + 7) (by omega) (k := 1 + 3 * 2 + (mch (nX t) + (mch (nY t) + mch (nZ t)))) (by omega) (by omega)
        omega
      · rw [e] at hmr hb k0 k1 k2 ⊢
        obtain ⟨a0, b0⟩ := k0 (by decide)
        obtain ⟨a1, b1⟩ := k1 (by decide)
        obtain ⟨a2, b2⟩ := k2 (by decide)
        rw [if_pos (by decide), if_pos (by decide), if_pos (by decide)]
        have hmr : n1 (8 + 7) ≤ r3 := hmr
        rw [if_neg (by decide)] at hb ⊢
        have en : nlb 7 = 3 := by decide
        rw [en] at hb ⊢
        have q0 := (psc_k hp (c := cv + cd) b0 b1 (by omega)).1
        have q1 := (psc_k hp (c := cv + cd) (m := mch (nX t) + mch (nY t)) (k := mch (nZ t)) (by omega) b2 (by omega)).2.1 (by omega) (by omega)
        have q2 := psc_up hp (c := cv + cd) (m := mch (nX t) + mch (nY t) + mch (nZ t) + 10) (by omega) (k := 1 + 3 * 3 + (mch (nX t) + (mch (nY t) + mch (nZ t)))) (by omega) (by omega)
        omega
    rw [if_neg c10]
    rw [if_neg c10] at em
    by_cases c11 : nKd t = 11
    · rw [if_pos c11]
      obtain ⟨m3, x1⟩ := w11 c11
      have e1 : 1 ≤ mch (nX t) := by
        cases f with
        | zero => exact x1.elim
        | succ f => exact mch_pos x1
      have q := GB1_le hm T f (nX t) z ω Γ Δ cv cd kb x1 he hl hw hz hd hkb hE (by omega)
      have q2 := psc_up hp e1 (k := mch t) (by omega) hb
      have q5 := hE cv z (Nat.le_refl _) (by omega) hz
      have q6 := fxc_le T.2.1 (c := cv + kb + 4) (d := cv + cd) (by omega) (by omega)
      have q7 := (psc_m hp mp hb).1
      omega
    rw [if_neg c11]
    exact Nat.zero_le _
end PmLf
