/-! EVERY TERM BY NATURE, BY CHARACTERS. -/
/-- the longest bound that a term binds -/
def tbm : Nat → Ty → Nat
  | 0, _ => 0
  | f + 1, t => if nKd t = 6 then tbm f (nY t) else if nKd t = 7 ∨ nKd t = 11 then tbm f (nX t) else if nKd t = 8 then max (tch (nX t)) (tbm f (nY t)) else if nKd t = 10 then max (tbm f (nX t)) (max (tbm f (nY t)) (tbm f (nZ t))) else if nKd t = 9 then 0 else max (tbm f (nX t)) (tbm f (nY t))
section PmLg
variable {N t0 fn s2 hv r0 r1 r2 r3 x0 : Nat} {n1 h : Nat → Nat} {P Q : List (List Nat)} {F G : FrT} {X : List Nat}
theorem GC0_le (hm : ∀ y y', y ≤ y' → h y ≤ h y') (T : TBs N t0 fn s2 hv r0 r1 r2 r3 x0 n1 h P Q F G X) : ∀ (f : Nat) (t : Ty) (ω : List Nat) (Γ : List Ty) (Δ : List (Nat × Ty × Nat)) (cv cd : Nat), TWf f Γ.length (Δ.map (fun a => a.1)) t → TE Γ Δ → ω.length = Γ.length → (∀ j, j < ω.length → vw ω j ≤ X.getD cv 0) → dch Δ ≤ cd → (∀ b ∈ Γ, tch b + 4 ≤ cd) → (4 ≤ cd ∧ tbm f t + 4 ≤ cd) → cv + cd + 2 * mch t ≤ N → GC0 t0 n1 s2 h f t ω Γ Δ ≤ pg P (cv + cd) (mch t)
  | 0, _, _, _, _, _, _, w, _, _, _, _, _, _, _ => w.elim
  | f + 1, t, ω, Γ, Δ, cv, cd, w, he, hl, hw, hd, hk4, hT, hb => by
    have hT1 := hT.1
    have hT2 := hT.2
    unfold tbm at hT2
    have hz : 0 ≤ X.getD cv 0 := Nat.zero_le _
    have mp := mch_pos w
    obtain ⟨w0, w5, w6, w7, w8, w9, w10, w11, w12⟩ := w
    have em := mch_is w0.2.1
    have hN := T.2.2.2.2.2.2.1
    have hp := T.2.2.2.2.2.1
    unfold GC0
    by_cases c5 : nKd t = 5
    · rw [if_pos c5] at em ⊢
      obtain ⟨a, ha⟩ := dlk_some (w5 c5)
      obtain ⟨e1, e2, e3⟩ := he.2.2 _ (dlk_mem ha)
      have e1 : a.2 ≤ Γ.length := e1
      have e2 : ok a.2 a.1 = true := e2
      have e4 : tch a.1 + 4 ≤ dch Δ := dch_mem (dlk_mem ha)
      rw [ha]
      show nz t0 n1 s2 h ω (lft a.2 (Γ.length - a.2) a.1) ≤ _
      have o := ok_lft a.2 (Γ.length - a.2) a.1 0 e2
      rw [show a.2 + (Γ.length - a.2) + 0 = Γ.length by omega] at o
      have et : tch (lft a.2 (Γ.length - a.2) a.1) = tch a.1 := tch_lft _ _ _ _ e2
      have q := (val_up (z := 0) (c := cv + cd) T (by rw [hl]; exact o) (by rw [et]; omega) (by omega) hw hz).1
      have q2 := (psc_m hp mp hb).1
      rw [hzx_0] at q
      omega
    rw [if_neg c5] at em
    rw [if_neg c5]
    by_cases c6 : nKd t = 6
    · rw [if_pos (Or.inl c6)] at em
      rw [if_pos c6]
      obtain ⟨-, x1, x2, x3⟩ := w6 c6
      have tp := tch_pos x1
      have e1 : 1 ≤ mch (nY t) := by
        cases f with
        | zero => exact x3.elim
        | succ f => exact mch_pos x3
      have q := GC0_le hm T f (nY t) ω Γ ((nPl t, nX t, Γ.length) :: Δ) cv (cd + tch (nX t) + 4) x3 (he.lam x1 x2) hl hw (by show (tch (nX t) + 4) + dch Δ ≤ _; omega) (fun b hb => by have := hk4 b hb; omega) ⟨by omega, by rw [if_pos c6] at hT2; omega⟩ (by omega)
      obtain ⟨p, pp, q1⟩ := val_text (z := 0) (cv := cv) T (by rw [hl]; exact x1) (by omega) (by omega) hw hz
      rw [hzx_0] at q1
      have q2 := ((psc_k hp (c := cv + cd) tp e1 (by omega)).2.2.1 (by omega)).2 p pp
      have q3 := fxc_le T.2.1 (c := cv) (d := cv + cd) (by omega) (by omega)
      have q4 := Nat.mul_le_mul_left p.1 q3
      have q5 := T.2.2.2.1
      rw [em, show 4 + (tch (nX t) + mch (nY t)) = tch (nX t) + mch (nY t) + 4 by omega]
      rw [show cv + (cd + tch (nX t) + 4) = cv + cd + tch (nX t) + 4 by omega] at q
      omega
    rw [if_neg c6]
    by_cases c7 : nKd t = 7
    · rw [if_neg (by omega), if_neg (by omega), if_neg (by omega)] at em
      rw [if_pos c7]
      obtain ⟨x1, x2⟩ := w7 (Or.inl c7)
      have e1 : 1 ≤ mch (nX t) := by
        cases f with
        | zero => exact x1.elim
        | succ f => exact mch_pos x1
      have q := GC0_le hm T f (nX t) ω Γ Δ cv cd x1 he hl hw hd hk4 ⟨hT1, by rw [if_neg c6, if_pos (Or.inl c7)] at hT2; omega⟩ (by omega)
      have q2 := psc_up hp e1 (k := mch t) (by omega) hb
      omega
    rw [if_neg c7]
    by_cases c8 : nKd t = 8
    · rw [if_pos (Or.inr c8)] at em
      rw [if_pos c8]
      obtain ⟨x1, x2, x3⟩ := w8 c8
      have tp := tch_pos x1
      have e1 : 1 ≤ mch (nY t) := by
        cases f with
        | zero => exact x3.elim
        | succ f => exact mch_pos x3
      have u := (val_up (z := 0) (cv := cv) (c := cv + tch (nX t) + 4) T (A := nX t) (by rw [hl]; exact x1) (Nat.le_refl _) (by omega) hw hz).2
      rw [hzx_0] at u
      have q3 := fxc_le T.2.1 (c := cv) (d := cv + tch (nX t) + 4) (by omega) (by omega)
      rw [if_neg c6, if_neg (by omega), if_pos c8] at hT2
      have q := GC0_le hm T f (nY t) (h (nz t0 n1 s2 h ω (nX t)) :: ω) (nX t :: Γ) Δ (cv + tch (nX t) + 4) cd x3 (he.all x1 x2) (by rw [List.length_cons, List.length_cons, hl]) (fun j hj => by
        rw [vw_cons]
        by_cases e : j = ω.length
        · rw [if_pos e]; exact u
        · rw [if_neg e]
          have := hw j (by rw [List.length_cons] at hj; omega)
          omega) hd (fun b hb => by
        rcases List.mem_cons.mp hb with e | e
        · rw [e]; omega
        · exact hk4 b e) ⟨hT1, by omega⟩ (by omega)
      have q2 := ((psc_k hp (c := cv + cd) tp e1 (by omega)).2.2.1 (by omega)).1
      rw [em, show 4 + (tch (nX t) + mch (nY t)) = tch (nX t) + mch (nY t) + 4 by omega]
      rw [show cv + tch (nX t) + 4 + cd = cv + cd + tch (nX t) + 4 by omega] at q
      omega
    rw [if_neg c8]
    rw [if_neg (by omega)] at em
    by_cases c9 : nKd t = 9
    · rw [if_pos c9] at em ⊢
      obtain ⟨x1, x2, x3⟩ := w9 c9
      have tp := tch_pos x2
      have e1 : 1 ≤ mch (nX t) := by
        cases f with
        | zero => exact x1.elim
        | succ f => exact mch_pos x1
      by_cases eq : tch (nY t) = 1
      · have u := val_arg (z := 0) (cv := cv) (c := cv) T (A := nY t) (by rw [hl]; exact x2) hw hz (Nat.le_refl _) (Or.inl eq) (by omega)
        rw [hzx_0, Nat.max_eq_right (Nat.zero_le _)] at u
        have q := GV1_le T f (nX t) _ ω Γ Δ cv cd x1 he hl hw u hd (by omega)
        have kbs : ∀ b ∈ Γ, tch b ≤ cd - 4 := fun b hb => by have := hk4 b hb; omega
        have hE : ∀ c z, cv ≤ c → c + (cd - 4) + 4 ≤ 56 → z ≤ X.getD c 0 → ebd t0 n1 s2 h ω Γ z ≤ X.getD (c + (cd - 4) + 4) 0 := fun c z h1 h2 h3 => ebd_X T h2 h3 he.1 hl (fun j hj => Nat.le_trans (hw j hj) (fxc_le T.2.1 h1 (by omega))) kbs
        have q' := GB1_le (e := ebd t0 n1 s2 h ω Γ) hm T f (nX t) _ ω Γ Δ cv cd (cd - 4) x1 he hl hw u hd (by omega) hE (by omega)
        have q5 := hE cv _ (Nat.le_refl _) (by omega) u
        rw [show cv + (cd - 4) + 4 = cv + cd by omega] at q5
        have q7 := (psc_m hp mp hb).1
        have q2 := psc_up hp e1 (k := mch t) (by omega) hb
        omega
      · have u := val_arg (z := 0) (cv := cv) (c := cv + tch (nY t) + 4) T (A := nY t) (by rw [hl]; exact x2) hw hz (by omega) (Or.inr (Nat.le_refl _)) (by omega)
        rw [hzx_0, Nat.max_eq_right (Nat.zero_le _)] at u
        have q3 := fxc_le T.2.1 (c := cv) (d := cv + tch (nY t) + 4) (by omega) (by omega)
        have hw3 : ∀ j, j < ω.length → vw ω j ≤ X.getD (cv + tch (nY t) + 4) 0 := fun j hj => Nat.le_trans (hw j hj) q3
        have q := GV1_le T f (nX t) _ ω Γ Δ (cv + tch (nY t) + 4) cd x1 he hl hw3 u hd (by omega)
        have kbs : ∀ b ∈ Γ, tch b ≤ cd - 4 := fun b hb => by have := hk4 b hb; omega
        have hE : ∀ c z, cv + tch (nY t) + 4 ≤ c → c + (cd - 4) + 4 ≤ 56 → z ≤ X.getD c 0 → ebd t0 n1 s2 h ω Γ z ≤ X.getD (c + (cd - 4) + 4) 0 := fun c z h1 h2 h3 => ebd_X T h2 h3 he.1 hl (fun j hj => Nat.le_trans (hw3 j hj) (fxc_le T.2.1 h1 (by omega))) kbs
        have q' := GB1_le (e := ebd t0 n1 s2 h ω Γ) hm T f (nX t) _ ω Γ Δ (cv + tch (nY t) + 4) cd (cd - 4) x1 he hl hw3 u hd (by omega) hE (by omega)
        have q5 := hE _ _ (Nat.le_refl _) (by omega) u
        have q7 := (psc_m hp (c := cv + tch (nY t) + 4 + cd) (m := mch (nX t)) e1 (by omega)).1
        have q2 := (psc_k hp (c := cv + cd) tp e1 (by omega)).2.2.2 (by omega) (by omega)
        rw [em, show 1 + (mch (nX t) + tch (nY t)) = tch (nY t) + mch (nX t) + 1 by omega]
        rw [show cv + tch (nY t) + 4 + (cd - 4) + 4 = cv + cd + tch (nY t) + 4 by omega] at q5
        rw [show cv + tch (nY t) + 4 + cd = cv + cd + tch (nY t) + 4 by omega] at q q' q7
        omega
    rw [if_neg c9]
    rw [if_neg c9] at em
    by_cases c10 : nKd t = 10
    · rw [if_pos c10] at em ⊢
      obtain ⟨m8, x1⟩ := w10 c10
      have hmr := T.2.2.2.2.1 (nMk t) m8
      have key : ∀ g, g < 3 → bit (nMk t) g = true → GC0 t0 n1 s2 h f (nP t g) ω Γ Δ ≤ pg P (cv + cd) (mch (nP t g)) ∧ 1 ≤ mch (nP t g) := by
        intro g hg hbg
        have w := x1 g hg hbg
        have m1 : mch (nP t g) ≤ mch t := by
          rw [em]
          rcases (show g = 0 ∨ g = 1 ∨ g = 2 by omega) with rfl | rfl | rfl
          · show mch (nX t) ≤ _; omega
          · show mch (nY t) ≤ _; omega
          · show mch (nZ t) ≤ _; omega
        refine ⟨GC0_le hm T f (nP t g) ω Γ Δ cv cd w he hl hw hd hk4 ⟨hT1, by
          rw [if_neg (by omega), if_neg (by omega), if_neg (by omega), if_pos c10] at hT2
          rcases (show g = 0 ∨ g = 1 ∨ g = 2 by omega) with rfl | rfl | rfl
          · show tbm f (nX t) + 4 ≤ cd; omega
          · show tbm f (nY t) + 4 ≤ cd; omega
          · show tbm f (nZ t) + 4 ≤ cd; omega⟩ (by omega), ?_⟩
        cases f with
        | zero => exact w.elim
        | succ f => exact mch_pos w
      have k0 : bit (nMk t) 0 = true → GC0 t0 n1 s2 h f (nX t) ω Γ Δ ≤ pg P (cv + cd) (mch (nX t)) ∧ 1 ≤ mch (nX t) := key 0 (by decide)
      have k1 : bit (nMk t) 1 = true → GC0 t0 n1 s2 h f (nY t) ω Γ Δ ≤ pg P (cv + cd) (mch (nY t)) ∧ 1 ≤ mch (nY t) := key 1 (by decide)
      have k2 : bit (nMk t) 2 = true → GC0 t0 n1 s2 h f (nZ t) ω Γ Δ ≤ pg P (cv + cd) (mch (nZ t)) ∧ 1 ≤ mch (nZ t) := key 2 (by decide)
      clear key x1
      have hbb := hb
      rw [em] at hb
      rw [em]
      rcases (show nMk t = 0 ∨ nMk t = 1 ∨ nMk t = 2 ∨ nMk t = 3 ∨ nMk t = 4 ∨ nMk t = 5 ∨ nMk t = 6 ∨ nMk t = 7 by omega) with e | e | e | e | e | e | e | e
      · rw [e] at hmr hb k0 k1 k2 ⊢
        rw [if_neg (by decide), if_neg (by decide), if_neg (by decide)]
        have hmr : n1 (8 + 0) ≤ r0 := hmr
        rw [if_pos rfl] at hb ⊢
        have q1 := (psc_m hp (c := cv + cd) (m := 2) (by decide) (by omega)).2.1 (by decide)
        have q2 := psc_up hp (c := cv + cd) (m := 2) (by decide) (k := 2 + (mch (nX t) + (mch (nY t) + mch (nZ t)))) (by omega) (by omega)
        omega
      · rw [e] at hmr hb k0 k1 k2 ⊢
        obtain ⟨a0, b0⟩ := k0 (by decide)
        rw [if_pos (by decide), if_neg (by decide), if_neg (by decide)]
        have hmr : n1 (8 + 1) ≤ r1 := hmr
        rw [if_neg (by decide)] at hb ⊢
        have en : nlb 1 = 1 := by decide
        rw [en] at hb ⊢
        have q1 := (psc_m hp (c := cv + cd) (m := mch (nX t)) b0 (by omega)).2.2.2.1 (by omega)
        have q2 := psc_up hp (c := cv + cd) (m := mch (nX t) + 4) (by omega) (k := 1 + 3 * 1 + (mch (nX t) + (mch (nY t) + mch (nZ t)))) (by omega) (by omega)
        omega
      · rw [e] at hmr hb k0 k1 k2 ⊢
        obtain ⟨a1, b1⟩ := k1 (by decide)
        rw [if_neg (by decide), if_pos (by decide), if_neg (by decide)]
        have hmr : n1 (8 + 2) ≤ r1 := hmr
        rw [if_neg (by decide)] at hb ⊢
        have en : nlb 2 = 1 := by decide
        rw [en] at hb ⊢
        have q1 := (psc_m hp (c := cv + cd) (m := mch (nY t)) b1 (by omega)).2.2.2.1 (by omega)
        have q2 := psc_up hp (c := cv + cd) (m := mch (nY t) + 4) (by omega) (k := 1 + 3 * 1 + (mch (nX t) + (mch (nY t) + mch (nZ t)))) (by omega) (by omega)
        omega
      · rw [e] at hmr hb k0 k1 k2 ⊢
        obtain ⟨a0, b0⟩ := k0 (by decide)
        obtain ⟨a1, b1⟩ := k1 (by decide)
        rw [if_pos (by decide), if_pos (by decide), if_neg (by decide)]
        have hmr : n1 (8 + 3) ≤ r2 := hmr
        rw [if_neg (by decide)] at hb ⊢
        have en : nlb 3 = 2 := by decide
        rw [en] at hb ⊢
        have q0 := (psc_k hp (c := cv + cd) b0 b1 (by omega)).1
        have q1 := (psc_m hp (c := cv + cd) (m := mch (nX t) + mch (nY t)) (by omega) (by omega)).2.2.2.2.2 (by omega) (by omega)
        have q2 := psc_up hp (c := cv + cd) (m := mch (nX t) + mch (nY t) + 7) (by omega) (k := 1 + 3 * 2 + (mch (nX t) + (mch (nY t) + mch (nZ t)))) (by omega) (by omega)
        omega
      · rw [e] at hmr hb k0 k1 k2 ⊢
        obtain ⟨a2, b2⟩ := k2 (by decide)
        rw [if_neg (by decide), if_neg (by decide), if_pos (by decide)]
        have hmr : n1 (8 + 4) ≤ r1 := hmr
        rw [if_neg (by decide)] at hb ⊢
        have en : nlb 4 = 1 := by decide
        rw [en] at hb ⊢
        have q1 := (psc_m hp (c := cv + cd) (m := mch (nZ t)) b2 (by omega)).2.2.2.1 (by omega)
        have q2 := psc_up hp (c := cv + cd) (m := mch (nZ t) + 4) (by omega) (k := 1 + 3 * 1 + (mch (nX t) + (mch (nY t) + mch (nZ t)))) (by omega) (by omega)
        omega
      · rw [e] at hmr hb k0 k1 k2 ⊢
        obtain ⟨a0, b0⟩ := k0 (by decide)
        obtain ⟨a2, b2⟩ := k2 (by decide)
        rw [if_pos (by decide), if_neg (by decide), if_pos (by decide)]
        have hmr : n1 (8 + 5) ≤ r2 := hmr
        rw [if_neg (by decide)] at hb ⊢
        have en : nlb 5 = 2 := by decide
        rw [en] at hb ⊢
        have q0 := (psc_k hp (c := cv + cd) b0 b2 (by omega)).1
        have q1 := (psc_m hp (c := cv + cd) (m := mch (nX t) + mch (nZ t)) (by omega) (by omega)).2.2.2.2.2 (by omega) (by omega)
        have q2 := psc_up hp (c := cv + cd) (m := mch (nX t) + mch (nZ t) + 7) (by omega) (k := 1 + 3 * 2 + (mch (nX t) + (mch (nY t) + mch (nZ t)))) (by omega) (by omega)
        omega
      · rw [e] at hmr hb k0 k1 k2 ⊢
        obtain ⟨a1, b1⟩ := k1 (by decide)
        obtain ⟨a2, b2⟩ := k2 (by decide)
        rw [if_neg (by decide), if_pos (by decide), if_pos (by decide)]
        have hmr : n1 (8 + 6) ≤ r2 := hmr
        rw [if_neg (by decide)] at hb ⊢
        have en : nlb 6 = 2 := by decide
        rw [en] at hb ⊢
        have q0 := (psc_k hp (c := cv + cd) b1 b2 (by omega)).1
        have q1 := (psc_m hp (c := cv + cd) (m := mch (nY t) + mch (nZ t)) (by omega) (by omega)).2.2.2.2.2 (by omega) (by omega)
        have q2 := psc_up hp (c := cv + cd) (m := mch (nY t) + mch (nZ t) + 7) (by omega) (k := 1 + 3 * 2 + (mch (nX t) + (mch (nY t) + mch (nZ t)))) (by omega) (by omega)
        omega
      · rw [e] at hmr hb k0 k1 k2 ⊢
        obtain ⟨a0, b0⟩ := k0 (by decide)
        obtain ⟨a1, b1⟩ := k1 (by decide)
        obtain ⟨a2, b2⟩ := k2 (by decide)
        rw [if_pos (by decide), if_pos (by decide), if_pos (by decide)]
        have hmr : n1 (8 + 7) ≤ r3 := hmr
        rw [if_neg (by decide)] at hb ⊢
        have en : nlb 7 = 3 := by decide
        rw [en] at hb ⊢
        have q0 := (psc_k hp (c := cv + cd) b0 b1 (by omega)).1
        have q1 := (psc_k hp (c := cv + cd) (m := mch (nX t) + mch (nY t)) (k := mch (nZ t)) (by omega) b2 (by omega)).2.1 (by omega) (by omega)
        have q2 := psc_up hp (c := cv + cd) (m := mch (nX t) + mch (nY t) + mch (nZ t) + 10) (by omega) (k := 1 + 3 * 3 + (mch (nX t) + (mch (nY t) + mch (nZ t)))) (by omega) (by omega)
        omega
    rw [if_neg c10]
    rw [if_neg c10] at em
    by_cases c11 : nKd t = 11
    · rw [if_pos c11]
      obtain ⟨m3, x1⟩ := w11 c11
      have e1 : 1 ≤ mch (nX t) := by
        cases f with
        | zero => exact x1.elim
        | succ f => exact mch_pos x1
      have q := GC0_le hm T f (nX t) ω Γ Δ cv cd x1 he hl hw hd hk4 ⟨hT1, by rw [if_neg (by omega), if_pos (Or.inr c11)] at hT2; omega⟩ (by omega)
      have q2 := psc_up hp e1 (k := mch t) (by omega) hb
      omega
    rw [if_neg c11]
    obtain ⟨x1, x2⟩ := w7 (Or.inr (by omega))
    have e1 : 1 ≤ mch (nX t) := by
      cases f with
      | zero => exact x1.elim
      | succ f => exact mch_pos x1
    have e2 : 1 ≤ mch (nY t) := by
      cases f with
      | zero => exact x2.elim
      | succ f => exact mch_pos x2
    have hT3 : max (tbm f (nX t)) (tbm f (nY t)) + 4 ≤ cd := by
      rw [if_neg (by omega), if_neg (by omega), if_neg (by omega), if_neg (by omega), if_neg c9] at hT2
      exact hT2
    have q1 := GC0_le hm T f (nX t) ω Γ Δ cv cd x1 he hl hw hd hk4 ⟨hT1, by omega⟩ (by omega)
    have q2 := GC0_le hm T f (nY t) ω Γ Δ cv cd x2 he hl hw hd hk4 ⟨hT1, by omega⟩ (by omega)
    by_cases cq : nKd (nX t) = 5 ∧ nKd (nY t) = 5 ∧ nMk (nX t) = nMk (nY t)
    · rw [if_pos cq]
      have q3 := psc_up hp e1 (k := mch t) (by omega) hb
      omega
    rw [if_neg cq]
    by_cases cv5 : nKd (nX t) = 5 ∧ nKd (nY t) = 5
    · cases f with
      | zero => exact x1.elim
      | succ f =>
        obtain ⟨a, ha⟩ := dlk_some (x1.2.1 cv5.1)
        obtain ⟨a', ha'⟩ := dlk_some (x2.2.1 cv5.2)
        have ne : nMk (nX t) ≠ nMk (nY t) := fun e => cq ⟨cv5.1, cv5.2, e⟩
        have d2 := dch_two ha ha' ne
        obtain ⟨g1, g2, g3⟩ := he.2.2 _ (dlk_mem ha)
        obtain ⟨g1', g2', g3'⟩ := he.2.2 _ (dlk_mem ha')
        have g1 : a.2 ≤ Γ.length := g1
        have g1' : a'.2 ≤ Γ.length := g1'
        have g2 : ok a.2 a.1 = true := g2
        have g2' : ok a'.2 a'.1 = true := g2'
        have o := ok_lft a.2 (Γ.length - a.2) a.1 0 g2
        rw [show a.2 + (Γ.length - a.2) + 0 = Γ.length by omega] at o
        have o' := ok_lft a'.2 (Γ.length - a'.2) a'.1 0 g2'
        rw [show a'.2 + (Γ.length - a'.2) + 0 = Γ.length by omega] at o'
        have et : tch (lft a.2 (Γ.length - a.2) a.1) = tch a.1 := tch_lft _ _ _ _ g2
        have et' : tch (lft a'.2 (Γ.length - a'.2) a'.1) = tch a'.1 := tch_lft _ _ _ _ g2'
        have q3 := val_two (z := 0) (cv := cv) (c := cv + cd) T (by rw [hl]; exact o) (by rw [hl]; exact o') (by rw [et, et']; omega) (by omega) hw hz
        rw [hzx_0] at q3
        have q4 := (psc_m hp (c := cv + cd) mp hb).1
        unfold GC0
        rw [if_pos cv5.1, if_pos cv5.2, ha, ha']
        show nz t0 n1 s2 h ω (lft a.2 (Γ.length - a.2) a.1) + nz t0 n1 s2 h ω (lft a'.2 (Γ.length - a'.2) a'.1) ≤ _
        omega
    have three : 3 ≤ mch (nX t) + mch (nY t) := by
      cases f with
      | zero => exact x1.elim
      | succ f =>
        by_cases c1 : nKd (nX t) = 5
        · have := mch_two x2 (fun e => cv5 ⟨c1, e⟩)
          omega
        · have := mch_two x1 c1
          omega
    have q3 := (psc_k hp (c := cv + cd) e1 e2 (by omega)).1
    have q4 := (psc_m hp (c := cv + cd) (m := mch (nX t) + mch (nY t)) (by omega) (by omega)).2.2.2.2.1 three (by omega)
    rw [em, show 2 + (mch (nX t) + mch (nY t)) = mch (nX t) + mch (nY t) + 2 by omega]
    omega
end PmLg
