/-! THE SAME, BY CHARACTERS. -/
def dch : List (Nat × Ty × Nat) → Nat
  | [] => 0
  | a :: Δ => (tch a.2.1 + 4) + dch Δ
theorem dch_mem : ∀ {Δ : List (Nat × Ty × Nat)} {a : Nat × Ty × Nat}, a ∈ Δ → tch a.2.1 + 4 ≤ dch Δ
  | b :: Δ, a, h => by
    show _ ≤ (tch b.2.1 + 4) + dch Δ
    rcases List.mem_cons.mp h with rfl | h
    · omega
    · have := dch_mem h; omega
theorem dch_two : ∀ {Δ : List (Nat × Ty × Nat)} {m m' : Nat} {a b : Ty × Nat}, dlk Δ m = some a → dlk Δ m' = some b → m ≠ m' → (tch a.1 + 4) + (tch b.1 + 4) ≤ dch Δ
  | [], _, _, _, _, h, _, _ => by cases h
  | c :: Δ, m, m', a, b, h, h', ne => by
    have h : (if c.1 = m then some c.2 else dlk Δ m) = some a := h
    have h' : (if c.1 = m' then some c.2 else dlk Δ m') = some b := h'
    show _ ≤ (tch c.2.1 + 4) + dch Δ
    by_cases c1 : c.1 = m
    · rw [if_pos c1] at h
      rw [if_neg (by omega)] at h'
      injection h with h
      subst h
      have : tch b.1 + 4 ≤ dch Δ := dch_mem (dlk_mem h')
      omega
    · rw [if_neg c1] at h
      have u : tch a.1 + 4 ≤ dch Δ := dch_mem (dlk_mem h)
      by_cases c2 : c.1 = m'
      · rw [if_pos c2] at h'
        injection h' with h'
        subst h'
        omega
      · rw [if_neg c2] at h'
        have := dch_two h h' ne
        omega
section PmL5
variable {N t0 fn s2 hv r0 r1 r2 r3 x0 : Nat} {n1 h : Nat → Nat} {P Q : List (List Nat)} {F G : FrT} {X : List Nat}
/-- what the tables must keep -/
def TBs (N t0 fn s2 hv r0 r1 r2 r3 x0 : Nat) (n1 h : Nat → Nat) (P Q : List (List Nat)) (F G : FrT) (X : List Nat) : Prop := frc F G t0 fn s2 hv r0 r1 r2 r3 = true ∧ fxc F X hv x0 = true ∧ (∀ y x, x0 ≤ x → h y ≤ hv + max y x) ∧ n1 1 ≤ fn ∧ (∀ m, m < 8 → n1 (8 + m) ≤ (if nlb m = 0 then r0 else if nlb m = 1 then r1 else if nlb m = 2 then r2 else r3)) ∧ psc N P Q F X fn s2 r0 r1 r2 r3 = true ∧ N ≤ 58 ∧ t0 ≤ x0
/-- a text -/
theorem val_text (T : TBs N t0 fn s2 hv r0 r1 r2 r3 x0 n1 h P Q F G X) {ω : List Nat} {z cv : Nat} {A : Ty} (o : ok ω.length A = true) (hk : tch A ≤ 56) (hcv : cv ≤ 56) (hw : ∀ j, j < ω.length → vw ω j ≤ X.getD cv 0) (hz : z ≤ X.getD cv 0) : ∃ p ∈ frg F (tch A), nz t0 n1 s2 (hzx h z) ω A ≤ p.2 + p.1 * X.getD cv 0 := by
  obtain ⟨hc, hx, H, hf1, hr, -, -, -⟩ := T
  obtain ⟨p, hp, fp⟩ := fr_form (x0 := max x0 z) (h := hzx h z) hc (fun y x hyx => by
    have := H y x (by omega)
    unfold hzx; omega) hf1 hr _ A ω.length (Nat.le_refl _) o hk
  have x1 := fxc_x0 hx (c := cv) hcv
  exact ⟨p, hp, fp _ ω (by omega) hw o⟩
/-- and what a variable with that bound is worth -/
theorem val_up (T : TBs N t0 fn s2 hv r0 r1 r2 r3 x0 n1 h P Q F G X) {ω : List Nat} {z cv c : Nat} {A : Ty} (o : ok ω.length A = true) (hcv : cv + tch A + 4 ≤ c) (hc : c ≤ 56) (hw : ∀ j, j < ω.length → vw ω j ≤ X.getD cv 0) (hz : z ≤ X.getD cv 0) : hv + nz t0 n1 s2 (hzx h z) ω A ≤ X.getD c 0 ∧ hzx h z (nz t0 n1 s2 (hzx h z) ω A) ≤ X.getD c 0 := by
  have pa := tch_pos o
  obtain ⟨p, hp, q⟩ := val_text T o (by omega) (by omega) hw hz
  obtain ⟨hfc, hx, H, -, -, -, -, -⟩ := T
  have x1 := fxc_x0 hx (c := cv) (by omega)
  have q1 := fxc_step hx pa (c := cv + tch A + 4) (by omega) (by omega) hp
  rw [show cv + tch A + 4 - 4 - tch A = cv by omega] at q1
  have q2 := fxc_le hx (c := cv + tch A + 4) (d := c) hcv hc
  obtain ⟨v, hv', v1, v2⟩ := dom_ex (frc_0 hfc (k := tch A) pa (by omega)).2.1
  have q3 := fxc_step hx pa (c := cv + tch A + 4) (by omega) (by omega) hv'
  rw [show cv + tch A + 4 - 4 - tch A = cv by omega] at q3
  have q4 := Nat.mul_le_mul_right (X.getD cv 0) v1
  have q5 := H (nz t0 n1 s2 (hzx h z) ω A) (X.getD cv 0) x1
  refine ⟨by omega, ?_⟩
  unfold hzx at q5 q ⊢
  omega
/-- two texts -/
theorem val_two (T : TBs N t0 fn s2 hv r0 r1 r2 r3 x0 n1 h P Q F G X) {ω : List Nat} {z cv c : Nat} {A B : Ty} (o : ok ω.length A = true) (o' : ok ω.length B = true) (hcv : cv + (tch A + 4) + (tch B + 4) ≤ c) (hc : c ≤ 56) (hw : ∀ j, j < ω.length → vw ω j ≤ X.getD cv 0) (hz : z ≤ X.getD cv 0) : nz t0 n1 s2 (hzx h z) ω A + nz t0 n1 s2 (hzx h z) ω B ≤ X.getD c 0 := by
  have pa := tch_pos o
  have pb := tch_pos o'
  obtain ⟨p, hp, q1⟩ := val_text T o (by omega) (by omega) hw hz
  obtain ⟨p', hp', q2⟩ := val_text T o' (by omega) (by omega) hw hz
  obtain ⟨hfc, hx, -, -, -, -, -, -⟩ := T
  obtain ⟨v, hv', v1, v2⟩ := dom_ex ((frc_p hfc pa pb (by omega)).2.1 (by omega) p hp p' hp')
  have q3 := fxc_step hx (k := tch A + tch B + 3) (by omega) (c := cv + (tch A + tch B + 3) + 4) (by omega) (by omega) hv'
  rw [show cv + (tch A + tch B + 3) + 4 - 4 - (tch A + tch B + 3) = cv by omega] at q3
  have q4 := Nat.mul_le_mul_right (X.getD cv 0) v1
  rw [Nat.add_mul] at q4
  have q5 := fxc_le hx (c := cv + (tch A + tch B + 3) + 4) (d := c) (by omega) hc
  omega
theorem tch_is1 {d : Nat} {A : Ty} (o : ok d A = true) (e : tch A = 1) : A = tTop ∨ ∃ k, k < d ∧ A = tVar k := by
  rcases ok_cases o with rfl | ⟨k, hk, rfl⟩ | ⟨a, b, rfl, -, -⟩ | ⟨a, b, rfl, -, -⟩ | ⟨m, x, y, z, hm, rfl, -, -, -⟩
  · exact Or.inl rfl
  · exact Or.inr ⟨k, hk, rfl⟩
  · rw [tch_fun] at e; omega
  · rw [tch_all] at e; omega
  · rw [tch_rec] at e
    by_cases m0 : m = 0
    · subst m0
      have : rch 0 = 2 := by decide
      omega
    · have := rch_two m0 hm
      omega
/-- the argument of an instance -/
theorem val_arg (T : TBs N t0 fn s2 hv r0 r1 r2 r3 x0 n1 h P Q F G X) {ω : List Nat} {z cv c : Nat} {A : Ty} (o : ok ω.length A = true) (hw : ∀ j, j < ω.length → vw ω j ≤ X.getD cv 0) (hz : z ≤ X.getD cv 0) (hcv : cv ≤ c) (hk : tch A = 1 ∨ cv + tch A + 4 ≤ c) (hc : c ≤ 56) : max z (nz t0 n1 s2 (hzx h z) ω A) ≤ X.getD c 0 := by
  have m1 := fxc_le T.2.1 (c := cv) (d := c) hcv hc
  rcases hk with hk | hk
  · have x1 := fxc_x0 T.2.1 (c := cv) (by omega)
    have t1 := T.2.2.2.2.2.2.2
    rcases tch_is1 o hk with rfl | ⟨k, hk', rfl⟩
    · rw [nz_top]; omega
    · rw [nz_var]
      have := hw k hk'
      omega
  · have := (val_up T o hk hc hw hz).1
    omega
theorem GV1_le (T : TBs N t0 fn s2 hv r0 r1 r2 r3 x0 n1 h P Q F G X) : ∀ (f : Nat) (t : Ty) (z : Nat) (ω : List Nat) (Γ : List Ty) (Δ : List (Nat × Ty × Nat)) (cv cd : Nat), TWf f Γ.length (Δ.map (fun a => a.1)) t → TE Γ Δ → ω.length = Γ.length → (∀ j, j < ω.length → vw ω j ≤ X.getD cv 0) → z ≤ X.getD cv 0 → dch Δ ≤ cd → cv + cd + 2 * mch t ≤ N → GV1 t0 n1 s2 h f t z ω Γ Δ ≤ pg P (cv + cd) (mch t)
  | 0, _, _, _, _, _, _, _, w, _, _, _, _, _, _ => w.elim
  | f + 1, t, z, ω, Γ, Δ, cv, cd, w, he, hl, hw, hz, hd, hb => by
    have mp := mch_pos w
    obtain ⟨w0, w5, w6, w7, w8, w9, w10, w11, w12⟩ := w
    have em := mch_is w0.2.1
    have hN := T.2.2.2.2.2.2.1
    have hp := T.2.2.2.2.2.1
    unfold GV1
    by_cases c5 : nKd t = 5
    · rw [if_pos c5] at em ⊢
      obtain ⟨a, ha⟩ := dlk_some (w5 c5)
      obtain ⟨e1, e2, e3⟩ := he.2.2 _ (dlk_mem ha)
      have e1 : a.2 ≤ Γ.length := e1
      have e2 : ok a.2 a.1 = true := e2
      have e4 : tch a.1 + 4 ≤ dch Δ := dch_mem (dlk_mem ha)
      rw [ha]
      show nz t0 n1 s2 (hzx h z) ω (lft a.2 (Γ.length - a.2) a.1) ≤ _
      have o := ok_lft a.2 (Γ.length - a.2) a.1 0 e2
      rw [show a.2 + (Γ.length - a.2) + 0 = Γ.length by omega] at o
      have et : tch (lft a.2 (Γ.length - a.2) a.1) = tch a.1 := tch_lft _ _ _ _ e2
      have q := (val_up (z := z) (c := cv + cd) T (by rw [hl]; exact o) (by rw [et]; omega) (by omega) hw hz).1
      have q2 := (psc_m hp mp hb).1
      omega
    rw [if_neg c5] at em
    rw [if_neg c5]
    by_cases c6 : nKd t = 6
    · rw [if_pos (Or.inl c6)] at em
      rw [if_pos c6]
      obtain ⟨-, x1, x2, x3⟩ := w6 c6
      have tp := tch_pos x1
      have e1 : 1 ≤ mch (nY t) := by
        cases f with
        | zero => exact x3.elim
        | succ f => exact mch_pos x3
      have q := GV1_le T f (nY t) z ω Γ ((nPl t, nX t, Γ.length) :: Δ) cv (cd + tch (nX t) + 4) x3 (he.lam x1 x2) hl hw hz (by show (tch (nX t) + 4) + dch Δ ≤ _; omega) (by omega)
      obtain ⟨p, pp, q1⟩ := val_text (z := z) (cv := cv) T (by rw [hl]; exact x1) (by omega) (by omega) hw hz
      have q2 := ((psc_k hp (c := cv + cd) tp e1 (by omega)).2.2.1 (by omega)).2 p pp
      have q3 := fxc_le T.2.1 (c := cv) (d := cv + cd) (by omega) (by omega)
      have q4 := Nat.mul_le_mul_left p.1 q3
      have q5 := T.2.2.2.1
      rw [em, show 4 + (tch (nX t) + mch (nY t)) = tch (nX t) + mch (nY t) + 4 by omega]
      rw [show cv + (cd + tch (nX t) + 4) = cv + cd + tch (nX t) + 4 by omega] at q
      omega
    rw [if_neg c6]
    by_cases c7 : nKd t = 7
    · rw [if_neg (by omega), if_neg (by omega), if_neg (by omega)] at em
      rw [if_pos c7]
      obtain ⟨x1, x2⟩ := w7 (Or.inl c7)
      have e1 : 1 ≤ mch (nX t) := by
        cases f with
        | zero => exact x1.elim
        | succ f => exact mch_pos x1
      have q := GV1_le T f (nX t) z ω Γ Δ cv cd x1 he hl hw hz hd (by omega)
      have q2 := psc_up hp e1 (k := mch t) (by omega) hb
      omega
    rw [if_neg c7]
    by_cases c8 : nKd t = 8
    · rw [if_pos (Or.inr c8)] at em
      rw [if_pos c8]
      obtain ⟨x1, x2, x3⟩ := w8 c8
      have tp := tch_pos x1
      have e1 : 1 ≤ mch (nY t) := by
        cases f with
        | zero => exact x3.elim
        | succ f => exact mch_pos x3
      have u := (val_up (z := z) (cv := cv) (c := cv + tch (nX t) + 4) T (A := nX t) (by rw [hl]; exact x1) (Nat.le_refl _) (by omega) hw hz).2
      have q3 := fxc_le T.2.1 (c := cv) (d := cv + tch (nX t) + 4) (by omega) (by omega)
      have q := GV1_le T f (nY t) z (hzx h z (nz t0 n1 s2 (hzx h z) ω (nX t)) :: ω) (nX t :: Γ) Δ (cv + tch (nX t) + 4) cd x3 (he.all x1 x2) (by rw [List.length_cons, List.length_cons, hl]) (fun j hj => by
        rw [vw_cons]
        by_cases e : j = ω.length
        · rw [if_pos e]; exact u
        · rw [if_neg e]
          have := hw j (by rw [List.length_cons] at hj; omega)
          omega) (Nat.le_trans hz q3) hd (by omega)
      have q2 := ((psc_k hp (c := cv + cd) tp e1 (by omega)).2.2.1 (by omega)).1
      rw [em, show 4 + (tch (nX t) + mch (nY t)) = tch (nX t) + mch (nY t) + 4 by omega]
      rw [show cv + tch (nX t) + 4 + cd = cv + cd + tch (nX t) + 4 by omega] at q
      omega
    rw [if_neg c8]
    rw [if_neg (by omega)] at em
    by_cases c9 : nKd t = 9
    · rw [if_pos c9] at em ⊢
      obtain ⟨x1, x2, x3⟩ := w9 c9
      have tp := tch_pos x2
      have e1 : 1 ≤ mch (nX t) := by
        cases f with
        | zero => exact x1.elim
        | succ f => exact mch_pos x1
      by_cases eq : tch (nY t) = 1
      · have u := val_arg (z := z) (cv := cv) (c := cv) T (A := nY t) (by rw [hl]; exact x2) hw hz (Nat.le_refl _) (Or.inl eq) (by omega)
        have q := GV1_le T f (nX t) _ ω Γ Δ cv cd x1 he hl hw u hd (by omega)
        have q2 := psc_up hp e1 (k := mch t) (by omega) hb
        omega
      · have u := val_arg (z := z) (cv := cv) (c := cv + tch (nY t) + 4) T (A := nY t) (by rw [hl]; exact x2) hw hz (by omega) (Or.inr (Nat.le_refl _)) (by omega)
        have q3 := fxc_le T.2.1 (c := cv) (d := cv + tch (nY t) + 4) (by omega) (by omega)
        have q := GV1_le T f (nX t) _ ω Γ Δ (cv + tch (nY t) + 4) cd x1 he hl (fun j hj => Nat.le_trans (hw j hj) q3) u hd (by omega)
        have q2 := (psc_k hp (c := cv + cd) tp e1 (by omega)).2.2.2 (by omega) (by omega)
        rw [em, show 1 + (mch (nX t) + tch (nY t)) = tch (nY t) + mch (nX t) + 1 by omega]
        rw [show cv + tch (nY t) + 4 + cd = cv + cd + tch (nY t) + 4 by omega] at q
        omega
    rw [if_neg c9]
    rw [if_neg c9] at em
    by_cases c10 : nKd t = 10
    · rw [if_pos c10] at em ⊢
      obtain ⟨m8, x1⟩ := w10 c10
      have hmr := T.2.2.2.2.1 (nMk t) m8
      have key : ∀ g, g < 3 → bit (nMk t) g = true → GV1 t0 n1 s2 h f (nP t g) z ω Γ Δ ≤ pg P (cv + cd) (mch (nP t g)) ∧ 1 ≤ mch (nP t g) := by
        intro g hg hbg
        have w := x1 g hg hbg
        have m1 : mch (nP t g) ≤ mch t := by
          rw [em]
          rcases (show g = 0 ∨ g = 1 ∨ g = 2 by omega) with rfl | rfl | rfl
          · show mch (nX t) ≤ _; omega
          · show mch (nY t) ≤ _; omega
          · show mch (nZ t) ≤ _; omega
        refine ⟨GV1_le T f (nP t g) z ω Γ Δ cv cd w he hl hw hz hd (by omega), ?_⟩
        cases f with
        | zero => exact w.elim
        | succ f => exact mch_pos w
      have k0 : bit (nMk t) 0 = true → GV1 t0 n1 s2 h f (nX t) z ω Γ Δ ≤ pg P (cv + cd) (mch (nX t)) ∧ 1 ≤ mch (nX t) := key 0 (by decide)
      have k1 : bit (nMk t) 1 = true → GV1 t0 n1 s2 h f (nY t) z ω Γ Δ ≤ pg P (cv + cd) (mch (nY t)) ∧ 1 ≤ mch (nY t) := key 1 (by decide)
      have k2 : bit (nMk t) 2 = true → GV1 t0 n1 s2 h f (nZ t) z ω Γ Δ ≤ pg P (cv + cd) (mch (nZ t)) ∧ 1 ≤ mch (nZ t) := key 2 (by decide)
      clear key x1
      have hbb := hb
      rw [em] at hb
      rw [em]
      rcases (show nMk t = 0 ∨ nMk t = 1 ∨ nMk t = 2 ∨ nMk t = 3 ∨ nMk t = 4 ∨ nMk t = 5 ∨ nMk t = 6 ∨ nMk t = 7 by omega) with e | e | e | e | e | e | e | e
      · rw [e] at hmr hb k0 k1 k2 ⊢
        rw [if_neg (by decide), if_neg (by decide), if_neg (by decide)]
        have hmr : n1 (8 + 0) ≤ r0 := hmr
        rw [if_pos rfl] at hb ⊢
        have q1 := (psc_m hp (c := cv + cd) (m := 2) (by decide) (by omega)).2.1 (by decide)
        have q2 := psc_up hp (c := cv + cd) (m := 2) (by decide) (k := 2 + (mch (nX t) + (mch (nY t) + mch (nZ t)))) (by omega) (by omega)
        omega
      · rw [e] at hmr hb k0 k1 k2 ⊢
        obtain ⟨a0, b0⟩ := k0 (by decide)
        rw [if_pos (by decide), if_neg (by decide), if_neg (by decide)]
        have hmr : n1 (8 + 1) ≤ r1 := hmr
        rw [if_neg (by decide)] at hb ⊢
        have en : nlb 1 = 1 := by decide
        rw [en] at hb ⊢
        have q1 := (psc_m hp (c := cv + cd) (m := mch (nX t)) b0 (by omega)).2.2.2.1 (by omega)
        have q2 := psc_up hp (c := cv + cd) (m := mch (nX t) + 4) (by omega) (k := 1 + 3 * 1 + (mch (nX t) + (mch (nY t) + mch (nZ t)))) (by omega) (by omega)
        omega
      · rw [e] at hmr hb k0 k1 k2 ⊢
        obtain ⟨a1, b1⟩ := k1 (by decide)
        rw [if_neg (by decide), if_pos (by decide), if_neg (by decide)]
        have hmr : n1 (8 + 2) ≤ r1 := hmr
        rw [if_neg (by decide)] at hb ⊢
        have en : nlb 2 = 1 := by decide
        rw [en] at hb ⊢
        have q1 := (psc_m hp (c := cv + cd) (m := mch (nY t)) b1 (by omega)).2.2.2.1 (by omega)
        have q2 := psc_up hp (c := cv + cd) (m := mch (nY t) + 4) (by omega) (k := 1 + 3 * 1 + (mch (nX t) + (mch (nY t) + mch (nZ t)))) (by omega) (by omega)
        omega
      · rw [e] at hmr hb k0 k1 k2 ⊢
        obtain ⟨a0, b0⟩ := k0 (by decide)
        obtain ⟨a1, b1⟩ := k1 (by decide)
        rw [if_pos (by decide), if_pos (by decide), if_neg (by decide)]
        have hmr : n1 (8 + 3) ≤ r2 := hmr
        rw [if_neg (by decide)] at hb ⊢
        have en : nlb 3 = 2 := by decide
        rw [en] at hb ⊢
        have q0 := (psc_k hp (c := cv + cd) b0 b1 (by omega)).1
        have q1 := (psc_m hp (c := cv + cd) (m := mch (nX t) + mch (nY t)) (by omega) (by omega)).2.2.2.2.2 (by omega) (by omega)
        have q2 := psc_up hp (c := cv + cd) (m := mch (nX t) + mch (nY t) + 7) (by omega) (k := 1 + 3 * 2 + (mch (nX t) + (mch (nY t) + mch (nZ t)))) (by omega) (by omega)
        omega
      · rw [e] at hmr hb k0 k1 k2 ⊢
        obtain ⟨a2, b2⟩ := k2 (by decide)
        rw [if_neg (by decide), if_neg (by decide), if_pos (by decide)]
        have hmr : n1 (8 + 4) ≤ r1 := hmr
        rw [if_neg (by decide)] at hb ⊢
        have en : nlb 4 = 1 := by decide
        rw [en] at hb ⊢
        have q1 := (psc_m hp (c := cv + cd) (m := mch (nZ t)) b2 (by omega)).2.2.2.1 (by omega)
        have q2 := psc_up hp (c := cv + cd) (m := mch (nZ t) + 4) (by omega) (k := 1 + 3 * 1 + (mch (nX t) + (mch (nY t) + mch (nZ t)))) (by omega) (by omega)
        omega
      · rw [e] at hmr hb k0 k1 k2 ⊢
        obtain ⟨a0, b0⟩ := k0 (by decide)
        obtain ⟨a2, b2⟩ := k2 (by decide)
        rw [if_pos (by decide), if_neg (by decide), if_pos (by decide)]
        have hmr : n1 (8 + 5) ≤ r2 := hmr
        rw [if_neg (by decide)] at hb ⊢
        have en : nlb 5 = 2 := by decide
        rw [en] at hb ⊢
        have q0 := (psc_k hp (c := cv + cd) b0 b2 (by omega)).1
        have q1 := (psc_m hp (c := cv + cd) (m := mch (nX t) + mch (nZ t)) (by omega) (by omega)).2.2.2.2.2 (by omega) (by omega)
        have q2 := psc_up hp (c := cv + cd) (m := mch (nX t) + mch (nZ t) + 7) (by omega) (k := 1 + 3 * 2 + (mch (nX t) + (mch (nY t) + mch (nZ t)))) (by omega) (by omega)
        omega
      · rw [e] at hmr hb k0 k1 k2 ⊢
        obtain ⟨a1, b1⟩ := k1 (by decide)
        obtain ⟨a2, b2⟩ := k2 (by decide)
        rw [if_neg (by decide), if_pos (by decide), if_pos (by decide)]
        have hmr : n1 (8 + 6) ≤ r2 := hmr
        rw [if_neg (by decide)] at hb ⊢
        have en : nlb 6 = 2 := by decide
        rw [en] at hb ⊢
        have q0 := (psc_k hp (c := cv + cd) b1 b2 (by omega)).1
        have q1 := (psc_m hp (c := cv + cd) (m := mch (nY t) + mch (nZ t)) (by omega) (by omega)).2.2.2.2.2 (by omega) (by omega)
        have q2 := psc_up hp (c := cv + cd) (m := mch (nY t) + mch (nZ t) + 7) (by omega) (k := 1 + 3 * 2 + (mch (nX t) + (mch (nY t) + mch (nZ t)))) (by omega) (by omega)
        omega
      · rw [e] at hmr hb k0 k1 k2 ⊢
        obtain ⟨a0, b0⟩ := k0 (by decide)
        obtain ⟨a1, b1⟩ := k1 (by decide)
        obtain ⟨a2, b2⟩ := k2 (by decide)
        rw [if_pos (by decide), if_pos (by decide), if_pos (by decide)]
        have hmr : n1 (8 + 7) ≤ r3 := hmr
        rw [if_neg (by decide)] at hb ⊢
        have en : nlb 7 = 3 := by decide
        rw [en] at hb ⊢
        have q0 := (psc_k hp (c := cv + cd) b0 b1 (by omega)).1
        have q1 := (psc_k hp (c := cv + cd) (m := mch (nX t) + mch (nY t)) (k := mch (nZ t)) (by omega) b2 (by omega)).2.1 (by omega) (by omega)
        have q2 := psc_up hp (c := cv + cd) (m := mch (nX t) + mch (nY t) + mch (nZ t) + 10) (by omega) (k := 1 + 3 * 3 + (mch (nX t) + (mch (nY t) + mch (nZ t)))) (by omega) (by omega)
        omega
    rw [if_neg c10]
    rw [if_neg c10] at em
    by_cases c11 : nKd t = 11
    · rw [if_pos c11]
      obtain ⟨m3, x1⟩ := w11 c11
      have e1 : 1 ≤ mch (nX t) := by
        cases f with
        | zero => exact x1.elim
        | succ f => exact mch_pos x1
      have q := GV1_le T f (nX t) z ω Γ Δ cv cd x1 he hl hw hz hd (by omega)
      have q2 := psc_up hp e1 (k := mch t) (by omega) hb
      omega
    rw [if_neg c11]
    exact Nat.zero_le _
theorem GV0_le (T : TBs N t0 fn s2 hv r0 r1 r2 r3 x0 n1 h P Q F G X) : ∀ (f : Nat) (t : Ty) (ω : List Nat) (Γ : List Ty) (Δ : List (Nat × Ty × Nat)) (cv cd : Nat), TWf f Γ.length (Δ.map (fun a => a.1)) t → TE Γ Δ → ω.length = Γ.length → (∀ j, j < ω.length → vw ω j ≤ X.getD cv 0) → dch Δ ≤ cd → cv + cd + 2 * mch t ≤ N → GV0 t0 n1 s2 h f t ω Γ Δ ≤ pg P (cv + cd) (mch t)
  | 0, _, _, _, _, _, _, w, _, _, _, _, _ => w.elim
  | f + 1, t, ω, Γ, Δ, cv, cd, w, he, hl, hw, hd, hb => by
    have hz : 0 ≤ X.getD cv 0 := Nat.zero_le _
    have mp := mch_pos w
    obtain ⟨w0, w5, w6, w7, w8, w9, w10, w11, w12⟩ := w
    have em := mch_is w0.2.1
    have hN := T.2.2.2.2.2.2.1
    have hp := T.2.2.2.2.2.1
    unfold GV0
    by_cases c5 : nKd t = 5
    · rw [if_pos c5] at em ⊢
      obtain ⟨a, ha⟩ := dlk_some (w5 c5)
      obtain ⟨e1, e2, e3⟩ := he.2.2 _ (dlk_mem ha)
      have e1 : a.2 ≤ Γ.length := e1
      have e2 : ok a.2 a.1 = true := e2
      have e4 : tch a.1 + 4 ≤ dch Δ := dch_mem (dlk_mem ha)
      rw [ha]
      show nz t0 n1 s2 h ω (lft a.2 (Γ.length - a.2) a.1) ≤ _
      have o := ok_lft a.2 (Γ.length - a.2) a.1 0 e2
      rw [show a.2 + (Γ.length - a.2) + 0 = Γ.length by omega] at o
      have et : tch (lft a.2 (Γ.length - a.2) a.1) = tch a.1 := tch_lft _ _ _ _ e2
      have q := (val_up (z := 0) (c := cv + cd) T (by rw [hl]; exact o) (by rw [et]; omega) (by omega) hw hz).1
      have q2 := (psc_m hp mp hb).1
      rw [hzx_0] at q
      omega
    rw [if_neg c5] at em
    rw [if_neg c5]
    by_cases c6 : nKd t = 6
    · rw [if_pos (Or.inl c6)] at em
      rw [if_pos c6]
      obtain ⟨-, x1, x2, x3⟩ := w6 c6
      have tp := tch_pos x1
      have e1 : 1 ≤ mch (nY t) := by
        cases f with
        | zero => exact x3.elim
        | succ f => exact mch_pos x3
      have q := GV0_le T f (nY t) ω Γ ((nPl t, nX t, Γ.length) :: Δ) cv (cd + tch (nX t) + 4) x3 (he.lam x1 x2) hl hw (by show (tch (nX t) + 4) + dch Δ ≤ _; omega) (by omega)
      obtain ⟨p, pp, q1⟩ := val_text (z := 0) (cv := cv) T (by rw [hl]; exact x1) (by omega) (by omega) hw hz
      rw [hzx_0] at q1
      have q2 := ((psc_k hp (c := cv + cd) tp e1 (by omega)).2.2.1 (by omega)).2 p pp
      have q3 := fxc_le T.2.1 (c := cv) (d := cv + cd) (by omega) (by omega)
      have q4 := Nat.mul_le_mul_left p.1 q3
      have q5 := T.2.2.2.1
      rw [em, show 4 + (tch (nX t) + mch (nY t)) = tch (nX t) + mch (nY t) + 4 by omega]
      rw [show cv + (cd + tch (nX t) + 4) = cv + cd + tch (nX t) + 4 by omega] at q
      omega
    rw [if_neg c6]
    by_cases c7 : nKd t = 7
    · rw [if_neg (by omega), if_neg (by omega), if_neg (by omega)] at em
      rw [if_pos c7]
      obtain ⟨x1, x2⟩ := w7 (Or.inl c7)
      have e1 : 1 ≤ mch (nX t) := by
        cases f with
        | zero => exact x1.elim
        | succ f => exact mch_pos x1
      have q := GV0_le T f (nX t) ω Γ Δ cv cd x1 he hl hw hd (by omega)
      have q2 := psc_up hp e1 (k := mch t) (by omega) hb
      omega
    rw [if_neg c7]
    by_cases c8 : nKd t = 8
    · rw [if_pos (Or.inr c8)] at em
      rw [if_pos c8]
      obtain ⟨x1, x2, x3⟩ := w8 c8
      have tp := tch_pos x1
      have e1 : 1 ≤ mch (nY t) := by
        cases f with
        | zero => exact x3.elim
        | succ f => exact mch_pos x3
      have u := (val_up (z := 0) (cv := cv) (c := cv + tch (nX t) + 4) T (A := nX t) (by rw [hl]; exact x1) (Nat.le_refl _) (by omega) hw hz).2
      rw [hzx_0] at u
      have q3 := fxc_le T.2.1 (c := cv) (d := cv + tch (nX t) + 4) (by omega) (by omega)
      have q := GV0_le T f (nY t) (h (nz t0 n1 s2 h ω (nX t)) :: ω) (nX t :: Γ) Δ (cv + tch (nX t) + 4) cd x3 (he.all x1 x2) (by rw [List.length_cons, List.length_cons, hl]) (fun j hj => by
        rw [vw_cons]
        by_cases e : j = ω.length
        · rw [if_pos e]; exact u
        · rw [if_neg e]
          have := hw j (by rw [List.length_cons] at hj; omega)
          omega) hd (by omega)
      have q2 := ((psc_k hp (c := cv + cd) tp e1 (by omega)).2.2.1 (by omega)).1
      rw [em, show 4 + (tch (nX t) + mch (nY t)) = tch (nX t) + mch (nY t) + 4 by omega]
      rw [show cv + tch (nX t) + 4 + cd = cv + cd + tch (nX t) + 4 by omega] at q
      omega
    rw [if_neg c8]
    rw [if_neg (by omega)] at em
    by_cases c9 : nKd t = 9
    · rw [if_pos c9] at em ⊢
      obtain ⟨x1, x2, x3⟩ := w9 c9
      have tp := tch_pos x2
      have e1 : 1 ≤ mch (nX t) := by
        cases f with
        | zero => exact x1.elim
        | succ f => exact mch_pos x1
      by_cases eq : tch (nY t) = 1
      · have u := val_arg (z := 0) (cv := cv) (c := cv) T (A := nY t) (by rw [hl]; exact x2) hw hz (Nat.le_refl _) (Or.inl eq) (by omega)
        rw [hzx_0, Nat.max_eq_right (Nat.zero_le _)] at u
        have q := GV1_le T f (nX t) _ ω Γ Δ cv cd x1 he hl hw u hd (by omega)
        have q2 := psc_up hp e1 (k := mch t) (by omega) hb
        omega
      · have u := val_arg (z := 0) (cv := cv) (c := cv + tch (nY t) + 4) T (A := nY t) (by rw [hl]; exact x2) hw hz (by omega) (Or.inr (Nat.le_refl _)) (by omega)
        rw [hzx_0, Nat.max_eq_right (Nat.zero_le _)] at u
        have q3 := fxc_le T.2.1 (c := cv) (d := cv + tch (nY t) + 4) (by omega) (by omega)
        have q := GV1_le T f (nX t) _ ω Γ Δ (cv + tch (nY t) + 4) cd x1 he hl (fun j hj => Nat.le_trans (hw j hj) q3) u hd (by omega)
        have q2 := (psc_k hp (c := cv + cd) tp e1 (by omega)).2.2.2 (by omega) (by omega)
        rw [em, show 1 + (mch (nX t) + tch (nY t)) = tch (nY t) + mch (nX t) + 1 by omega]
        rw [show cv + tch (nY t) + 4 + cd = cv + cd + tch (nY t) + 4 by omega] at q
        omega
    rw [if_neg c9]
    rw [if_neg c9] at em
    by_cases c10 : nKd t = 10
    · rw [if_pos c10] at em ⊢
      obtain ⟨m8, x1⟩ := w10 c10
      have hmr := T.2.2.2.2.1 (nMk t) m8
      have key : ∀ g, g < 3 → bit (nMk t) g = true → GV0 t0 n1 s2 h f (nP t g) ω Γ Δ ≤ pg P (cv + cd) (mch (nP t g)) ∧ 1 ≤ mch (nP t g) := by
        intro g hg hbg
        have w := x1 g hg hbg
        have m1 : mch (nP t g) ≤ mch t := by
          rw [em]
          rcases (show g = 0 ∨ g = 1 ∨ g = 2 by omega) with rfl | rfl | rfl
          · show mch (nX t) ≤ _; omega
          · show mch (nY t) ≤ _; omega
          · show mch (nZ t) ≤ _; omega
        refine ⟨GV0_le T f (nP t g) ω Γ Δ cv cd w he hl hw hd (by omega), ?_⟩
        cases f with
        | zero => exact w.elim
        | succ f => exact mch_pos w
      have k0 : bit (nMk t) 0 = true → GV0 t0 n1 s2 h f (nX t) ω Γ Δ ≤ pg P (cv + cd) (mch (nX t)) ∧ 1 ≤ mch (nX t) := key 0 (by decide)
      have k1 : bit (nMk t) 1 = true → GV0 t0 n1 s2 h f (nY t) ω Γ Δ ≤ pg P (cv + cd) (mch (nY t)) ∧ 1 ≤ mch (nY t) := key 1 (by decide)
      have k2 : bit (nMk t) 2 = true → GV0 t0 n1 s2 h f (nZ t) ω Γ Δ ≤ pg P (cv + cd) (mch (nZ t)) ∧ 1 ≤ mch (nZ t) := key 2 (by decide)
      clear key x1
      have hbb := hb
      rw [em] at hb
      rw [em]
      rcases (show nMk t = 0 ∨ nMk t = 1 ∨ nMk t = 2 ∨ nMk t = 3 ∨ nMk t = 4 ∨ nMk t = 5 ∨ nMk t = 6 ∨ nMk t = 7 by omega) with e | e | e | e | e | e | e | e
      · rw [e] at hmr hb k0 k1 k2 ⊢
        rw [if_neg (by decide), if_neg (by decide), if_neg (by decide)]
        have hmr : n1 (8 + 0) ≤ r0 := hmr
        rw [if_pos rfl] at hb ⊢
        have q1 := (psc_m hp (c := cv + cd) (m := 2) (by decide) (by omega)).2.1 (by decide)
        have q2 := psc_up hp (c := cv + cd) (m := 2) (by decide) (k := 2 + (mch (nX t) + (mch (nY t) + mch (nZ t)))) (by omega) (by omega)
        omega
      · rw [e] at hmr hb k0 k1 k2 ⊢
        obtain ⟨a0, b0⟩ := k0 (by decide)
        rw [if_pos (by decide), if_neg (by decide), if_neg (by decide)]
        have hmr : n1 (8 + 1) ≤ r1 := hmr
        rw [if_neg (by decide)] at hb ⊢
        have en : nlb 1 = 1 := by decide
        rw [en] at hb ⊢
        have q1 := (psc_m hp (c := cv + cd) (m := mch (nX t)) b0 (by omega)).2.2.2.1 (by omega)
        have q2 := psc_up hp (c := cv + cd) (m := mch (nX t) + 4) (by omega) (k := 1 + 3 * 1 + (mch (nX t) + (mch (nY t) + mch (nZ t)))) (by omega) (by omega)
        omega
      · rw [e] at hmr hb k0 k1 k2 ⊢
        obtain ⟨a1, b1⟩ := k1 (by decide)
        rw [if_neg (by decide), if_pos (by decide), if_neg (by decide)]
        have hmr : n1 (8 + 2) ≤ r1 := hmr
        rw [if_neg (by decide)] at hb ⊢
        have en : nlb 2 = 1 := by decide
        rw [en] at hb ⊢
        have q1 := (psc_m hp (c := cv + cd) (m := mch (nY t)) b1 (by omega)).2.2.2.1 (by omega)
        have q2 := psc_up hp (c := cv + cd) (m := mch (nY t) + 4) (by omega) (k := 1 + 3 * 1 + (mch (nX t) + (mch (nY t) + mch (nZ t)))) (by omega) (by omega)
        omega
      · rw [e] at hmr hb k0 k1 k2 ⊢
        obtain ⟨a0, b0⟩ := k0 (by decide)
        obtain ⟨a1, b1⟩ := k1 (by decide)
        rw [if_pos (by decide), if_pos (by decide), if_neg (by decide)]
        have hmr : n1 (8 + 3) ≤ r2 := hmr
        rw [if_neg (by decide)] at hb ⊢
        have en : nlb 3 = 2 := by decide
        rw [en] at hb ⊢
        have q0 := (psc_k hp (c := cv + cd) b0 b1 (by omega)).1
        have q1 := (psc_m hp (c := cv + cd) (m := mch (nX t) + mch (nY t)) (by omega) (by omega)).2.2.2.2.2 (by omega) (by omega)
        have q2 := psc_up hp (c := cv + cd) (m := mch (nX t) + mch (nY t) + 7) (by omega) (k := 1 + 3 * 2 + (mch (nX t) + (mch (nY t) + mch (nZ t)))) (by omega) (by omega)
        omega
      · rw [e] at hmr hb k0 k1 k2 ⊢
        obtain ⟨a2, b2⟩ := k2 (by decide)
        rw [if_neg (by decide), if_neg (by decide), if_pos (by decide)]
        have hmr : n1 (8 + 4) ≤ r1 := hmr
        rw [if_neg (by decide)] at hb ⊢
        have en : nlb 4 = 1 := by decide
        rw [en] at hb ⊢
        have q1 := (psc_m hp (c := cv + cd) (m := mch (nZ t)) b2 (by omega)).2.2.2.1 (by omega)
        have q2 := psc_up hp (c := cv + cd) (m := mch (nZ t) + 4) (by omega) (k := 1 + 3 * 1 + (mch (nX t) + (mch (nY t) + mch (nZ t)))) (by omega) (by omega)
        omega
      · rw [e] at hmr hb k0 k1 k2 ⊢
        obtain ⟨a0, b0⟩ := k0 (by decide)
        obtain ⟨a2, b2⟩ := k2 (by decide)
        rw [if_pos (by decide), if_neg (by decide), if_pos (by decide)]
        have hmr : n1 (8 + 5) ≤ r2 := hmr
        rw [if_neg (by decide)] at hb ⊢
        have en : nlb 5 = 2 := by decide
        rw [en] at hb ⊢
        have q0 := (psc_k hp (c := cv + cd) b0 b2 (by omega)).1
        have q1 := (psc_m hp (c := cv + cd) (m := mch (nX t) + mch (nZ t)) (by omega) (by omega)).2.2.2.2.2 (by omega) (by omega)
        have q2 := psc_up hp (c := cv + cd) (m := mch (nX t) + mch (nZ t) + 7) (by omega) (k := 1 + 3 * 2 + (mch (nX t) + (mch (nY t) + mch (nZ t)))) (by omega) (by omega)
        omega
      · rw [e] at hmr hb k0 k1 k2 ⊢
        obtain ⟨a1, b1⟩ := k1 (by decide)
        obtain ⟨a2, b2⟩ := k2 (by decide)
        rw [if_neg (by decide), if_pos (by decide), if_pos (by decide)]
        have hmr : n1 (8 + 6) ≤ r2 := hmr
        rw [if_neg (by decide)] at hb ⊢
        have en : nlb 6 = 2 := by decide
        rw [en] at hb ⊢
        have q0 := (psc_k hp (c := cv + cd) b1 b2 (by omega)).1
        have q1 := (psc_m hp (c := cv + cd) (m := mch (nY t) + mch (nZ t)) (by omega) (by omega)).2.2.2.2.2 (by omega) (by omega)
        have q2 := psc_up hp (c := cv + cd) (m := mch (nY t) + mch (nZ t) + 7) (by omega) (k := 1 + 3 * 2 + (mch (nX t) + (mch (nY t) + mch (nZ t)))) (by omega) (by omega)
        omega
      · rw [e] at hmr hb k0 k1 k2 ⊢
        obtain ⟨a0, b0⟩ := k0 (by decide)
        obtain ⟨a1, b1⟩ := k1 (by decide)
        obtain ⟨a2, b2⟩ := k2 (by decide)
        rw [if_pos (by decide), if_pos (by decide), if_pos (by decide)]
        have hmr : n1 (8 + 7) ≤ r3 := hmr
        rw [if_neg (by decide)] at hb ⊢
        have en : nlb 7 = 3 := by decide
        rw [en] at hb ⊢
        have q0 := (psc_k hp (c := cv + cd) b0 b1 (by omega)).1
        have q1 := (psc_k hp (c := cv + cd) (m := mch (nX t) + mch (nY t)) (k := mch (nZ t)) (by omega) b2 (by omega)).2.1 (by omega) (by omega)
        have q2 := psc_up hp (c := cv + cd) (m := mch (nX t) + mch (nY t) + mch (nZ t) + 10) (by omega) (k := 1 + 3 * 3 + (mch (nX t) + (mch (nY t) + mch (nZ t)))) (by omega) (by omega)
        omega
    rw [if_neg c10]
    rw [if_neg c10] at em
    by_cases c11 : nKd t = 11
    · rw [if_pos c11]
      obtain ⟨m3, x1⟩ := w11 c11
      have e1 : 1 ≤ mch (nX t) := by
        cases f with
        | zero => exact x1.elim
        | succ f => exact mch_pos x1
      have q := GV0_le T f (nX t) ω Γ Δ cv cd x1 he hl hw hd (by omega)
      have q2 := psc_up hp e1 (k := mch t) (by omega) hb
      omega
    rw [if_neg c11]
    obtain ⟨x1, x2⟩ := w7 (Or.inr (by omega))
    have e1 : 1 ≤ mch (nX t) := by
      cases f with
      | zero => exact x1.elim
      | succ f => exact mch_pos x1
    have e2 : 1 ≤ mch (nY t) := by
      cases f with
      | zero => exact x2.elim
      | succ f => exact mch_pos x2
    have q1 := GV0_le T f (nX t) ω Γ Δ cv cd x1 he hl hw hd (by omega)
    have q2 := GV0_le T f (nY t) ω Γ Δ cv cd x2 he hl hw hd (by omega)
    by_cases cq : nKd (nX t) = 5 ∧ nKd (nY t) = 5 ∧ nMk (nX t) = nMk (nY t)
    · rw [if_pos cq]
      have q3 := psc_up hp e1 (k := mch t) (by omega) hb
      omega
    rw [if_neg cq]
    by_cases cv5 : nKd (nX t) = 5 ∧ nKd (nY t) = 5
    · cases f with
      | zero => exact x1.elim
      | succ f =>
        obtain ⟨a, ha⟩ := dlk_some (x1.2.1 cv5.1)
        obtain ⟨a', ha'⟩ := dlk_some (x2.2.1 cv5.2)
        have ne : nMk (nX t) ≠ nMk (nY t) := fun e => cq ⟨cv5.1, cv5.2, e⟩
        have d2 := dch_two ha ha' ne
        obtain ⟨g1, g2, g3⟩ := he.2.2 _ (dlk_mem ha)
        obtain ⟨g1', g2', g3'⟩ := he.2.2 _ (dlk_mem ha')
        have g1 : a.2 ≤ Γ.length := g1
        have g1' : a'.2 ≤ Γ.length := g1'
        have g2 : ok a.2 a.1 = true := g2
        have g2' : ok a'.2 a'.1 = true := g2'
        have o := ok_lft a.2 (Γ.length - a.2) a.1 0 g2
        rw [show a.2 + (Γ.length - a.2) + 0 = Γ.length by omega] at o
        have o' := ok_lft a'.2 (Γ.length - a'.2) a'.1 0 g2'
        rw [show a'.2 + (Γ.length - a'.2) + 0 = Γ.length by omega] at o'
        have et : tch (lft a.2 (Γ.length - a.2) a.1) = tch a.1 := tch_lft _ _ _ _ g2
        have et' : tch (lft a'.2 (Γ.length - a'.2) a'.1) = tch a'.1 := tch_lft _ _ _ _ g2'
        have q3 := val_two (z := 0) (cv := cv) (c := cv + cd) T (by rw [hl]; exact o) (by rw [hl]; exact o') (by rw [et, et']; omega) (by omega) hw hz
        rw [hzx_0] at q3
        have q4 := (psc_m hp (c := cv + cd) mp hb).1
        unfold GV0
        rw [if_pos cv5.1, if_pos cv5.2, ha, ha']
        show nz t0 n1 s2 h ω (lft a.2 (Γ.length - a.2) a.1) + nz t0 n1 s2 h ω (lft a'.2 (Γ.length - a'.2) a'.1) ≤ _
        omega
    have three : 3 ≤ mch (nX t) + mch (nY t) := by
      cases f with
      | zero => exact x1.elim
      | succ f =>
        by_cases c1 : nKd (nX t) = 5
        · have := mch_two x2 (fun e => cv5 ⟨c1, e⟩)
          omega
        · have := mch_two x1 c1
          omega
    have q3 := (psc_k hp (c := cv + cd) e1 e2 (by omega)).1
    have q4 := (psc_m hp (c := cv + cd) (m := mch (nX t) + mch (nY t)) (by omega) (by omega)).2.2.2.2.1 three (by omega)
    rw [em, show 2 + (mch (nX t) + mch (nY t)) = mch (nX t) + mch (nY t) + 2 by omega]
    omega
end PmL5
