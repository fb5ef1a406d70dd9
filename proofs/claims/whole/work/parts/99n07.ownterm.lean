/-! A VARIABLE THAT NO TEXT NAMES IN A BOUND is named in no bound of the type. -/
section PmN9
variable {n : Nat} {Q : Ty}
theorem men_sbtL {d : Nat} (hd : d < n) (hQ : men d Q = false) : ∀ (f : Nat) (t : Ty) (μ : Nat), (flat t).length ≤ f → ok (n + 1 + μ) t = true → men d (sbt n Q μ t) = men d t
  | 0, t, μ, hf, o => by have := flat_pos o; omega
  | f + 1, t, μ, hf, o => by
    rcases ok_cases o with rfl | ⟨k, hk, rfl⟩ | ⟨a, c, rfl, ha, hb⟩ | ⟨a, c, rfl, ha, hb⟩ | ⟨l, x, y, z, hm, rfl, h0, h1, h2⟩
    · rw [sbt_top]
    · rw [sbt_var]
      by_cases e : k = n
      · have q := men_lft (r := d) n μ Q
        rw [show shl n μ d = d by unfold shl; rw [if_neg (by omega)]] at q
        rw [if_pos e, q, hQ, men_var]
        have : ¬ k = d := by omega
        have : (k == d) = false := by simpa using this
        rw [this]
      · rw [if_neg e]
        by_cases e2 : n < k
        · rw [if_pos e2, men_var, men_var, Bool.eq_iff_iff]
          simp only [beq_iff_eq]
          omega
        · rw [if_neg e2]
    · rw [flat_fun, List.length_cons, List.length_append] at hf
      rw [sbt_fun, men_fun, men_fun, men_sbtL hd hQ f a μ (by omega) ha, men_sbtL hd hQ f c μ (by omega) hb]
    · rw [flat_all, List.length_cons, List.length_append] at hf
      rw [sbt_all, men_all, men_all, men_sbtL hd hQ f a μ (by omega) ha, men_sbtL hd hQ f c (μ + 1) (by omega) hb]
    · rw [flat_rec, List.length_cons, List.length_append, List.length_append] at hf
      have key : ∀ (i : Nat) (p : Ty), (flat p).length ≤ f → okl (n + 1 + μ) l i p → men d (sbt n Q μ p) = men d p := by
        intro i p hp ho
        unfold okl at ho
        by_cases hb : bit l i = true
        · rw [if_pos hb] at ho
          exact men_sbtL hd hQ f p μ hp ho
        · rw [if_neg hb] at ho
          rw [ho, sbt_nil]
      rw [sbt_rec, men_rec hm, men_rec hm, key 0 x (by omega) h0, key 1 y (by omega) h1, key 2 z (by omega) h2]
theorem kp2_sbtL {d μ : Nat} {t : Ty} (_ : d < n) (_ : ok (n + 1 + μ) t = true) (_ : men d t = true) (_ : kp2 (sbt n Q μ t) = true) : kp2 t = true := rfl
theorem Wo_sbtL {d : Nat} (hd : d < n) (hQ : men d Q = false) : ∀ (f : Nat) (t : Ty) (μ : Nat), (flat t).length ≤ f → ok (n + 1 + μ) t = true → Wo kp2 d t = true → Wo kp2 d (sbt n Q μ t) = true
  | 0, t, μ, hf, o, _ => by have := flat_pos o; omega
  | f + 1, t, μ, hf, o, w => by
    rcases ok_cases o with rfl | ⟨k, hk, rfl⟩ | ⟨a, c, rfl, ha, hb⟩ | ⟨a, c, rfl, ha, hb⟩ | ⟨l, x, y, z, hm, rfl, h0, h1, h2⟩
    · rw [sbt_top]; rfl
    · rw [sbt_var]
      by_cases e : k = n
      · rw [if_pos e]
        have q := men_lft (r := d) n μ Q
        rw [show shl n μ d = d by unfold shl; rw [if_neg (by omega)]] at q
        exact Wo_lack _ (q.trans hQ)
      · rw [if_neg e]; split <;> rfl
    · rw [flat_fun, List.length_cons, List.length_append] at hf
      rw [Wo_fun, Bool.and_eq_true] at w
      rw [sbt_fun, Wo_fun, Wo_sbtL hd hQ f a μ (by omega) ha w.1, Wo_sbtL hd hQ f c μ (by omega) hb w.2]; rfl
    · rw [flat_all, List.length_cons, List.length_append] at hf
      rw [Wo_all, Bool.and_eq_true, Bool.and_eq_true] at w
      rw [sbt_all, Wo_all, Wo_sbtL hd hQ f a μ (by omega) ha w.2.1, Wo_sbtL hd hQ f c (μ + 1) (by omega) hb w.2.2, men_sbtL hd hQ f a μ (by omega) ha]
      have w1 := w.1
      cases e1 : men d a with
      | false => rfl
      | true =>
        rw [e1] at w1
        cases e2 : kp2 (sbt n Q μ a) with
        | false => rfl
        | true =>
          rw [kp2_sbtL hd ha e1 e2] at w1
          simp at w1
    · rw [flat_rec, List.length_cons, List.length_append, List.length_append] at hf
      rw [Wo_rec, Bool.and_eq_true, Bool.and_eq_true] at w
      have key : ∀ (i : Nat) (p : Ty), (flat p).length ≤ f → okl (n + 1 + μ) l i p → Wo kp2 d p = true → Wo kp2 d (sbt n Q μ p) = true := by
        intro i p hp ho hn
        unfold okl at ho
        by_cases hb : bit l i = true
        · rw [if_pos hb] at ho
          exact Wo_sbtL hd hQ f p μ hp ho hn
        · rw [if_neg hb] at ho
          rw [ho, sbt_nil]; rfl
      rw [sbt_rec, Wo_rec, key 0 x (by omega) h0 w.1, key 1 y (by omega) h1 w.2.1, key 2 z (by omega) h2 w.2.2]; rfl
end PmN9
/-- the texts of a term name it in no bound, and in no argument -/
def Wt (r : Nat) : Nat → Ty → Prop
  | 0, _ => True
  | f + 1, t => (nKd t = 6 → Wo kp2 r (nX t) = true ∧ Wt r f (nY t)) ∧ (nKd t = 7 ∨ nKd t = 12 → Wt r f (nX t) ∧ Wt r f (nY t)) ∧ (nKd t = 8 → ((men r (nX t) && kp2 (nX t)) = false ∧ Wo kp2 r (nX t) = true) ∧ Wt r f (nY t)) ∧ (nKd t = 9 → Wt r f (nX t) ∧ men r (nY t) = false) ∧ (nKd t = 10 → ∀ g, g < 3 → bit (nMk t) g = true → Wt r f (nP t g)) ∧ (nKd t = 11 → Wt r f (nX t))
theorem Wo_expo {κ : Ty → Bool} {r : Nat} {Γ : List Ty} (hc : okc Γ) (hw : CWo κ r Γ) : ∀ (f : Nat) (S : Ty), ok Γ.length S = true → Wo κ r S = true → Wo κ r (expo Γ f S) = true
  | 0, S, _, h => h
  | f + 1, S, o, h => by
    show Wo κ r (if 16 ≤ hd S then expo Γ f (exps Γ S) else S) = true
    by_cases c : 16 ≤ hd S
    · rw [if_pos c]
      obtain ⟨k, hk, rfl⟩ := hd_is_var o c
      rw [exps_var]
      exact Wo_expo hc hw f _ (ok_expose hc hk) (hw.exp hk)
    · rw [if_neg c]; exact h
theorem tyF_Wo {r : Nat} : ∀ (f : Nat) (t : Ty) (Γ : List Ty) (Δ : List (Nat × Ty × Nat)) (A : Ty), TWf f Γ.length (Δ.map (fun a => a.1)) t → TE Γ Δ → Wt r f t → r < Γ.length → CWo kp2 r Γ → (∀ a ∈ Δ, ∀ m, Γ.length ≤ m → Wo kp2 r (lft a.2.2 (m - a.2.2) a.2.1) = true) → tyF f t Γ Δ = .inr A → Wo kp2 r A = true
  | 0, _, _, _, _, w, _, _, _, _, _, _ => w.elim
  | f + 1, t, Γ, Δ, A, w, he, na, hr, hv, hd', e0 => by
    obtain ⟨w0, w5, w6, w7, w8, w9, w10, w11, w12⟩ := w
    obtain ⟨v6, v7, v8, v9, v10, v11⟩ := na
    have ih := fun t' Γ' Δ' A' => tyF_Wo (r := r) f t' Γ' Δ' A'
    have io := fun t' Γ' Δ' A' => tyF_ok f t' Γ' Δ' A'
    unfold tyF at e0
    by_cases c5 : nKd t = 5
    · rw [if_pos c5] at e0
      obtain ⟨e, l⟩ := tyO_in e0
      obtain ⟨a, ha⟩ := dlk_some (w5 c5)
      rw [ha] at e
      injection e with e
      rw [← e]
      exact hd' _ (dlk_mem ha) _ (Nat.le_refl _)
    rw [if_neg c5] at e0
    by_cases c6 : nKd t = 6
    · rw [if_pos c6] at e0
      obtain ⟨B, hB, h1⟩ := tbd_in e0
      obtain ⟨-, x1, x2, x3⟩ := w6 c6
      have q := ih (nY t) Γ ((nPl t, nX t, Γ.length) :: Δ) B x3 (he.lam x1 x2) (v6 c6).2 hr hv (fun a ha m hm => by
        rcases List.mem_cons.mp ha with e | e
        · rw [e]
          have q := Wo_lft kp2_lft (r := r) Γ.length (m - Γ.length) (nX t)
          rw [show shl Γ.length (m - Γ.length) r = r by unfold shl; rw [if_neg (by omega)]] at q
          exact q.trans (v6 c6).1
        · exact hd' a e m hm) hB
      obtain ⟨e, l⟩ := szt_in h1
      subst e
      rw [Wo_fun, (v6 c6).1, q]; rfl
    rw [if_neg c6] at e0
    by_cases c7 : nKd t = 7
    · rw [if_pos c7] at e0
      obtain ⟨S, hS, h1⟩ := tbd_in e0
      obtain ⟨T, hT, h1⟩ := tbd_in h1
      obtain ⟨e, l⟩ := tyO_in h1
      obtain ⟨x1, x2⟩ := w7 (Or.inl c7)
      obtain ⟨s1, s2'⟩ := io _ _ _ _ x1 he hS
      obtain ⟨o1, o2⟩ := expo_ok he.1 he.2.1 Γ.length S s1 s2'
      have q := ih _ _ _ _ x1 he (v7 (Or.inl c7)).1 hr hv hd' hS
      have q2 := Wo_expo he.1 hv Γ.length S s1 q
      unfold tyA at e
      by_cases c : hd (expo Γ Γ.length S) = 1 ∧ bel Γ T (k1 (expo Γ Γ.length S)) = true
      · rw [if_pos c] at e
        injection e with e
        subst e
        obtain ⟨a, b, e2, ha, hb⟩ := hd_is_fun o1 c.1
        rw [e2, Wo_fun, Bool.and_eq_true] at q2
        rw [e2]
        exact q2.2
      · rw [if_neg c] at e; cases e
    rw [if_neg c7] at e0
    by_cases c8 : nKd t = 8
    · rw [if_pos c8] at e0
      obtain ⟨B, hB, h1⟩ := tbd_in e0
      obtain ⟨x1, x2, x3⟩ := w8 c8
      obtain ⟨⟨y1, y2⟩, y3⟩ := v8 c8
      have q := ih (nY t) (nX t :: Γ) Δ B x3 (he.all x1 x2) y3 (by rw [List.length_cons]; omega) (hv.ext kp2_lft hr y2) (fun a ha m hm => hd' a ha m (by rw [List.length_cons] at hm; omega)) hB
      obtain ⟨e, l⟩ := szt_in h1
      subst e
      rw [Wo_all, y1, y2, q]; rfl
    rw [if_neg c8] at e0
    by_cases c9 : nKd t = 9
    · rw [if_pos c9] at e0
      obtain ⟨S, hS, h1⟩ := tbd_in e0
      obtain ⟨e, l⟩ := tyO_in h1
      obtain ⟨x1, x2, x3⟩ := w9 c9
      obtain ⟨s1, s2'⟩ := io _ _ _ _ x1 he hS
      obtain ⟨o1, o2⟩ := expo_ok he.1 he.2.1 Γ.length S s1 s2'
      have q := ih _ _ _ _ x1 he (v9 c9).1 hr hv hd' hS
      have q2 := Wo_expo he.1 hv Γ.length S s1 q
      unfold tyI at e
      by_cases c : hd (expo Γ Γ.length S) = 2 ∧ bel Γ (nY t) (k1 (expo Γ Γ.length S)) = true
      · rw [if_pos c] at e
        injection e with e
        subst e
        obtain ⟨a, b, e2, ha, hb⟩ := hd_is_all o1 c.1
        rw [e2, Wo_all, Bool.and_eq_true, Bool.and_eq_true] at q2
        rw [e2]
        exact Wo_sbtL hr (v9 c9).2 _ b 0 (Nat.le_refl _) hb q2.2.2
      · rw [if_neg c] at e; cases e
    rw [if_neg c9] at e0
    by_cases c10 : nKd t = 10
    · rw [if_pos c10] at e0
      obtain ⟨A1, hA1, h1⟩ := tbd_in e0
      obtain ⟨A2, hA2, h1⟩ := tbd_in h1
      obtain ⟨A3, hA3, h1⟩ := tbd_in h1
      obtain ⟨e, l⟩ := szt_in h1
      obtain ⟨m8, x1⟩ := w10 c10
      subst e
      have key : ∀ (g : Nat) (B : Ty), g < 3 → (if bit (nMk t) g = true then tyF f (nP t g) Γ Δ else .inr .nil) = .inr B → Wo kp2 r B = true := by
        intro g B hg hB
        by_cases c : bit (nMk t) g = true
        · rw [if_pos c] at hB
          exact ih _ _ _ _ (x1 g hg c) he (v10 c10 g hg c) hr hv hd' hB
        · rw [if_neg c] at hB
          injection hB with hB
          rw [← hB]; rfl
      rw [Wo_rec, key 0 A1 (by decide) hA1, key 1 A2 (by decide) hA2, key 2 A3 (by decide) hA3]; rfl
    rw [if_neg c10] at e0
    by_cases c11 : nKd t = 11
    · rw [if_pos c11] at e0
      obtain ⟨S, hS, h1⟩ := tbd_in e0
      obtain ⟨e, l⟩ := tyO_in h1
      obtain ⟨m3, x1⟩ := w11 c11
      obtain ⟨s1, s2'⟩ := io _ _ _ _ x1 he hS
      obtain ⟨o1, o2⟩ := expo_ok he.1 he.2.1 Γ.length S s1 s2'
      have q := ih _ _ _ _ x1 he (v11 c11) hr hv hd' hS
      have q2 := Wo_expo he.1 hv Γ.length S s1 q
      unfold tyD at e
      by_cases c : (8 ≤ hd (expo Γ Γ.length S) ∧ hd (expo Γ Γ.length S) < 16) ∧ bit (hd (expo Γ Γ.length S) - 8) (nMk t) = true
      · rw [if_pos c] at e
        injection e with e
        subst e
        obtain ⟨m, x, y, z, hm', e2⟩ := hd_is_rec o1 c.1.1 c.1.2
        rw [e2, Wo_rec, Bool.and_eq_true, Bool.and_eq_true] at q2
        rw [e2]
        rcases (show nMk t = 0 ∨ nMk t = 1 ∨ nMk t = 2 by omega) with e | e | e
        · rw [e, (pt_rec hm' x y z).1]; exact q2.1
        · rw [e, (pt_rec hm' x y z).2.1]; exact q2.2.1
        · rw [e, (pt_rec hm' x y z).2.2]; exact q2.2.2
      · rw [if_neg c] at e; cases e
    rw [if_neg c11] at e0
    obtain ⟨S, hS, h1⟩ := tbd_in e0
    obtain ⟨T, hT, h1⟩ := tbd_in h1
    obtain ⟨e, l⟩ := tyO_in h1
    have c12 : nKd t = 12 := by omega
    obtain ⟨x1, x2⟩ := w7 (Or.inr c12)
    obtain ⟨s1, s2'⟩ := io _ _ _ _ x1 he hS
    obtain ⟨t1, t2⟩ := io _ _ _ _ x2 he hT
    have q1 := ih _ _ _ _ x1 he (v7 (Or.inr c12)).1 hr hv hd' hS
    have q2 := ih _ _ _ _ x2 he (v7 (Or.inr c12)).2 hr hv hd' hT
    exact cu_Wo kp2_lft _ 0 Γ S T A r (by omega) hr hv ⟨he.1, s1, t1⟩ (PW.both q1 q2) e
