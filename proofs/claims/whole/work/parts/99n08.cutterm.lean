/-! TYPES OF TERMS IN A CONTEXT THAT IS CUT: no scheme in them names its own variable so. -/
def PNt (hb : Nat) : Nat → Ty → Nat → Prop
  | 0, _, _ => True
  | f + 1, t, d => (nKd t = 6 → PNw kp2 hb d (nX t) = true ∧ PNt hb f (nY t) d) ∧ (nKd t = 7 ∨ nKd t = 12 → PNt hb f (nX t) d ∧ PNt hb f (nY t) d) ∧ (nKd t = 8 → (PNw kp2 hb d (nX t) = true ∧ (hbv hb (nX t) = true → Wt d f (nY t))) ∧ PNt hb f (nY t) (d + 1)) ∧ (nKd t = 9 → PNt hb f (nX t) d ∧ PNw kp2 hb d (nY t) = true) ∧ (nKd t = 10 → ∀ g, g < 3 → bit (nMk t) g = true → PNt hb f (nP t g) d) ∧ (nKd t = 11 → PNt hb f (nX t) d)
section PmNa
variable {hb : Nat} {B C : Ty} {Γ0 : List Ty}
theorem PNw_expo {Δ1 : List Ty} (hx : CNx kp2 hb B C Γ0 Δ1) : ∀ (f : Nat) (S : Ty), ok (cA B C Γ0 Δ1).length S = true → PNw kp2 hb (cA B C Γ0 Δ1).length S = true → PNw kp2 hb (cA B C Γ0 Δ1).length (expo (cA B C Γ0 Δ1) f S) = true ∨ expo (cA B C Γ0 Δ1) f S = upb Γ0 Δ1 (tAll B C)
  | 0, S, _, h => Or.inl h
  | f + 1, S, o, h => by
    show PNw kp2 hb _ (if 16 ≤ hd S then expo (cA B C Γ0 Δ1) f (exps (cA B C Γ0 Δ1) S) else S) = true ∨ (if 16 ≤ hd S then expo (cA B C Γ0 Δ1) f (exps (cA B C Γ0 Δ1) S) else S) = upb Γ0 Δ1 (tAll B C)
    by_cases c : 16 ≤ hd S
    · rw [if_pos c]
      obtain ⟨k, hk, rfl⟩ := hd_is_var o c
      rw [exps_var]
      by_cases ek : k = Γ0.length
      · have e : lft k ((cA B C Γ0 Δ1).length - k) (bnd (cA B C Γ0 Δ1) k) = upb Γ0 Δ1 (tAll B C) := by
          subst ek
          unfold cA
          rw [cxs_up]
        right
        rw [e, expo_lo (by rw [upb_all, hd_all]; omega)]
      · exact PNw_expo hx f _ (ok_expose hx.1 hk) (hx.exp hk ek)
    · rw [if_neg c]; exact Or.inl h
theorem tyF_PNw (h0 : CN0 kp2 hb B C Γ0) : ∀ (f : Nat) (t : Ty) (Δ1 : List Ty) (Δ : List (Nat × Ty × Nat)) (A : Ty), TWf f (cA B C Γ0 Δ1).length (Δ.map (fun a => a.1)) t → TE (cA B C Γ0 Δ1) Δ → PNt hb f t (cA B C Γ0 Δ1).length → CNx kp2 hb B C Γ0 Δ1 → (∀ a ∈ Δ, PNw kp2 hb a.2.2 a.2.1 = true) → tyF f t (cA B C Γ0 Δ1) Δ = .inr A → PNw kp2 hb (cA B C Γ0 Δ1).length A = true
  | 0, _, _, _, _, w, _, _, _, _, _ => w.elim
  | f + 1, t, Δ1, Δ, A, w, he, na, hv, hd', e0 => by
    obtain ⟨w0, w5, w6, w7, w8, w9, w10, w11, w12⟩ := w
    obtain ⟨v6, v7, v8, v9, v10, v11⟩ := na
    have hh := h0.2.2.2.2.1
    have ih := fun t' Δ1' Δ' A' => tyF_PNw h0 f t' Δ1' Δ' A'
    have io := fun t' Γ' Δ' A' => tyF_ok f t' Γ' Δ' A'
    unfold tyF at e0
    by_cases c5 : nKd t = 5
    · rw [if_pos c5] at e0
      obtain ⟨e, l⟩ := tyO_in e0
      obtain ⟨a, ha⟩ := dlk_some (w5 c5)
      rw [ha] at e
      injection e with e
      rw [← e]
      have e2 : ok a.2 a.1 = true := (he.2.2 _ (dlk_mem ha)).2.1
      have q := PNw_lft kp2_lft hh a.2 ((cA B C Γ0 Δ1).length - a.2) a.1 a.2 (Nat.le_refl _)
      rw [show a.2 + ((cA B C Γ0 Δ1).length - a.2) = (cA B C Γ0 Δ1).length by have : a.2 ≤ (cA B C Γ0 Δ1).length := (he.2.2 _ (dlk_mem ha)).1; omega] at q
      exact q.trans (hd' _ (dlk_mem ha))
    rw [if_neg c5] at e0
    by_cases c6 : nKd t = 6
    · rw [if_pos c6] at e0
      obtain ⟨B', hB, h1⟩ := tbd_in e0
      obtain ⟨-, x1, x2, x3⟩ := w6 c6
      have q := ih (nY t) Δ1 ((nPl t, nX t, (cA B C Γ0 Δ1).length) :: Δ) B' x3 (he.lam x1 x2) (v6 c6).2 hv (fun a ha => by
        rcases List.mem_cons.mp ha with e | e
        · rw [e]; exact (v6 c6).1
        · exact hd' a e) hB
      obtain ⟨e, l⟩ := szt_in h1
      subst e
      rw [PNw_fun, (v6 c6).1, q]; rfl
    rw [if_neg c6] at e0
    by_cases c7 : nKd t = 7
    · rw [if_pos c7] at e0
      obtain ⟨S, hS, h1⟩ := tbd_in e0
      obtain ⟨T, hT, h1⟩ := tbd_in h1
      obtain ⟨e, l⟩ := tyO_in h1
      obtain ⟨x1, x2⟩ := w7 (Or.inl c7)
      obtain ⟨s1, s2'⟩ := io _ _ _ _ x1 he hS
      obtain ⟨o1, o2⟩ := expo_ok he.1 he.2.1 (cA B C Γ0 Δ1).length S s1 s2'
      have q := ih _ _ _ _ x1 he (v7 (Or.inl c7)).1 hv hd' hS
      have q2 := PNw_expo hv (cA B C Γ0 Δ1).length S s1 q
      unfold tyA at e
      by_cases c : hd (expo (cA B C Γ0 Δ1) (cA B C Γ0 Δ1).length S) = 1 ∧ bel (cA B C Γ0 Δ1) T (k1 (expo (cA B C Γ0 Δ1) (cA B C Γ0 Δ1).length S)) = true
      · rw [if_pos c] at e
        injection e with e
        subst e
        obtain ⟨a, b, e2, ha, hb'⟩ := hd_is_fun o1 c.1
        rw [e2] at q2
        rcases q2 with q2 | q2
        · rw [PNw_fun, Bool.and_eq_true] at q2
          rw [e2]
          exact q2.2
        · have := congrArg hd q2
          rw [upb_all, hd_all, hd_fun] at this
          omega
      · rw [if_neg c] at e; cases e
    rw [if_neg c7] at e0
    by_cases c8 : nKd t = 8
    · rw [if_pos c8] at e0
      obtain ⟨B', hB, h1⟩ := tbd_in e0
      obtain ⟨x1, x2, x3⟩ := w8 c8
      obtain ⟨⟨y1, y2⟩, y3⟩ := v8 c8
      have q := ih (nY t) (nX t :: Δ1) Δ B' x3 (he.all x1 x2) y3 (hv.ext h0 x1 y1) hd' hB
      have q : PNw kp2 hb ((cA B C Γ0 Δ1).length + 1) B' = true := q
      obtain ⟨e, l⟩ := szt_in h1
      subst e
      rw [PNw_all, y1, q]
      cases hc' : hbv hb (nX t) with
      | false => rfl
      | true =>
        have wq := tyF_Wo (r := (cA B C Γ0 Δ1).length) f (nY t) (nX t :: (cA B C Γ0 Δ1)) Δ B' x3 (he.all x1 x2) (y2 hc') (Nat.lt_succ_self _) (CWo.new _) (fun a ha m hm => Wo_lack _ (men_gap (he.2.2 _ ha).1 (by rw [List.length_cons] at hm; have := (he.2.2 _ ha).1; omega) _)) hB
        rw [wq]; rfl
    rw [if_neg c8] at e0
    by_cases c9 : nKd t = 9
    · rw [if_pos c9] at e0
      obtain ⟨S, hS, h1⟩ := tbd_in e0
      obtain ⟨e, l⟩ := tyO_in h1
      obtain ⟨x1, x2, x3⟩ := w9 c9
      obtain ⟨s1, s2'⟩ := io _ _ _ _ x1 he hS
      obtain ⟨o1, o2⟩ := expo_ok he.1 he.2.1 (cA B C Γ0 Δ1).length S s1 s2'
      have q := ih _ _ _ _ x1 he (v9 c9).1 hv hd' hS
      have q2 := PNw_expo hv (cA B C Γ0 Δ1).length S s1 q
      unfold tyI at e
      by_cases c : hd (expo (cA B C Γ0 Δ1) (cA B C Γ0 Δ1).length S) = 2 ∧ bel (cA B C Γ0 Δ1) (nY t) (k1 (expo (cA B C Γ0 Δ1) (cA B C Γ0 Δ1).length S)) = true
      · rw [if_pos c] at e
        injection e with e
        subst e
        obtain ⟨a, b, e2, ha, hb'⟩ := hd_is_all o1 c.1
        have pb : PNw kp2 hb ((cA B C Γ0 Δ1).length + 1) b = true := by
          rw [e2] at q2
          rcases q2 with q2 | q2
          · rw [PNw_all, Bool.and_eq_true, Bool.and_eq_true] at q2
            exact q2.1.2
          · rw [upb_all] at q2
            unfold tAll at q2
            injection q2 with q2 q3
            injection q3 with q3 q4
            rw [q4]
            exact h0.fC.1
        rw [e2]
        exact PNw_sbt hh x2 (v9 c9).2 _ b 0 (Nat.le_refl _) hb' pb
      · rw [if_neg c] at e; cases e
    rw [if_neg c9] at e0
    by_cases c10 : nKd t = 10
    · rw [if_pos c10] at e0
      obtain ⟨A1, hA1, h1⟩ := tbd_in e0
      obtain ⟨A2, hA2, h1⟩ := tbd_in h1
      obtain ⟨A3, hA3, h1⟩ := tbd_in h1
      obtain ⟨e, l⟩ := szt_in h1
      obtain ⟨m8, x1⟩ := w10 c10
      subst e
      have key : ∀ (g : Nat) (B' : Ty), g < 3 → (if bit (nMk t) g = true then tyF f (nP t g) (cA B C Γ0 Δ1) Δ else .inr .nil) = .inr B' → PNw kp2 hb (cA B C Γ0 Δ1).length B' = true := by
        intro g B' hg hB
        by_cases c : bit (nMk t) g = true
        · rw [if_pos c] at hB
          exact ih _ _ _ _ (x1 g hg c) he (v10 c10 g hg c) hv hd' hB
        · rw [if_neg c] at hB
          injection hB with hB
          rw [← hB]; rfl
      rw [PNw_rec, key 0 A1 (by decide) hA1, key 1 A2 (by decide) hA2, key 2 A3 (by decide) hA3]; rfl
    rw [if_neg c10] at e0
    by_cases c11 : nKd t = 11
    · rw [if_pos c11] at e0
      obtain ⟨S, hS, h1⟩ := tbd_in e0
      obtain ⟨e, l⟩ := tyO_in h1
      obtain ⟨m3, x1⟩ := w11 c11
      obtain ⟨s1, s2'⟩ := io _ _ _ _ x1 he hS
      obtain ⟨o1, o2⟩ := expo_ok he.1 he.2.1 (cA B C Γ0 Δ1).length S s1 s2'
      have q := ih _ _ _ _ x1 he (v11 c11) hv hd' hS
      have q2 := PNw_expo hv (cA B C Γ0 Δ1).length S s1 q
      unfold tyD at e
      by_cases c : (8 ≤ hd (expo (cA B C Γ0 Δ1) (cA B C Γ0 Δ1).length S) ∧ hd (expo (cA B C Γ0 Δ1) (cA B C Γ0 Δ1).length S) < 16) ∧ bit (hd (expo (cA B C Γ0 Δ1) (cA B C Γ0 Δ1).length S) - 8) (nMk t) = true
      · rw [if_pos c] at e
        injection e with e
        subst e
        obtain ⟨m, x, y, z, hm', e2⟩ := hd_is_rec o1 c.1.1 c.1.2
        rw [e2] at q2
        have q2 : PNw kp2 hb (cA B C Γ0 Δ1).length (tRec m x y z) = true := by
          rcases q2 with q2 | q2
          · exact q2
          · exfalso
            have := congrArg hd q2
            rw [upb_all, hd_all, hd_rec] at this
            omega
        rw [PNw_rec, Bool.and_eq_true, Bool.and_eq_true] at q2
        rw [e2]
        rcases (show nMk t = 0 ∨ nMk t = 1 ∨ nMk t = 2 by omega) with e | e | e
        · rw [e, (pt_rec hm' x y z).1]; exact q2.1
        · rw [e, (pt_rec hm' x y z).2.1]; exact q2.2.1
        · rw [e, (pt_rec hm' x y z).2.2]; exact q2.2.2
      · rw [if_neg c] at e; cases e
    rw [if_neg c11] at e0
    obtain ⟨S, hS, h1⟩ := tbd_in e0
    obtain ⟨T, hT, h1⟩ := tbd_in h1
    obtain ⟨e, l⟩ := tyO_in h1
    have c12 : nKd t = 12 := by omega
    obtain ⟨x1, x2⟩ := w7 (Or.inr c12)
    obtain ⟨s1, s2'⟩ := io _ _ _ _ x1 he hS
    obtain ⟨t1, t2⟩ := io _ _ _ _ x2 he hT
    have q1 := ih _ _ _ _ x1 he (v7 (Or.inr c12)).1 hv hd' hS
    have q2 := ih _ _ _ _ x2 he (v7 (Or.inr c12)).2 hv hd' hT
    exact (cmu_cut h0 NC_nodes (by omega) hv (onz_cv NC_nodes hv.2.1) ⟨he.1, s1, t1⟩ q1 q2 e).1
end PmNa
