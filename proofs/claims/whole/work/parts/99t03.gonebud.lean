/-! TERMS IN A CONTEXT WHERE A SCHEME IS NEVER ENTERED: budgets, its body being gone. -/
section PmT4
variable {N t0 fn s2 hv r0 r1 r2 r3 x0 E0 p hb : Nat} {n1 h : Nat → Nat} {P Q : List (List Nat)} {F G : FrT} {X : List Nat} {Z : Nat → Nat} {B C : Ty} {Γ0 : List Ty}
/-- all that is asked on the way -/
theorem GO_gone (hn : NC t0 n1 s2 h) (hm : ∀ y y', y ≤ y' → h y ≤ h y') (hh : ∀ y δ, h (y + δ) ≤ h y + δ) (nC : noh hb C = true) : ∀ (f : Nat) (t : Ty) (π : Stk) (ω : List Nat) (Δ1 : List Ty) (Δ : List (Nat × Ty × Nat)), TWf f (cxs Δ1 Γ0 (tAll B C)).length (Δ.map (fun a => a.1)) t → TE (cxs Δ1 Γ0 (tAll B C)) Δ → COk f t π.length → AQk t0 n1 s2 h E0 p Z f t π ω → CV t0 n1 s2 h ω (cxs Δ1 Γ0 (tAll B tTop)) → NHt hb f t → NAt f t → noac (cxs Δ1 Γ0 (tAll B C)) → SGc hb B C tTop Γ0 Δ1 → (∀ a ∈ Δ, noh hb a.2.1 = true ∧ noal a.2.1 = true) → GOk t0 n1 s2 h (Ek E0 p) f t π ω (cxs Δ1 Γ0 (tAll B C)) Δ
  | 0, _, _, _, _, _, w, _, _, _, _, _, _, _, _, _ => w.elim
  | f + 1, t, π, ω, Δ1, Δ, w, he, co, aq, hv, nh, na, hc, s, hd' => by
    obtain ⟨w0, w5, w6, w7, w8, w9, w10, w11, w12⟩ := w
    obtain ⟨o6, o7, o10, o12⟩ := co
    obtain ⟨a6, a7, a8, a9, a10, a12⟩ := aq
    obtain ⟨v6, v7, v8, v9, v10, v11⟩ := nh
    obtain ⟨u6, u7, u8, u9, u10, u11⟩ := na
    have ih := fun t' π' ω' Δ1' Δ' => GO_gone hn hm hh nC f t' π' ω' Δ1' Δ'
    have hl : ω.length = (cxs Δ1 Γ0 (tAll B C)).length := by rw [hv.len, cxs_ll (tAll B tTop) (tAll B C)]
    refine ⟨fun c6 => ?_, fun c7 => ?_, fun c8 => ?_, fun c9 => ?_, fun c10 g hg hb' => ?_, fun c12 => ?_⟩
    · obtain ⟨-, x1, x2, x3⟩ := w6 c6
      have hd2 : ∀ a ∈ ((nPl t, nX t, (cxs Δ1 Γ0 (tAll B C)).length) :: Δ), noh hb a.2.1 = true ∧ noal a.2.1 = true := by
        intro a ha
        rcases List.mem_cons.mp ha with e | e
        · rw [e]; exact ⟨(v6 c6).1, (u6 c6).1⟩
        · exact hd' a e
      refine ⟨fun e => ?_, fun ρ e => ?_⟩
      · subst e
        exact ih _ _ _ _ _ x3 (he.lam x1 x2) (o6 (Or.inl c6)) ((a6 c6).1 rfl) hv (v6 c6).2 (u6 c6).2 hc s hd2
      · subst e
        exact ih _ _ _ _ _ x3 (he.lam x1 x2) (by simpa using o6 (Or.inl c6)) ((a6 c6).2 ρ rfl) hv (v6 c6).2 (u6 c6).2 hc s hd2
    · have x1 : TWf f (cxs Δ1 Γ0 (tAll B C)).length (Δ.map (fun a => a.1)) (nX t) ∧ NHt hb f (nX t) ∧ NAt f (nX t) := by
        rcases c7 with c | c
        · exact ⟨(w7 (Or.inl c)).1, (v7 (Or.inl c)).1, (u7 (Or.inl c)).1⟩
        · exact ⟨(w11 c).2, v11 c, u11 c⟩
      exact ih _ _ _ _ _ x1.1 he (o7 (by omega)) (a7 c7) hv x1.2.1 x1.2.2 hc s hd'
    · obtain ⟨x1, x2, x3⟩ := w8 c8
      obtain ⟨k1, k2, k3⟩ := a8 c8
      obtain ⟨⟨p1, p2⟩, p3⟩ := v8 c8
      have oB : ok (cxs Δ1 Γ0 (tAll B tTop)).length (nX t) = true := by rw [cxs_ll (tAll B tTop) (tAll B C)]; exact x1
      have hc' := noac_cons hc (u8 c8).1.1 (u8 c8).1.2
      refine ⟨fun ρ _ => vz_bd hm hh (by rw [hl]; exact x1) k1.1 k1.2 ρ, fun e => ?_, fun z ρ e => ?_⟩
      · subst e
        exact ih (nY t) [] _ (nX t :: Δ1) Δ x3 (he.all x1 x2) (o6 (Or.inr c8)) (k2 rfl) (hv.ext hn s.o2 oB) p3 (u8 c8).2 hc' (s.ext x1 p1) hd'
      · subst e
        exact ih (nY t) ρ _ (nX t :: Δ1) Δ x3 (he.all x1 x2) (by simpa using o6 (Or.inr c8)) (k3 z ρ rfl) (hv.extz hn s.o2 oB z) p3 (u8 c8).2 hc' (s.ext x1 p1) hd'
    · obtain ⟨x1, x2, x3⟩ := w9 c9
      obtain ⟨k1, k2⟩ := a9 c9
      exact ⟨fun ρ _ => vz_bd hm hh (by rw [hl]; exact x2) k1.1 k1.2.1 ρ, ih _ _ _ _ _ x1 he (o7 (by omega)) k2 hv (v9 c9).1 (u9 c9).1 hc s hd'⟩
    · obtain ⟨m8, x1⟩ := w10 c10
      refine ⟨fun e => ?_, fun ρ e => ?_⟩
      · subst e
        exact ih _ _ _ _ _ (x1 g hg hb') he (o10 c10 g hg hb') ((a10 c10 g hg hb').1 rfl) hv (v10 c10 g hg hb') (u10 c10 g hg hb') hc s hd'
      · subst e
        exact ih _ _ _ _ _ (x1 g hg hb') he (by simpa using o10 c10 g hg hb') ((a10 c10 g hg hb').2 ρ rfl) hv (v10 c10 g hg hb') (u10 c10 g hg hb') hc s hd'
    · obtain ⟨x1, x2⟩ := w7 (Or.inr c12)
      obtain ⟨k0, k1, k2⟩ := o12 c12
      have e : π = [] := List.eq_nil_of_length_eq_zero k0
      subst e
      refine ⟨ih _ _ _ _ _ x1 he k1 (a12 c12).1 hv (v7 (Or.inr c12)).1 (u7 (Or.inr c12)).1 hc s hd', ih _ _ _ _ _ x2 he k2 (a12 c12).2 hv (v7 (Or.inr c12)).2 (u7 (Or.inr c12)).2 hc s hd', fun S T R hS hT e => ?_⟩
      obtain ⟨s1, s2'⟩ := tyF_ok f _ _ Δ S x1 he hS
      obtain ⟨t1, t2⟩ := tyF_ok f _ _ Δ T x2 he hT
      have nS := tyF_noh nC f _ Δ1 Δ S x1 he (v7 (Or.inr c12)).1 (u7 (Or.inr c12)).1 hc s hd' hS
      have nT := tyF_noh nC f _ Δ1 Δ T x2 he (v7 (Or.inr c12)).2 (u7 (Or.inr c12)).2 hc s hd' hT
      have oR := (cmu_ok (⟨⟨he.1, s1, t1⟩, he.2.1, s2', t2⟩) e).1
      rw [vz_no oR, vz_no s1, vz_no t1]
      exact (cmu_gone hn (by omega) s hv ⟨he.1, s1, t1⟩ nS nT e).2
/-- the bounds of the context -/
theorem BEk_gone (hn : NC t0 n1 s2 h) {β' : Ty} (hA : nz t0 n1 s2 h (onz t0 n1 s2 h Γ0) (tAll B C) ≤ E0 ∧ flv (tAll B C) ≤ p) (hp0 : ∀ b ∈ Γ0, nsch b = true ∨ flv b ≤ p) : ∀ (Δ1 : List Ty), (∀ j, j < (cxs Δ1 Γ0 β').length → vw (onz t0 n1 s2 h (cxs Δ1 Γ0 β')) j ≤ E0) → (∀ b ∈ Δ1, nsch b = true ∨ flv b ≤ p) → BEk t0 n1 s2 h E0 p (cxs Δ1 Γ0 (tAll B C)) (onz t0 n1 s2 h (cxs Δ1 Γ0 β'))
  | [], hv, _ => by
    refine ⟨⟨hA.1, Or.inr hA.2⟩, BEk_onz hn (fun j hj => ?_) hp0⟩
    have l1 := onz_len t0 n1 s2 h Γ0
    have q2 := hv j (by rw [cxs_len]; omega)
    have e2 : vw (onz t0 n1 s2 h (cxs [] Γ0 β')) j = vw (onz t0 n1 s2 h Γ0) j := by
      show vw (h (nz t0 n1 s2 h (onz t0 n1 s2 h Γ0) β') :: onz t0 n1 s2 h Γ0) j = _
      rw [vw_cons, l1, if_neg (by omega)]
    rw [e2] at q2
    exact q2
  | a :: Δ1, hv, hp => by
    have l1 := onz_len t0 n1 s2 h (cxs Δ1 Γ0 β')
    have q := hv (cxs Δ1 Γ0 β').length (by show _ < (a :: cxs Δ1 Γ0 β').length; rw [List.length_cons]; omega)
    have e : vw (onz t0 n1 s2 h (cxs (a :: Δ1) Γ0 β')) (cxs Δ1 Γ0 β').length = h (nz t0 n1 s2 h (onz t0 n1 s2 h (cxs Δ1 Γ0 β')) a) := by
      show vw (h (nz t0 n1 s2 h (onz t0 n1 s2 h (cxs Δ1 Γ0 β')) a) :: onz t0 n1 s2 h (cxs Δ1 Γ0 β')) (cxs Δ1 Γ0 β').length = _
      rw [vw_cons, l1, if_pos rfl]
    rw [e] at q
    refine ⟨⟨Nat.le_trans (hn.2.2.1 _) q, hp a (List.mem_cons_self ..)⟩, BEk_gone hn hA hp0 Δ1 (fun j hj => ?_) (fun c hc => hp c (List.mem_cons_of_mem _ hc))⟩
    have q2 := hv j (by show j < (a :: cxs Δ1 Γ0 β').length; rw [List.length_cons]; omega)
    have e2 : vw (onz t0 n1 s2 h (cxs (a :: Δ1) Γ0 β')) j = vw (onz t0 n1 s2 h (cxs Δ1 Γ0 β')) j := by
      show vw (h (nz t0 n1 s2 h (onz t0 n1 s2 h (cxs Δ1 Γ0 β')) a) :: onz t0 n1 s2 h (cxs Δ1 Γ0 β')) j = _
      rw [vw_cons, l1, if_neg (by omega)]
    rw [e2] at q2
    exact q2
theorem gone_BF (hn : NC t0 n1 s2 h) (hm : ∀ y y', y ≤ y' → h y ≤ h y') (hh : ∀ y δ, h (y + δ) ≤ h y + δ) (T : TBs N t0 fn s2 hv r0 r1 r2 r3 x0 n1 h P Q F G X) (hx : PXk N P F X fn s2 r1 = true) (h21 : r2 ≤ r1) (h32 : r3 ≤ r2) (hz : ZOk Z) (nC : noh hb C = true) {f : Nat} {t S : Ty} {Δ1 : List Ty} {Δ : List (Nat × Ty × Nat)} {cv cd L : Nat} (w : TWf f (cxs Δ1 Γ0 (tAll B C)).length (Δ.map (fun a => a.1)) t) (he : TE (cxs Δ1 Γ0 (tAll B C)) Δ) (co : COk f t 0) (nh : NHt hb f t) (na : NAt f t) (hc : noac (cxs Δ1 Γ0 (tAll B C))) (s : SGc hb B C tTop Γ0 Δ1) (hd' : ∀ a ∈ Δ, noh hb a.2.1 = true ∧ noal a.2.1 = true) (hS : tyF f t (cxs Δ1 Γ0 (tAll B C)) Δ = .inr S) (hdc : dch Δ ≤ cd) (hcd : 2 ≤ cd) (hbb : cv + cd + 2 * mch t ≤ N) (hL : L ≤ 56) (hg : hasq f t = true → cv + gqk f t ≤ L) (hZ : ∀ q, 1 ≤ q → q ≤ mch t → ∀ w ∈ frg F q, w.2 + w.1 * X.getD L 0 ≤ Z (q + 2)) (hE : Z (mch t) ≤ E0) (hw : ∀ j, j < (cxs Δ1 Γ0 (tAll B tTop)).length → vw (onz t0 n1 s2 h (cxs Δ1 Γ0 (tAll B tTop))) j ≤ X.getD cv 0) (hP : ∀ (A : Ty) (d : Nat), ok d A = true → tch A ≤ mch t → flv A ≤ p) (hB : BEk t0 n1 s2 h E0 p (cxs Δ1 Γ0 (tAll B C)) (onz t0 n1 s2 h (cxs Δ1 Γ0 (tAll B tTop)))) : BF P E0 p Z (cv + cd) (mch t) (nz t0 n1 s2 h (onz t0 n1 s2 h (cxs Δ1 Γ0 (tAll B tTop))) S) := by
  have hN := T.2.2.2.2.2.2.1
  have l0 := onz_len t0 n1 s2 h (cxs Δ1 Γ0 (tAll B tTop))
  have l1 : (onz t0 n1 s2 h (cxs Δ1 Γ0 (tAll B tTop))).length = (cxs Δ1 Γ0 (tAll B C)).length := by rw [l0, cxs_ll (tAll B tTop) (tAll B C)]
  have hw' : ∀ j, j < (onz t0 n1 s2 h (cxs Δ1 Γ0 (tAll B tTop))).length → vw (onz t0 n1 s2 h (cxs Δ1 Γ0 (tAll B tTop))) j ≤ X.getD cv 0 := fun j hj => hw j (by rw [l0] at hj; exact hj)
  have cvv := onz_cv (t0 := t0) (n1 := n1) (s2 := s2) (h := h) hn s.o2
  have aq := AQ_of (t0 := t0) (n1 := n1) (s2 := s2) (h := h) (E0 := E0) (p := p) hm T hz hL hZ hE (by omega) hP f t [] (onz t0 n1 s2 h (cxs Δ1 Γ0 (tAll B tTop))) (cxs Δ1 Γ0 (tAll B C)) _ cv w l1 hw' (Nat.zero_le _) hg (Nat.le_refl _)
  have go := GO_gone (E0 := E0) (p := p) (Z := Z) hn hm hh nC f t [] (onz t0 n1 s2 h (cxs Δ1 Γ0 (tAll B tTop))) Δ1 Δ w he co aq cvv nh na hc s hd'
  have he2 : HEk t0 n1 s2 h (Ek E0 p) (cxs Δ1 Γ0 (tAll B C)) (onz t0 n1 s2 h (cxs Δ1 Γ0 (tAll B tTop))) := BEk.he hm hh s.o1 l1 hB
  have q1 := tyF_vz hm f t (cxs Δ1 Γ0 (tAll B C)) Δ S [] (onz t0 n1 s2 h (cxs Δ1 Γ0 (tAll B tTop))) w he he2 go hS
  rw [vz_no (tyF_ok f t (cxs Δ1 Γ0 (tAll B C)) Δ S w he hS).1] at q1
  have q2 := (SG_le (E0 := E0) (p := p) hm T hx h21 h32 hz f t [] (onz t0 n1 s2 h (cxs Δ1 Γ0 (tAll B tTop))) (cxs Δ1 Γ0 (tAll B C)) Δ cv cd 0 w he co aq l1 hw' (Nat.zero_le _) (fun e => by cases e) hdc hcd hbb).1 rfl
  exact q2.mono q1
end PmT4
