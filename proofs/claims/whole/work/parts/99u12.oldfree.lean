/-! TERMS THAT MAKE NO CHOICE, measured in a context whose scheme has a small body. -/
/-- no choice on the way to the type -/
def CFt : Nat → Ty → Prop
  | 0, _ => True
  | f + 1, t => (nKd t = 6 ∨ nKd t = 8 → CFt f (nY t)) ∧ (nKd t = 7 ∨ nKd t = 9 ∨ nKd t = 11 → CFt f (nX t)) ∧ (nKd t = 10 → ∀ g, g < 3 → bit (nMk t) g = true → CFt f (nP t g)) ∧ nKd t ≠ 12
theorem CF_CO : ∀ (f : Nat) (t : Ty) (n : Nat), CFt f t → COk f t n
  | 0, _, _, _ => trivial
  | f + 1, t, n, ⟨a, b, c, d⟩ => ⟨fun k => CF_CO f _ _ (a k), fun k => CF_CO f _ _ (b k), fun k g hg hb => CF_CO f _ _ (c k g hg hb), fun k => absurd k d⟩
section PmUl
variable {N t0 fn s2 hv r0 r1 r2 r3 x0 E0 p : Nat} {n1 h : Nat → Nat} {P Q : List (List Nat)} {F G : FrT} {X : List Nat} {Z : Nat → Nat} {B C β' : Ty} {Γ0 : List Ty}
theorem GO_free (hm : ∀ y y', y ≤ y' → h y ≤ h y') (hh : ∀ y δ, h (y + δ) ≤ h y + δ) : ∀ (f : Nat) (t : Ty) (π : Stk) (ω : List Nat) (Γ : List Ty) (Δ : List (Nat × Ty × Nat)), TWf f Γ.length (Δ.map (fun a => a.1)) t → TE Γ Δ → CFt f t → AQk t0 n1 s2 h E0 p Z f t π ω → ω.length = Γ.length → GOk t0 n1 s2 h (Ek E0 p) f t π ω Γ Δ
  | 0, _, _, _, _, _, w, _, _, _, _ => w.elim
  | f + 1, t, π, ω, Γ, Δ, w, he, co, aq, hl => by
    obtain ⟨w0, w5, w6, w7, w8, w9, w10, w11, w12⟩ := w
    obtain ⟨o6, o7, o10, o12⟩ := co
    obtain ⟨a6, a7, a8, a9, a10, a12⟩ := aq
    have ih := fun t' π' ω' Γ' Δ' => GO_free hm hh f t' π' ω' Γ' Δ'
    refine ⟨fun c6 => ?_, fun c7 => ?_, fun c8 => ?_, fun c9 => ?_, fun c10 g hg hb' => ?_, fun c12 => absurd c12 o12⟩
    · obtain ⟨-, x1, x2, x3⟩ := w6 c6
      refine ⟨fun e => ?_, fun ρ e => ?_⟩
      · subst e
        exact ih _ _ _ _ _ x3 (he.lam x1 x2) (o6 (Or.inl c6)) ((a6 c6).1 rfl) hl
      · subst e
        exact ih _ _ _ _ _ x3 (he.lam x1 x2) (o6 (Or.inl c6)) ((a6 c6).2 ρ rfl) hl
    · have x1 : TWf f Γ.length (Δ.map (fun a => a.1)) (nX t) := by
        rcases c7 with c | c
        · exact (w7 (Or.inl c)).1
        · exact (w11 c).2
      exact ih _ _ _ _ _ x1 he (o7 (by omega)) (a7 c7) hl
    · obtain ⟨x1, x2, x3⟩ := w8 c8
      obtain ⟨k1, k2, k3⟩ := a8 c8
      refine ⟨fun ρ _ => vz_bd hm hh (by rw [hl]; exact x1) k1.1 k1.2 ρ, fun e => ?_, fun z ρ e => ?_⟩
      · subst e
        exact ih (nY t) [] _ (nX t :: Γ) Δ x3 (he.all x1 x2) (o6 (Or.inr c8)) (k2 rfl) (by rw [List.length_cons, List.length_cons, hl])
      · subst e
        exact ih (nY t) ρ _ (nX t :: Γ) Δ x3 (he.all x1 x2) (o6 (Or.inr c8)) (k3 z ρ rfl) (by rw [List.length_cons, List.length_cons, hl])
    · obtain ⟨x1, x2, x3⟩ := w9 c9
      obtain ⟨k1, k2⟩ := a9 c9
      exact ⟨fun ρ _ => vz_bd hm hh (by rw [hl]; exact x2) k1.1 k1.2.1 ρ, ih _ _ _ _ _ x1 he (o7 (by omega)) k2 hl⟩
    · obtain ⟨m8, x1⟩ := w10 c10
      refine ⟨fun e => ?_, fun ρ e => ?_⟩
      · subst e
        exact ih _ _ _ _ _ (x1 g hg hb') he (o10 c10 g hg hb') ((a10 c10 g hg hb').1 rfl) hl
      · subst e
        exact ih _ _ _ _ _ (x1 g hg hb') he (o10 c10 g hg hb') ((a10 c10 g hg hb').2 ρ rfl) hl
theorem free_BF (hm : ∀ y y', y ≤ y' → h y ≤ h y') (hh : ∀ y δ, h (y + δ) ≤ h y + δ) (T : TBs N t0 fn s2 hv r0 r1 r2 r3 x0 n1 h P Q F G X) (hx : PXk N P F X fn s2 r1 = true) (h21 : r2 ≤ r1) (h32 : r3 ≤ r2) (hz : ZOk Z) {f : Nat} {t S : Ty} {Δ1 : List Ty} {Δ : List (Nat × Ty × Nat)} {cv cd L : Nat} (w : TWf f (cxs Δ1 Γ0 (tAll B C)).length (Δ.map (fun a => a.1)) t) (he : TE (cxs Δ1 Γ0 (tAll B C)) Δ) (co : CFt f t) (hS : tyF f t (cxs Δ1 Γ0 (tAll B C)) Δ = .inr S) (hdc : dch Δ ≤ cd) (hcd : 2 ≤ cd) (hbb : cv + cd + 2 * mch t ≤ N) (hL : L ≤ 56) (hg : hasq f t = true → cv + gqk f t ≤ L) (hZ : ∀ q, 1 ≤ q → q ≤ mch t → ∀ w ∈ frg F q, w.2 + w.1 * X.getD L 0 ≤ Z (q + 2)) (hE : Z (mch t) ≤ E0) (hw : ∀ j, j < (cxs Δ1 Γ0 β').length → vw (onz t0 n1 s2 h (cxs Δ1 Γ0 β')) j ≤ X.getD cv 0) (hP : ∀ (A : Ty) (d : Nat), ok d A = true → tch A ≤ mch t → flv A ≤ p) (hB : BEk t0 n1 s2 h E0 p (cxs Δ1 Γ0 (tAll B C)) (onz t0 n1 s2 h (cxs Δ1 Γ0 β'))) : BF P E0 p Z (cv + cd) (mch t) (nz t0 n1 s2 h (onz t0 n1 s2 h (cxs Δ1 Γ0 β')) S) := by
  have hN := T.2.2.2.2.2.2.1
  have l0 := onz_len t0 n1 s2 h (cxs Δ1 Γ0 β')
  have l1 : (onz t0 n1 s2 h (cxs Δ1 Γ0 β')).length = (cxs Δ1 Γ0 (tAll B C)).length := by rw [l0, cxs_ll β' (tAll B C)]
  have hw' : ∀ j, j < (onz t0 n1 s2 h (cxs Δ1 Γ0 β')).length → vw (onz t0 n1 s2 h (cxs Δ1 Γ0 β')) j ≤ X.getD cv 0 := fun j hj => hw j (by rw [l0] at hj; exact hj)
  have aq := AQ_of (t0 := t0) (n1 := n1) (s2 := s2) (h := h) (E0 := E0) (p := p) hm T hz hL hZ hE (by omega) hP f t [] (onz t0 n1 s2 h (cxs Δ1 Γ0 β')) (cxs Δ1 Γ0 (tAll B C)) _ cv w l1 hw' (Nat.zero_le _) hg (Nat.le_refl _)
  have go := GO_free (E0 := E0) (p := p) (Z := Z) hm hh f t [] (onz t0 n1 s2 h (cxs Δ1 Γ0 β')) (cxs Δ1 Γ0 (tAll B C)) Δ w he co aq l1
  have he2 : HEk t0 n1 s2 h (Ek E0 p) (cxs Δ1 Γ0 (tAll B C)) (onz t0 n1 s2 h (cxs Δ1 Γ0 β')) := BEk.he hm hh he.1 l1 hB
  have q1 := tyF_vz hm f t (cxs Δ1 Γ0 (tAll B C)) Δ S [] (onz t0 n1 s2 h (cxs Δ1 Γ0 β')) w he he2 go hS
  rw [vz_no (tyF_ok f t (cxs Δ1 Γ0 (tAll B C)) Δ S w he hS).1] at q1
  have q2 := (SG_le (E0 := E0) (p := p) hm T hx h21 h32 hz f t [] (onz t0 n1 s2 h (cxs Δ1 Γ0 β')) (cxs Δ1 Γ0 (tAll B C)) Δ cv cd 0 w he (CF_CO _ _ _ co) aq l1 hw' (Nat.zero_le _) (fun e => by cases e) hdc hcd hbb).1 rfl
  exact q2.mono q1
/-- exposed, a function is worth no more -/
theorem expo_small {D : Ty} {Δ1 : List Ty} {ω : List Nat} (oD : ok (Γ0.length + 1) D = true) (hc : okc (cxs Δ1 Γ0 (tAll B C))) (hv : CV t0 n1 s2 h ω (cxs Δ1 Γ0 (tAll B D))) : ∀ (f : Nat) (S : Ty), ok (cxs Δ1 Γ0 (tAll B C)).length S = true → hd (expo (cxs Δ1 Γ0 (tAll B C)) f S) = 1 → nz t0 n1 s2 h ω (expo (cxs Δ1 Γ0 (tAll B C)) f S) ≤ nz t0 n1 s2 h ω S
  | 0, S, _, _ => Nat.le_refl _
  | f + 1, S, o, e1 => by
    have e1 : hd (if 16 ≤ hd S then expo (cxs Δ1 Γ0 (tAll B C)) f (exps (cxs Δ1 Γ0 (tAll B C)) S) else S) = 1 := e1
    show nz t0 n1 s2 h ω (if 16 ≤ hd S then expo (cxs Δ1 Γ0 (tAll B C)) f (exps (cxs Δ1 Γ0 (tAll B C)) S) else S) ≤ _
    by_cases c : 16 ≤ hd S
    · rw [if_pos c] at e1 ⊢
      obtain ⟨k, hk, rfl⟩ := hd_is_var o c
      rw [exps_var] at e1 ⊢
      by_cases ek : k = Γ0.length
      · subst ek
        rw [cxs_up, expo_lo (by rw [upb_all, hd_all]; omega), upb_all, hd_all] at e1
        exact absurd e1 (by decide)
      · have q := expo_small oD hc hv f _ (ok_expose hc hk) e1
        have q2 := CV.exp (cxd_okc oD Δ1 hc) hv (k := k) (by rw [cxs_ll (tAll B D) (tAll B C)]; exact hk)
        rw [cxs_ll (tAll B D) (tAll B C), cxs_other Γ0 (tAll B D) (tAll B C) ek Δ1] at q2
        rw [nz_var]
        omega
    · rw [if_neg c]; exact Nat.le_refl _
end PmUl
