/-! EVERY TERM (no choice under an operation) BY NATURE: a pair by its shorter term. -/
section PmQ7
variable {N t0 fn s2 hv r0 r1 r2 r3 x0 E0 p : Nat} {n1 h : Nat → Nat} {P Q : List (List Nat)} {F G : FrT} {X : List Nat} {Z : Nat → Nat}
theorem BEk_onz (hn : NC t0 n1 s2 h) : ∀ {Γ : List Ty}, (∀ j, j < Γ.length → vw (onz t0 n1 s2 h Γ) j ≤ E0) → (∀ b ∈ Γ, nsch b = true ∨ flv b ≤ p) → BEk t0 n1 s2 h E0 p Γ (onz t0 n1 s2 h Γ)
  | [], _, _ => trivial
  | b :: Γ, hv, hp => by
    have l1 := onz_len t0 n1 s2 h Γ
    have q := hv Γ.length (by rw [List.length_cons]; omega)
    have e : vw (onz t0 n1 s2 h (b :: Γ)) Γ.length = h (nz t0 n1 s2 h (onz t0 n1 s2 h Γ) b) := by
      show vw (h (nz t0 n1 s2 h (onz t0 n1 s2 h Γ) b) :: onz t0 n1 s2 h Γ) Γ.length = _
      rw [vw_cons, l1, if_pos rfl]
    rw [e] at q
    refine ⟨⟨Nat.le_trans (hn.2.2.1 _) q, hp b (List.mem_cons_self ..)⟩, BEk_onz hn (fun j hj => ?_) (fun c hc => hp c (List.mem_cons_of_mem _ hc))⟩
    have q2 := hv j (by rw [List.length_cons]; omega)
    have e2 : vw (onz t0 n1 s2 h (b :: Γ)) j = vw (onz t0 n1 s2 h Γ) j := by
      show vw (h (nz t0 n1 s2 h (onz t0 n1 s2 h Γ) b) :: onz t0 n1 s2 h Γ) j = _
      rw [vw_cons, l1, if_neg (by omega)]
    rw [e2] at q2
    exact q2
theorem nat_BF (hn : NC t0 n1 s2 h) (hm : ∀ y y', y ≤ y' → h y ≤ h y') (hh : ∀ y δ, h (y + δ) ≤ h y + δ) (T : TBs N t0 fn s2 hv r0 r1 r2 r3 x0 n1 h P Q F G X) (hx : PXk N P F X fn s2 r1 = true) (h21 : r2 ≤ r1) (h32 : r3 ≤ r2) (hz : ZOk Z) {f : Nat} {t S : Ty} {Γ : List Ty} {Δ : List (Nat × Ty × Nat)} {cd L : Nat} (w : TWf f Γ.length (Δ.map (fun a => a.1)) t) (he : TE Γ Δ) (co : COk f t 0) (hS : tyF f t Γ Δ = .inr S) (hd : dch Δ ≤ cd) (hcd : 2 ≤ cd) (hb : cch Γ + cd + 2 * mch t ≤ N) (hL : L ≤ 56) (hg : hasq f t = true → cch Γ + gqk f t ≤ L) (hZ : ∀ q, 1 ≤ q → q ≤ mch t → ∀ w ∈ frg F q, w.2 + w.1 * X.getD L 0 ≤ Z (q + 2)) (hE : Z (mch t) ≤ E0) (hX : X.getD (cch Γ) 0 ≤ E0) (hP : ∀ (A : Ty) (d : Nat), ok d A = true → tch A ≤ mch t → flv A ≤ p) (hB : ∀ b ∈ Γ, nsch b = true ∨ flv b ≤ p) : BF P E0 p Z (cch Γ + cd) (mch t) (nz t0 n1 s2 h (onz t0 n1 s2 h Γ) S) := by
  have hN := T.2.2.2.2.2.2.1
  have l1 := onz_len t0 n1 s2 h Γ
  have hw : ∀ j, j < (onz t0 n1 s2 h Γ).length → vw (onz t0 n1 s2 h Γ) j ≤ X.getD (cch Γ) 0 := fun j hj => onz_chars T.1 T.2.1 T.2.2.1 T.2.2.2.1 T.2.2.2.2.1 Γ he.1 (by omega) j (by rw [l1] at hj; exact hj)
  have cv := onz_cv hn he.1
  have aq := AQ_of (t0 := t0) (n1 := n1) (s2 := s2) (h := h) (E0 := E0) (p := p) hm T hz hL hZ hE (by omega) hP f t [] (onz t0 n1 s2 h Γ) Γ _ (cch Γ) w l1 hw (Nat.zero_le _) hg (Nat.le_refl _)
  have go := GO_nat (E0 := E0) (p := p) (Z := Z) hn hm hh f t [] (onz t0 n1 s2 h Γ) Γ Δ w he co aq cv
  have he2 : HEk t0 n1 s2 h (Ek E0 p) Γ (onz t0 n1 s2 h Γ) := BEk.he hm hh he.1 l1 (BEk_onz hn (fun j hj => Nat.le_trans (hw j (by rw [l1]; exact hj)) hX) hB)
  have q1 := tyF_vz hm f t Γ Δ S [] (onz t0 n1 s2 h Γ) w he he2 go hS
  rw [vz_no (tyF_ok f t Γ Δ S w he hS).1] at q1
  have q2 := (SG_le (E0 := E0) (p := p) hm T hx h21 h32 hz f t [] (onz t0 n1 s2 h Γ) Γ Δ (cch Γ) cd 0 w he co aq l1 hw (Nat.zero_le _) (fun e => by cases e) hd hcd hb).1 rfl
  exact q2.mono q1
end PmQ7
