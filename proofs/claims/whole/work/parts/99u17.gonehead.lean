/-! A SCHEME THAT IS NEVER ENTERED: heads counted exactly. -/
section PmUr
variable {N t0 fn s2 hv r0 r1 r2 r3 x0 X7 EA p pb EB p2 va hb : Nat} {n1 h : Nat → Nat} {P Q : List (List Nat)} {F G W : FrT} {X : List Nat} {B C : Ty} {Γ0 : List Ty}
theorem GH_gone {E : Stk → Nat} {Z : Nat → Nat} (hn : NC t0 n1 s2 h) (nC : noh hb C = true) : ∀ (f : Nat) (t : Ty) (π : Stk) (ω : List Nat) (Δ1 : List Ty) (Δ : List (Nat × Ty × Nat)), TWf f (cxs Δ1 Γ0 (tAll B C)).length (Δ.map (fun a => a.1)) t → TE (cxs Δ1 Γ0 (tAll B C)) Δ → COk f t π.length → AQh t0 n1 s2 h E Z f t π ω → CV t0 n1 s2 h ω (cxs Δ1 Γ0 (tAll B tTop)) → NHt hb f t → NAt f t → noac (cxs Δ1 Γ0 (tAll B C)) → SGc hb B C tTop Γ0 Δ1 → (∀ a ∈ Δ, noh hb a.2.1 = true ∧ noal a.2.1 = true) → GOk t0 n1 s2 h E f t π ω (cxs Δ1 Γ0 (tAll B C)) Δ
  | 0, _, _, _, _, _, w, _, _, _, _, _, _, _, _, _ => w.elim
  | f + 1, t, π, ω, Δ1, Δ, w, he, co, aq, hv, nh, na, hc, s, hd' => by
    obtain ⟨w0, w5, w6, w7, w8, w9, w10, w11, w12⟩ := w
    obtain ⟨o6, o7, o10, o12⟩ := co
    obtain ⟨a6, a7, a8, a9, a10, a12⟩ := aq
    obtain ⟨v6, v7, v8, v9, v10, v11⟩ := nh
    obtain ⟨u6, u7, u8, u9, u10, u11⟩ := na
    have ih := fun t' π' ω' Δ1' Δ' => GH_gone (E := E) (Z := Z) hn nC f t' π' ω' Δ1' Δ'
    have hl : ω.length = (cxs Δ1 Γ0 (tAll B C)).length := by rw [hv.len, cxs_ll (tAll B tTop) (tAll B C)]
    refine ⟨fun c6 => ?_, fun c7 => ?_, fun c8 => ?_, fun c9 => ?_, fun c10 g hg hb' => ?_, fun c12 => ?_⟩
    · obtain ⟨-, x1, x2, x3⟩ := w6 c6
      have hd2 : ∀ a ∈ ((nPl t, nX t, (cxs Δ1 Γ0 (tAll B C)).length) :: Δ), noh hb a.2.1 = true ∧ noal a.2.1 = true := by
        intro a ha
        rcases List.mem_cons.mp ha with e | e
        · rw [e]; exact ⟨(v6 c6).1, (u6 c6).1⟩
        · exact hd' a e
      refine ⟨fun e => ?_, fun ρ e => ?_⟩
      · subst e
        exact ih _ _ _ _ _ x3 (he.lam x1 x2) (o6 (Or.inl c6)) ((a6 c6).1 rfl) hv (v6 c6).2 (u6 c6).2 hc s hd2
      · subst e
        exact ih _ _ _ _ _ x3 (he.lam x1 x2) (by simpa using o6 (Or.inl c6)) ((a6 c6).2 ρ rfl) hv (v6 c6).2 (u6 c6).2 hc s hd2
    · have x1 : TWf f (cxs Δ1 Γ0 (tAll B C)).length (Δ.map (fun a => a.1)) (nX t) ∧ NHt hb f (nX t) ∧ NAt f (nX t) := by
        rcases c7 with c | c
        · exact ⟨(w7 (Or.inl c)).1, (v7 (Or.inl c)).1, (u7 (Or.inl c)).1⟩
        · exact ⟨(w11 c).2, v11 c, u11 c⟩
      exact ih _ _ _ _ _ x1.1 he (o7 (by omega)) (a7 c7) hv x1.2.1 x1.2.2 hc s hd'
    · obtain ⟨x1, x2, x3⟩ := w8 c8
      obtain ⟨k1, k2, k3⟩ := a8 c8
      obtain ⟨⟨p1, p2⟩, p3⟩ := v8 c8
      have oB : ok (cxs Δ1 Γ0 (tAll B tTop)).length (nX t) = true := by rw [cxs_ll (tAll B tTop) (tAll B C)]; exact x1
      have hc' := noac_cons hc (u8 c8).1.1 (u8 c8).1.2
      refine ⟨k1, fun e => ?_, fun z ρ e => ?_⟩
      · subst e
        exact ih (nY t) [] _ (nX t :: Δ1) Δ x3 (he.all x1 x2) (o6 (Or.inr c8)) (k2 rfl) (hv.ext hn s.o2 oB) p3 (u8 c8).2 hc' (s.ext x1 p1) hd'
      · subst e
        exact ih (nY t) ρ _ (nX t :: Δ1) Δ x3 (he.all x1 x2) (by simpa using o6 (Or.inr c8)) (k3 z ρ rfl) (hv.extz hn s.o2 oB z) p3 (u8 c8).2 hc' (s.ext x1 p1) hd'
    · obtain ⟨x1, x2, x3⟩ := w9 c9
      obtain ⟨k1, k2⟩ := a9 c9
      exact ⟨k1.1, ih _ _ _ _ _ x1 he (o7 (by omega)) k2 hv (v9 c9).1 (u9 c9).1 hc s hd'⟩
    · obtain ⟨m8, x1⟩ := w10 c10
      refine ⟨fun e => ?_, fun ρ e => ?_⟩
      · subst e
        exact ih _ _ _ _ _ (x1 g hg hb') he (o10 c10 g hg hb') ((a10 c10 g hg hb').1 rfl) hv (v10 c10 g hg hb') (u10 c10 g hg hb') hc s hd'
      · subst e
        exact ih _ _ _ _ _ (x1 g hg hb') he (by simpa using o10 c10 g hg hb') ((a10 c10 g hg hb').2 ρ rfl) hv (v10 c10 g hg hb') (u10 c10 g hg hb') hc s hd'
    · obtain ⟨x1, x2⟩ := w7 (Or.inr c12)
      obtain ⟨k0, k1, k2⟩ := o12 c12
      have e : π = [] := List.eq_nil_of_length_eq_zero k0
      subst e
      refine ⟨ih _ _ _ _ _ x1 he k1 (a12 c12).1 hv (v7 (Or.inr c12)).1 (u7 (Or.inr c12)).1 hc s hd', ih _ _ _ _ _ x2 he k2 (a12 c12).2 hv (v7 (Or.inr c12)).2 (u7 (Or.inr c12)).2 hc s hd', fun S T R hS hT e => ?_⟩
      obtain ⟨s1, s2'⟩ := tyF_ok f _ _ Δ S x1 he hS
      obtain ⟨t1, t2⟩ := tyF_ok f _ _ Δ T x2 he hT
      have nS := tyF_noh nC f _ Δ1 Δ S x1 he (v7 (Or.inr c12)).1 (u7 (Or.inr c12)).1 hc s hd' hS
      have nT := tyF_noh nC f _ Δ1 Δ T x2 he (v7 (Or.inr c12)).2 (u7 (Or.inr c12)).2 hc s hd' hT
      have oR := (cmu_ok (⟨⟨he.1, s1, t1⟩, he.2.1, s2', t2⟩) e).1
      rw [vz_no oR, vz_no s1, vz_no t1]
      exact (cmu_gone hn (by omega) s hv ⟨he.1, s1, t1⟩ nS nT e).2
theorem gone_BGh (hn : NC t0 n1 s2 h) (nC : noh hb C = true) (hm : ∀ y y', y ≤ y' → h y ≤ h y') (hh : ∀ y δ, h (y + δ) ≤ h y + δ) (T : TBs N t0 fn s2 hv r0 r1 r2 r3 x0 n1 h P Q F G X) (hx : PXk N P F X fn s2 r1 = true) (h21 : r2 ≤ r1) (h32 : r3 ≤ r2) (hpb : p ≤ pb) {f : Nat} {t S : Ty} {Δ1 : List Ty} {Δ : List (Nat × Ty × Nat)} {cv cd L : Nat} (w : TWf f (cxs Δ1 Γ0 (tAll B C)).length (Δ.map (fun a => a.1)) t) (he : TE (cxs Δ1 Γ0 (tAll B C)) Δ) (co : COk f t 0) (nh : NHt hb f t) (na : NAt f t) (hc : noac (cxs Δ1 Γ0 (tAll B C))) (s : SGc hb B C tTop Γ0 Δ1) (hd' : ∀ a ∈ Δ, noh hb a.2.1 = true ∧ noal a.2.1 = true) (nq : NQk f t 0) (hS : tyF f t (cxs Δ1 Γ0 (tAll B C)) Δ = .inr S) (hdc : dch Δ ≤ cd) (hcd : 2 ≤ cd) (hbb : cv + cd + 2 * mch t ≤ N) (hL : L ≤ 56) (hg : hasq f t = true → cv + gqk f t ≤ L) (hx0 : x0 ≤ X.getD L 0) (h7 : ∀ s, s + 3 ≤ mch t → Zx F (X.getD L 0) s ≤ X7) (hEB : ∀ s, s ≤ mch t → Zx F (X.getD L 0) s ≤ EB) (hP : ∀ (A : Ty) (d : Nat), ok d A = true → tch A + 2 ≤ mch t → flv A ≤ p2) (hw : ∀ j, j < (cxs Δ1 Γ0 (tAll B tTop)).length → vw (onz t0 n1 s2 h (cxs Δ1 Γ0 (tAll B tTop))) j ≤ X.getD cv 0) (hB : BEh t0 n1 s2 h X7 EA p pb EB p2 (cxs Δ1 Γ0 (tAll B C)) (onz t0 n1 s2 h (cxs Δ1 Γ0 (tAll B tTop)))) : BGh P (hdh X7 EA p EB p2 (Zx F (X.getD L 0))) (bqk f t 0) (cv + cd) (mch t) (nz t0 n1 s2 h (onz t0 n1 s2 h (cxs Δ1 Γ0 (tAll B tTop))) S) := by
  have hN := T.2.2.2.2.2.2.1
  have l0 := onz_len t0 n1 s2 h (cxs Δ1 Γ0 (tAll B tTop))
  have l1 : (onz t0 n1 s2 h (cxs Δ1 Γ0 (tAll B tTop))).length = (cxs Δ1 Γ0 (tAll B C)).length := by rw [l0, cxs_ll (tAll B tTop) (tAll B C)]
  have hw' : ∀ j, j < (onz t0 n1 s2 h (cxs Δ1 Γ0 (tAll B tTop))).length → vw (onz t0 n1 s2 h (cxs Δ1 Γ0 (tAll B tTop))) j ≤ X.getD cv 0 := fun j hj => hw j (by rw [l0] at hj; exact hj)
  have hA : ∀ (A : Ty) (ω : List Nat), ok ω.length A = true → tch A + 2 ≤ mch t → (∀ j, j < ω.length → vw ω j ≤ X.getD L 0) → (∀ ρ, ρ ≠ [] → vz t0 n1 s2 h (Eh X7 EA p pb EB p2) A ρ ω ≤ Eh X7 EA p pb EB p2 ρ) ∧ nz t0 n1 s2 h ω A ≤ Zx F (X.getD L 0) (tch A + 2) := fun A ω o ht hw => ⟨arg_h hpb hm hh T hx0 (m := mch t) (by omega) h7 hEB hP _ A ω (Nat.le_refl _) o ht hw, Zx_le T o (by omega) hx0 hw⟩
  have aq := AH_of (t0 := t0) (n1 := n1) (s2 := s2) (h := h) (E := Eh X7 EA p pb EB p2) (Z := Zx F (X.getD L 0)) hm T hL (m0 := mch t) (by omega) hA f t [] (onz t0 n1 s2 h (cxs Δ1 Γ0 (tAll B tTop))) (cxs Δ1 Γ0 (tAll B C)) _ cv w l1 hw' (Nat.zero_le _) hg (Nat.le_refl _)
  have go := GH_gone (E := Eh X7 EA p pb EB p2) (Z := Zx F (X.getD L 0)) hn nC f t [] (onz t0 n1 s2 h (cxs Δ1 Γ0 (tAll B tTop))) Δ1 Δ w he co aq (onz_cv hn s.o2) nh na hc s hd'
  have he2 : HEk t0 n1 s2 h (Eh X7 EA p pb EB p2) (cxs Δ1 Γ0 (tAll B C)) (onz t0 n1 s2 h (cxs Δ1 Γ0 (tAll B tTop))) := BEh.he hpb hm hh he.1 l1 hB
  have q1 := tyF_vz hm f t (cxs Δ1 Γ0 (tAll B C)) Δ S [] (onz t0 n1 s2 h (cxs Δ1 Γ0 (tAll B tTop))) w he he2 go hS
  rw [vz_no (tyF_ok f t (cxs Δ1 Γ0 (tAll B C)) Δ S w he hS).1] at q1
  have q2 := (SH_le (E := Eh X7 EA p pb EB p2) (Z := Zx F (X.getD L 0)) (hd := hdh X7 EA p EB p2 (Zx F (X.getD L 0))) (Eh_m hpb) Eh_n Eh_1 hm T hx h21 h32 (fun s => Nat.le_max_left _ _) f t [] (onz t0 n1 s2 h (cxs Δ1 Γ0 (tAll B tTop))) (cxs Δ1 Γ0 (tAll B C)) Δ cv cd 0 w he co nq (Nat.zero_le _) aq l1 hw' (Nat.zero_le _) (fun e => by cases e) (fun _ => rfl) hdc hcd hbb).1 rfl
  exact q2.mono q1
theorem gone_gen (nC : noh hb C = true) (hn : NC t0 n1 s2 h) (hm : ∀ y y', y ≤ y' → h y ≤ h y') (hh : ∀ y δ, h (y + δ) ≤ h y + δ) (T : TBs 58 t0 fn s2 hv r0 r1 r2 r3 x0 n1 h P Q F G X) (hx : PXk 58 P F X fn s2 r1 = true) (h21 : r2 ≤ r1) (h32 : r3 ≤ r2) (hgr : fgc F W hv = true) (hW : (1, 0) ∈ frg W 0) {f : Nat} {t S : Ty} {Δ1 : List Ty} {Δ : List (Nat × Ty × Nat)} {g ob cd Bd : Nat} (w : TWf f (cxs Δ1 Γ0 (tAll B C)).length (Δ.map (fun a => a.1)) t) (he : TE (cxs Δ1 Γ0 (tAll B C)) Δ) (vD : h (nz t0 n1 s2 h (onz t0 n1 s2 h Γ0) (tAll B tTop)) ≤ va) (co : COk f t 0) (nh : NHt hb f t) (na : NAt f t) (hc : noac (cxs Δ1 Γ0 (tAll B C))) (s : SGc hb B C tTop Γ0 Δ1) (hd' : ∀ a ∈ Δ, noh hb a.2.1 = true ∧ noal a.2.1 = true) (nq : NQk f t 0) (hk : tch (tAll B C) ≤ 56) (hm17 : mch t ≤ 17) (hg : hasq f t = true → gqk f t ≤ g) (hb0 : ∀ b ∈ Γ0, nsch b = true ∨ flv b ≤ ob) (hb1 : ∀ b ∈ Δ1, nsch b = true ∨ flv b ≤ ob) (hr : cch Γ0 ≤ 56) (hr2 : cch Δ1 ≤ 38) (hdc : dch Δ ≤ cd) (hcd : 2 ≤ cd) (hR : smH P F W X x0 va (tch (tAll B C)) (cch Γ0) (cch Δ1) g ob (bqk f t 0) cd (mch t) Bd = true) (hS : tyF f t (cxs Δ1 Γ0 (tAll B C)) Δ = .inr S) : nz t0 n1 s2 h (onz t0 n1 s2 h (cxs Δ1 Γ0 (tAll B tTop))) S ≤ Bd := by
  obtain ⟨oc0, oA⟩ := okc_low Δ1 he.1
  have o2 := s.o2
  have l0 := onz_len t0 n1 s2 h Γ0
  have hω : ∀ j, j < (onz t0 n1 s2 h Γ0).length → vw (onz t0 n1 s2 h Γ0) j ≤ max x0 (X.getD (cch Γ0) 0) := fun j hj => Nat.le_trans (onz_chars T.1 T.2.1 T.2.2.1 T.2.2.2.1 T.2.2.2.2.1 Γ0 oc0 hr j (by rw [l0] at hj; exact hj)) (Nat.le_max_right _ _)
  obtain ⟨v, hv', c2⟩ := val_any T (A := tAll B C) (ω := onz t0 n1 s2 h Γ0) (y := max x0 (X.getD (cch Γ0) 0)) (by rw [l0]; exact oA) hk (Nat.le_max_left _ _) hω
  have h0' : ∀ j, j < (tAll B tTop :: Γ0).length → vw (onz t0 n1 s2 h (tAll B tTop :: Γ0)) j ≤ max (max x0 (X.getD (cch Γ0) 0)) va := by
    intro j hj
    show vw (h (nz t0 n1 s2 h (onz t0 n1 s2 h Γ0) (tAll B tTop)) :: onz t0 n1 s2 h Γ0) j ≤ _
    rw [vw_cons, l0]
    by_cases e : j = Γ0.length
    · rw [if_pos e]
      exact Nat.le_trans vD (Nat.le_max_right _ _)
    · rw [if_neg e]
      rw [List.length_cons] at hj
      exact Nat.le_trans (hω j (by rw [l0]; omega)) (Nat.le_max_left _ _)
  obtain ⟨e, he', e1, hw⟩ := onz_gr T hgr hW (Nat.le_trans (Nat.le_max_left x0 _) (Nat.le_max_left _ va)) h0' Δ1 o2 hr2
  unfold smH at hR
  have R1 := List.all_eq_true.mp (List.all_eq_true.mp hR e he') v hv'
  clear hR hv' he'
  generalize max (max x0 (X.getD (cch Γ0) 0)) va = y0 at *
  generalize max x0 (X.getD (cch Γ0) 0) = y1 at *
  have lk := lstX_ok (X := X) (y := e.2 + e.1 * y0)
  generalize e.2 + e.1 * y0 = y at *
  generalize lstX X y = cv at *
  unfold smH1 smH2 at R1
  rw [Bool.and_eq_true, Bool.and_eq_true, Bool.and_eq_true] at R1
  obtain ⟨n1', n2', n3', n4'⟩ := R1
  have n1' := Nat.le_of_ble_eq_true n1'
  have n2' := Nat.le_of_ble_eq_true n2'
  have n3' := Nat.le_of_ble_eq_true n3'
  have lk := lk (by omega)
  refine natH_le n4' hm17 (gone_BGh hn nC (L := cv + g) (pb := lmx fr1 (tch (tAll B C))) hm hh T hx h21 h32 (Nat.le_refl _) w he co nh na hc s hd' nq hS hdc hcd n2' n1' (fun c => by have := hg c; omega) n3' (fun i hi => ?_) (fun i hi => ?_) (fun A d o ht => ?_) (fun j hj => Nat.le_trans (hw j hj) lk) ?_)
  · exact Nat.le_trans (mxl_ge (f := Zx F (X.getD (cv + g) 0)) (n := mch t - 2) (by omega)) (Nat.le_max_right _ _)
  · exact Nat.le_trans (mxl_ge (f := Zx F (X.getD (cv + g) 0)) (n := mch t + 1) (by omega)) (Nat.le_max_right _ _)
  · exact Nat.le_trans (flv_lmx o (by omega) (by omega)) (Nat.le_max_left _ _)
  · have fA := flv_lmx oA (Nat.le_refl _) hk
    refine BEh_cut (y := y) hn (Nat.le_max_left _ _) ⟨c2, fA, fun z => ?_⟩ (fun b hb => ?_) Δ1 hw (fun b hb => ?_)
    · have q := all_z (t0 := t0) (n1 := n1) (s2 := s2) hm hh (ω := onz t0 n1 s2 h Γ0) (by rw [l0]; exact oA) z
      exact Nat.le_trans q (Nat.add_le_add c2 (Nat.mul_le_mul_right z fA))
    · exact (hb0 b hb).imp id (fun c => ⟨Nat.le_max_left _ _, Nat.le_trans c (Nat.le_max_right _ _)⟩)
    · exact (hb1 b hb).imp id (fun c => ⟨Nat.le_max_left _ _, Nat.le_trans c (Nat.le_max_right _ _)⟩)
end PmUr
