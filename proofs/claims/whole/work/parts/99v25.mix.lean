/-! TERMS WITH CHOICES, a scheme that is never entered from them, its body small; pairs by their sum. -/
section PmWi
variable {t0 fn s2 hv r0 r1 r2 r3 x0 hb : Nat} {n1 h : Nat → Nat} {P Q : List (List Nat)} {F G W : FrT} {X : List Nat} {B C Dm : Ty} {Γ0 : List Ty}
theorem GH_gone2 {E : Stk → Nat} {Z : Nat → Nat} (hn : NC t0 n1 s2 h) (nC : noh hb C = true) : ∀ (f : Nat) (t : Ty) (π : Stk) (ω : List Nat) (Δ1 : List Ty) (Δ : List (Nat × Ty × Nat)), TWf f (cxs Δ1 Γ0 (tAll B C)).length (Δ.map (fun a => a.1)) t → TE (cxs Δ1 Γ0 (tAll B C)) Δ → COk f t π.length → AQh t0 n1 s2 h E Z f t π ω → CV t0 n1 s2 h ω (cxs Δ1 Γ0 (tAll B Dm)) → NHt hb f t → NAt f t → noac (cxs Δ1 Γ0 (tAll B C)) → SGc hb B C tTop Γ0 Δ1 → SGc hb B C Dm Γ0 Δ1 → (∀ a ∈ Δ, noh hb a.2.1 = true ∧ noal a.2.1 = true) → GOk t0 n1 s2 h E f t π ω (cxs Δ1 Γ0 (tAll B C)) Δ
  | 0, _, _, _, _, _, w, _, _, _, _, _, _, _, _, _, _ => w.elim
  | f + 1, t, π, ω, Δ1, Δ, w, he, co, aq, hv, nh, na, hc, s, s', hd' => by
    obtain ⟨w0, w5, w6, w7, w8, w9, w10, w11, w12⟩ := w
    obtain ⟨o6, o7, o10, o12⟩ := co
    obtain ⟨a6, a7, a8, a9, a10, a12⟩ := aq
    obtain ⟨v6, v7, v8, v9, v10, v11⟩ := nh
    obtain ⟨u6, u7, u8, u9, u10, u11⟩ := na
    have ih := fun t' π' ω' Δ1' Δ' => GH_gone2 (E := E) (Z := Z) hn nC f t' π' ω' Δ1' Δ'
    have hl : ω.length = (cxs Δ1 Γ0 (tAll B C)).length := by rw [hv.len, cxs_ll (tAll B Dm) (tAll B C)]
    refine ⟨fun c6 => ?_, fun c7 => ?_, fun c8 => ?_, fun c9 => ?_, fun c10 g hg hb' => ?_, fun c12 => ?_⟩
    · obtain ⟨-, x1, x2, x3⟩ := w6 c6
      have hd2 : ∀ a ∈ ((nPl t, nX t, (cxs Δ1 Γ0 (tAll B C)).length) :: Δ), noh hb a.2.1 = true ∧ noal a.2.1 = true := by
        intro a ha
        rcases List.mem_cons.mp ha with e | e
        · rw [e]; exact ⟨(v6 c6).1, (u6 c6).1⟩
        · exact hd' a e
      refine ⟨fun e => ?_, fun ρ e => ?_⟩
      · subst e
        exact ih _ _ _ _ _ x3 (he.lam x1 x2) (o6 (Or.inl c6)) ((a6 c6).1 rfl) hv (v6 c6).2 (u6 c6).2 hc s s' hd2
      · subst e
        exact ih _ _ _ _ _ x3 (he.lam x1 x2) (by simpa using o6 (Or.inl c6)) ((a6 c6).2 ρ rfl) hv (v6 c6).2 (u6 c6).2 hc s s' hd2
    · have x1 : TWf f (cxs Δ1 Γ0 (tAll B C)).length (Δ.map (fun a => a.1)) (nX t) ∧ NHt hb f (nX t) ∧ NAt f (nX t) := by
        rcases c7 with c | c
        · exact ⟨(w7 (Or.inl c)).1, (v7 (Or.inl c)).1, (u7 (Or.inl c)).1⟩
        · exact ⟨(w11 c).2, v11 c, u11 c⟩
      exact ih _ _ _ _ _ x1.1 he (o7 (by omega)) (a7 c7) hv x1.2.1 x1.2.2 hc s s' hd'
    · obtain ⟨x1, x2, x3⟩ := w8 c8
      obtain ⟨k1, k2, k3⟩ := a8 c8
      obtain ⟨⟨p1, p2⟩, p3⟩ := v8 c8
      have oB : ok (cxs Δ1 Γ0 (tAll B Dm)).length (nX t) = true := by rw [cxs_ll (tAll B Dm) (tAll B C)]; exact x1
      have hc' := noac_cons hc (u8 c8).1.1 (u8 c8).1.2
      refine ⟨k1, fun e => ?_, fun z ρ e => ?_⟩
      · subst e
        exact ih (nY t) [] _ (nX t :: Δ1) Δ x3 (he.all x1 x2) (o6 (Or.inr c8)) (k2 rfl) (hv.ext hn s'.o2 oB) p3 (u8 c8).2 hc' (s.ext x1 p1) (s'.ext x1 p1) hd'
      · subst e
        exact ih (nY t) ρ _ (nX t :: Δ1) Δ x3 (he.all x1 x2) (by simpa using o6 (Or.inr c8)) (k3 z ρ rfl) (hv.extz hn s'.o2 oB z) p3 (u8 c8).2 hc' (s.ext x1 p1) (s'.ext x1 p1) hd'
    · obtain ⟨x1, x2, x3⟩ := w9 c9
      obtain ⟨k1, k2⟩ := a9 c9
      exact ⟨k1.1, ih _ _ _ _ _ x1 he (o7 (by omega)) k2 hv (v9 c9).1 (u9 c9).1 hc s s' hd'⟩
    · obtain ⟨m8, x1⟩ := w10 c10
      refine ⟨fun e => ?_, fun ρ e => ?_⟩
      · subst e
        exact ih _ _ _ _ _ (x1 g hg hb') he (o10 c10 g hg hb') ((a10 c10 g hg hb').1 rfl) hv (v10 c10 g hg hb') (u10 c10 g hg hb') hc s s' hd'
      · subst e
        exact ih _ _ _ _ _ (x1 g hg hb') he (by simpa using o10 c10 g hg hb') ((a10 c10 g hg hb').2 ρ rfl) hv (v10 c10 g hg hb') (u10 c10 g hg hb') hc s s' hd'
    · obtain ⟨x1, x2⟩ := w7 (Or.inr c12)
      obtain ⟨k0, k1, k2⟩ := o12 c12
      have e : π = [] := List.eq_nil_of_length_eq_zero k0
      subst e
      refine ⟨ih _ _ _ _ _ x1 he k1 (a12 c12).1 hv (v7 (Or.inr c12)).1 (u7 (Or.inr c12)).1 hc s s' hd', ih _ _ _ _ _ x2 he k2 (a12 c12).2 hv (v7 (Or.inr c12)).2 (u7 (Or.inr c12)).2 hc s s' hd', fun S T R hS hT e => ?_⟩
      obtain ⟨s1, s2'⟩ := tyF_ok f _ _ Δ S x1 he hS
      obtain ⟨t1, t2⟩ := tyF_ok f _ _ Δ T x2 he hT
      have nS := tyF_noh nC f _ Δ1 Δ S x1 he (v7 (Or.inr c12)).1 (u7 (Or.inr c12)).1 hc s hd' hS
      have nT := tyF_noh nC f _ Δ1 Δ T x2 he (v7 (Or.inr c12)).2 (u7 (Or.inr c12)).2 hc s hd' hT
      have oR := (cmu_ok (⟨⟨he.1, s1, t1⟩, he.2.1, s2', t2⟩) e).1
      rw [vz_no oR, vz_no s1, vz_no t1]
      exact (cmu_gone2 hn (by omega) s' hv ⟨he.1, s1, t1⟩ nS nT e).2
theorem gone_fin3 (hn : NC t0 n1 s2 h) (hm : ∀ y y', y ≤ y' → h y ≤ h y') (hh : ∀ y δ, h (y + δ) ≤ h y + δ) (T : TBs 58 t0 fn s2 hv r0 r1 r2 r3 x0 n1 h P Q F G X) (hx : PXk 58 P F X fn s2 r1 = true) (hFm : frm F = true) (h21 : r2 ≤ r1) (h32 : r3 ≤ r2) (H1 : ∀ y, h y ≤ hv + max 1 y) {f : Nat} {t S : Ty} {Δ1 : List Ty} {Δ : List (Nat × Ty × Nat)} {ob cd wB Bd y E0 p cv : Nat} (w : TWf f (cxs Δ1 Γ0 (tAll B C)).length (Δ.map (fun a => a.1)) t) (he : TE (cxs Δ1 Γ0 (tAll B C)) Δ) (co : COk f t 0) (nC : noh hb C = true) (nh : NHt hb f t) (na : NAt f t) (hc : noac (cxs Δ1 Γ0 (tAll B C))) (s : SGc hb B C tTop Γ0 Δ1) (s' : SGc hb B C Dm Γ0 Δ1) (hd' : ∀ a ∈ Δ, noh hb a.2.1 = true ∧ noal a.2.1 = true) (nq : NQk f t 0) (hg : hasq f t = true → gqk f t = 0) (hm17 : mch t ≤ 17) (hb0 : ∀ b ∈ Γ0, nsch b = true ∨ flv b ≤ ob) (hb1 : ∀ b ∈ Δ1, nsch b = true ∨ flv b ≤ ob) (hdc : dch Δ ≤ cd) (hcd : 2 ≤ cd) (y01 : x0 ≤ y) (hw : ∀ j, j < (cxs Δ1 Γ0 (tAll B Dm)).length → vw (onz t0 n1 s2 h (cxs Δ1 Γ0 (tAll B Dm))) j ≤ y) (vZ : ∀ z, nz t0 n1 s2 h (hzx h z (nz t0 n1 s2 h (onz t0 n1 s2 h Γ0) B) :: onz t0 n1 s2 h Γ0) C ≤ E0 + p * max z wB) (R1 : smY1 P F X hv E0 p wB ob y cv cd (mch t) Bd = true) (hS : tyF f t (cxs Δ1 Γ0 (tAll B C)) Δ = .inr S) : nz t0 n1 s2 h (onz t0 n1 s2 h (cxs Δ1 Γ0 (tAll B Dm))) S ≤ Bd := by
  unfold smY1 at R1
  rw [Bool.and_eq_true, Bool.and_eq_true] at R1
  obtain ⟨lk, n2', n4'⟩ := R1
  have lk := Nat.le_of_ble_eq_true lk
  have n2' := Nat.le_of_ble_eq_true n2'
  have hm1 : mch t ≤ 56 := by omega
  generalize hEA : nz t0 n1 s2 h (onz t0 n1 s2 h Γ0) (tAll B C) = EA
  have hω2 : ∀ j, j < (onz t0 n1 s2 h (cxs Δ1 Γ0 (tAll B Dm))).length → vw (onz t0 n1 s2 h (cxs Δ1 Γ0 (tAll B Dm))) j ≤ y := fun j hj => hw j (by rw [onz_len] at hj; exact hj)
  have hSc : ∀ (A : Ty) (ω : List Nat), hd A = 2 → ok ω.length A = true → tch A + 2 ≤ mch t → (∀ j, j < ω.length → vw ω j ≤ y) → HSg t0 n1 s2 h (eby F hv y (mch t) E0 p wB ob) (max EA (mxl (Zx F y) (mch t + 1))) (max (flv (tAll B C)) (lmx fr1 (mch t - 2))) ω A := by
    intro A ω h2 o ht hw
    have e1 := Zx_le T o (by omega) y01 hw
    have e2 := mxl_ge (f := Zx F y) (n := mch t + 1) (s := tch A + 2) (by omega)
    have e3 := flv_lmx (k := mch t - 2) o (by omega) (by omega)
    rcases ok_cases o with rfl | ⟨j, hj, rfl⟩ | ⟨a, b, rfl, ha, hb⟩ | ⟨a, b, rfl, ha, hb⟩ | ⟨c, u, v, w, hc, rfl, h0, h1, h2'⟩
    · exact absurd h2 (by decide)
    · rw [hd_var] at h2; omega
    · rw [hd_fun] at h2; omega
    · refine ⟨a, b, rfl, by omega, by omega, fun z => ?_⟩
      rw [tch_all] at ht
      have pa := tch_pos ha
      have pc := tch_pos hb
      have q1 := Zx_le T ha (by omega) y01 hw
      have q2 := Zx_ms hFm (x := y) (s := tch a + 2) (s' := mch t - 5) (by omega) (by omega)
      have q3 := H1 (nz t0 n1 s2 h ω a)
      have q4 : nz t0 n1 s2 h (hzx h z (nz t0 n1 s2 h ω a) :: ω) b ≤ Zx F (max (max z y) (hv + max 1 (Zx F y (mch t - 5)))) (tch b + 2) := by
        refine Zx_le T (by rw [List.length_cons]; exact hb) (by omega) (by omega) (fun j hj => ?_)
        rw [vw_cons]
        by_cases e : j = ω.length
        · rw [if_pos e]
          unfold hzx
          omega
        · rw [if_neg e]
          have := hw j (by rw [List.length_cons] at hj; omega)
          omega
      have q5 := Zx_ms hFm (x := max (max z y) (hv + max 1 (Zx F y (mch t - 5)))) (s := tch b + 2) (s' := mch t - 5) (by omega) (by omega)
      unfold eby
      exact Nat.le_trans q4 (Nat.le_trans q5 (Nat.le_max_right _ _))
    · rw [hd_rec] at h2; omega
  have hA : ∀ (A : Ty), ok (onz t0 n1 s2 h (cxs Δ1 Γ0 (tAll B Dm))).length A = true → tch A + 2 ≤ mch t → (∀ ρ, ρ ≠ [] → vz t0 n1 s2 h (Eg (max y (Zx F y (mch t - 3))) (eby F hv y (mch t) E0 p wB ob) (max EA (mxl (Zx F y) (mch t + 1))) (max (flv (tAll B C)) (lmx fr1 (mch t - 2)))) A ρ (onz t0 n1 s2 h (cxs Δ1 Γ0 (tAll B Dm))) ≤ Eg (max y (Zx F y (mch t - 3))) (eby F hv y (mch t) E0 p wB ob) (max EA (mxl (Zx F y) (mch t + 1))) (max (flv (tAll B C)) (lmx fr1 (mch t - 2))) ρ) ∧ nz t0 n1 s2 h (onz t0 n1 s2 h (cxs Δ1 Γ0 (tAll B Dm))) A ≤ Zx F y (tch A + 2) := fun A o ht => ⟨arg_g eby_mono hm hh T y01 hm1 (fun s hs => Nat.le_trans (Zx_ms hFm (x := y) (s := s) (s' := mch t - 3) (by omega) (by omega)) (Nat.le_max_right _ _)) hSc _ A _ (Nat.le_refl _) o ht hω2, Zx_le T o (by omega) y01 hω2⟩
  have l1 : (onz t0 n1 s2 h (cxs Δ1 Γ0 (tAll B Dm))).length = (cxs Δ1 Γ0 (tAll B C)).length := by rw [onz_len, cxs_ll (tAll B Dm) (tAll B C)]
  have aq := AH_0 (m0 := mch t) hA f t [] (cxs Δ1 Γ0 (tAll B C)) _ w l1 hg (Nat.le_refl _)
  have hB := BEg_cxb (β' := tAll B Dm) (EP := max EA (mxl (Zx F y) (mch t + 1))) (pb := max (flv (tAll B C)) (lmx fr1 (mch t - 2))) (eb := eby F hv y (mch t) E0 p wB ob) hn (Nat.le_max_left y (Zx F y (mch t - 3))) ⟨B, C, rfl, Nat.le_trans (Nat.le_of_eq hEA) (Nat.le_max_left _ _), Nat.le_max_left _ _, fun z => Nat.le_trans (vZ z) (by unfold eby; exact Nat.le_trans (Nat.le_max_left _ _) (Nat.le_max_left _ _))⟩ (fun b hb => (hb0 b hb).imp id (fun c z => by have := Nat.mul_le_mul_right z c; unfold eby; omega)) Δ1 hw (fun b hb => (hb1 b hb).imp id (fun c z => by have := Nat.mul_le_mul_right z c; unfold eby; omega))
  have go := GH_gone2 (E := (Eg (max y (Zx F y (mch t - 3))) (eby F hv y (mch t) E0 p wB ob) (max EA (mxl (Zx F y) (mch t + 1))) (max (flv (tAll B C)) (lmx fr1 (mch t - 2))))) (Z := Zx F y) hn nC f t [] (onz t0 n1 s2 h (cxs Δ1 Γ0 (tAll B Dm))) Δ1 Δ w he co aq (onz_cv hn s'.o2) nh na hc s s' hd'
  have he2 : HEk t0 n1 s2 h (Eg (max y (Zx F y (mch t - 3))) (eby F hv y (mch t) E0 p wB ob) (max EA (mxl (Zx F y) (mch t + 1))) (max (flv (tAll B C)) (lmx fr1 (mch t - 2)))) (cxs Δ1 Γ0 (tAll B C)) (onz t0 n1 s2 h (cxs Δ1 Γ0 (tAll B Dm))) := BEg.he eby_mono hm hh he.1 l1 hB
  have q1 := tyF_vz hm f t (cxs Δ1 Γ0 (tAll B C)) Δ S [] (onz t0 n1 s2 h (cxs Δ1 Γ0 (tAll B Dm))) w he he2 go hS
  rw [vz_no (tyF_ok f t (cxs Δ1 Γ0 (tAll B C)) Δ S w he hS).1] at q1
  have hwX : ∀ j, j < (onz t0 n1 s2 h (cxs Δ1 Γ0 (tAll B Dm))).length → vw (onz t0 n1 s2 h (cxs Δ1 Γ0 (tAll B Dm))) j ≤ X.getD cv 0 := fun j hj => Nat.le_trans (hω2 j hj) lk
  have q2 := (SH_le (E := (Eg (max y (Zx F y (mch t - 3))) (eby F hv y (mch t) E0 p wB ob) (max EA (mxl (Zx F y) (mch t + 1))) (max (flv (tAll B C)) (lmx fr1 (mch t - 2))))) (Z := Zx F y) (hd := hdg (max y (Zx F y (mch t - 3))) (eby F hv y (mch t) E0 p wB ob) (Zx F y)) (Eg_m eby_mono) Eg_n (Eg_1 eby_mono) hm T hx h21 h32 (fun s => Nat.le_max_left _ _) f t [] (onz t0 n1 s2 h (cxs Δ1 Γ0 (tAll B Dm))) (cxs Δ1 Γ0 (tAll B C)) Δ cv cd 0 w he co nq (Nat.zero_le _) aq l1 hwX (Nat.zero_le _) (fun e => by cases e) (fun _ => rfl) hdc hcd n2').1 rfl
  have bg := q2.mono q1
  exact natL_le n4' hm17 bg
end PmWi
section PmWj
variable {f : Nat} {t x y C Dm : Ty} {Γ0 Δ1 : List Ty} {Δ : List (Nat × Ty × Nat)}
theorem gone_lv2 (w : TWf f (cxs Δ1 Γ0 (tAll tTop C)).length (Δ.map (fun a => a.1)) t) (he : TE (cxs Δ1 Γ0 (tAll tTop C)) Δ) (hs : smp f t) (nC : noh 0 C = true) (nh : NHt 0 f t) (na : NAt f t) (hc : noac (cxs Δ1 Γ0 (tAll tTop C))) (sg : SGc 0 tTop C tTop Γ0 Δ1) (oD : ok (Γ0.length + 1) Dm = true) (vD : ∀ b, vlr b 1 (mz b 1 Γ0 (tAll tTop Dm)) ≤ 7) (vG : gz Γ0 (tAll tTop Dm) ≤ 3) (hd' : ∀ a ∈ Δ, noh 0 a.2.1 = true ∧ noal a.2.1 = true) (k18 : 18 ≤ tch C) (hb : cch (cxs Δ1 Γ0 (tAll tTop C)) + dch Δ + mch t ≤ 57) (h5 : cch (cxs Δ1 Γ0 (tAll tTop C)) + mch t + 5 ≤ 57) (h47 : cch (cxs Δ1 Γ0 (tAll tTop C)) ≤ 47) : SmV Dm tTop C Γ0 Δ1 Δ f t (bhg bh1 (cch (cxs Δ1 Γ0 (tAll tTop C))) (mch t)) (bhg bhq (cch (cxs Δ1 Γ0 (tAll tTop C))) (mch t)) := by
  obtain ⟨co, nq, hg, h17⟩ := hs
  have mp := short_c w
  obtain ⟨oc0, oA⟩ := okc_low Δ1 he.1
  have oC := (ok_all.mp oA).2
  have ec : cch (cxs Δ1 Γ0 (tAll tTop C)) = 9 + tch C + cch Γ0 + cch Δ1 := by
    rw [cch_cx, tch_all, tch_top]
    omega
  rw [ec] at hb h5 h47 ⊢
  have sg' : SGc 0 tTop C Dm Γ0 Δ1 := ⟨sg.1, sg.2.1, sg.o1, cxd_okc oD Δ1 he.1, sg.nc⟩
  refine fun S hS => ⟨fun b => ?_, ?_⟩
  · obtain ⟨v, hv, x1, x2⟩ := xr_form (t0 := 0) (n1 := fun _ => 1 + 1) (s2 := 3) (hv := 1) xr1_ok (tbs1 b).2.2.2.1 (tbs1 b).2.2.2.2.1 _ C (Γ0.length + 1) (Nat.le_refl _) oC (by omega)
    obtain ⟨p, hp, e, he', g1, g2, g3⟩ := sm_ctx (wB := 2) (v := v) (va := 7) (Dm := Dm) (tbs1 b) fg1_ok (by decide) fg1_m (vlr_one b) he.1 oD (vD b) x1 x2 (by rw [nz_top]; exact vlr_one b 0) (Nat.le_refl _) (by omega) (Nat.le_refl _) (by omega)
    obtain ⟨s, hs, k1, k2, k3, k4⟩ := lhz_get (lha_get lh1_a k18 h47) hv hp he'
    have R := lhc_get lh1_ok (by omega) hs h17 (by omega)
    have o := ob_long he.1 (by omega) (by omega) k4
    exact gone_fin3 (NC_rows b 1) (vlr_mono b 1) (vlr_lip b 1) (tbs1 b) px1_ok fr1_m (Nat.le_refl _) (Nat.le_refl _) (vlr_one b) w he co nC nh na hc sg sg' hd' nq hg h17 o.1 o.2 (by omega) (by omega) (Nat.le_trans g1 k1) (fun j hj => Nat.le_trans (g2 j hj) k1) (fun z => Nat.le_trans (g3 z) (Nat.add_le_add k2 (Nat.mul_le_mul_right _ k3))) R hS
  · obtain ⟨v, hv, x1, x2⟩ := xr_form (t0 := 1) (n1 := ngc) (s2 := 1) (hv := 0) xrq_ok tbsq.2.2.2.1 tbsq.2.2.2.2.1 _ C (Γ0.length + 1) (Nat.le_refl _) oC (by omega)
    obtain ⟨p, hp, e, he', g1, g2, g3⟩ := sm_ctx (wB := 1) (v := v) (va := 3) (Dm := Dm) tbsq fgq_ok (by decide) fgq_m (fun y => by show y ≤ 0 + max 1 y; omega) he.1 oD vG x1 x2 (by rw [nz_top]; exact Nat.le_refl _) (Nat.le_refl _) (by omega) (Nat.le_refl _) (by omega)
    obtain ⟨s, hs, k1, k2, k3, k4⟩ := lhz_get (lha_get lhq_a k18 h47) hv hp he'
    have R := lhc_get lhq_ok (by omega) hs h17 (by omega)
    have o := ob_long he.1 (by omega) (by omega) k4
    exact gone_fin3 NC_goals (fun y y' hy => hy) (fun y δ => Nat.le_refl _) tbsq pxq_ok frq_m (by decide) (by decide) (fun y => by show y ≤ 0 + max 1 y; omega) w he co nC nh na hc sg sg' hd' nq hg h17 o.1 o.2 (by omega) (by omega) (Nat.le_trans g1 k1) (fun j hj => Nat.le_trans (g2 j hj) k1) (fun z => Nat.le_trans (g3 z) (Nat.add_le_add k2 (Nat.mul_le_mul_right _ k3))) R hS
/-- a term without a choice, or one from which the scheme is never entered -/
def SMx (C : Ty) (Γ0 Δ1 : List Ty) (Δ : List (Nat × Ty × Nat)) (f : Nat) (t : Ty) : Prop := smp f t ∧ (CFt f t ∨ (noh 0 C = true ∧ NHt 0 f t ∧ SGc 0 tTop C tTop Γ0 Δ1 ∧ ∀ a ∈ Δ, noh 0 a.2.1 = true))
theorem SMx.v (w : TWf f (cxs Δ1 Γ0 (tAll tTop C)).length (Δ.map (fun a => a.1)) t) (he : TE (cxs Δ1 Γ0 (tAll tTop C)) Δ) (z : SMx C Γ0 Δ1 Δ f t) (na : NAt f t) (hc : noac (cxs Δ1 Γ0 (tAll tTop C))) (hd' : ∀ a ∈ Δ, noal a.2.1 = true) (oD : ok (Γ0.length + 1) Dm = true) (vD : ∀ b, vlr b 1 (mz b 1 Γ0 (tAll tTop Dm)) ≤ 7) (vG : gz Γ0 (tAll tTop Dm) ≤ 3) (k18 : 18 ≤ tch C) (hb : cch (cxs Δ1 Γ0 (tAll tTop C)) + dch Δ + mch t ≤ 57) (h5 : cch (cxs Δ1 Γ0 (tAll tTop C)) + mch t + 5 ≤ 57) (h47 : cch (cxs Δ1 Γ0 (tAll tTop C)) ≤ 47) : SmV Dm tTop C Γ0 Δ1 Δ f t (bhg bh1 (cch (cxs Δ1 Γ0 (tAll tTop C))) (mch t)) (bhg bhq (cch (cxs Δ1 Γ0 (tAll tTop C))) (mch t)) := by
  obtain ⟨hs, cf | ⟨nC, nh, sg, nd⟩⟩ := z
  · exact long_v w he cf hs oD vD vG k18 hb h5 h47
  · exact gone_lv2 w he hs nC nh na hc sg oD vD vG (fun a ha => ⟨nd a ha, hd' a ha⟩) k18 hb h5 h47
end PmWj
