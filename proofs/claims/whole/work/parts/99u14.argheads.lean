/-! ARGUMENTS UNDER OPERATIONS, heads counted exactly; terms without a choice. -/
section PmUo
variable {N t0 fn s2 hv r0 r1 r2 r3 x0 X7 EA p pb EB p2 x m : Nat} {n1 h : Nat → Nat} {P Q : List (List Nat)} {F G : FrT} {X : List Nat} {B C β' : Ty} {Γ0 : List Ty}
theorem arg_h (hp : p ≤ pb) (hm : ∀ y y', y ≤ y' → h y ≤ h y') (hh : ∀ y δ, h (y + δ) ≤ h y + δ) (T : TBs N t0 fn s2 hv r0 r1 r2 r3 x0 n1 h P Q F G X) (hx0 : x0 ≤ x) (m56 : m ≤ 56) (h7 : ∀ s, s + 3 ≤ m → Zx F x s ≤ X7) (hB : ∀ s, s ≤ m → Zx F x s ≤ EB) (hP : ∀ (A : Ty) (d : Nat), ok d A = true → tch A + 2 ≤ m → flv A ≤ p2) : ∀ (f : Nat) (A : Ty) (ω : List Nat), (flat A).length ≤ f → ok ω.length A = true → tch A + 2 ≤ m → (∀ j, j < ω.length → vw ω j ≤ x) → ∀ ρ, ρ ≠ [] → vz t0 n1 s2 h (Eh X7 EA p pb EB p2) A ρ ω ≤ Eh X7 EA p pb EB p2 ρ
  | 0, A, ω, hf, o, _, _, _, _ => by have := flat_pos o; omega
  | f + 1, A, ω, hf, o, ht, hw, ρ, hρ => by
    have part : ∀ (b : Ty) (ρ : Stk), (flat b).length ≤ f → ok ω.length b = true → tch b + 3 ≤ tch A → vz t0 n1 s2 h (Eh X7 EA p pb EB p2) b ρ ω ≤ Eh X7 EA p pb EB p2 (none :: ρ) := by
      intro b ρ hb ob hc
      cases ρ with
      | nil =>
        rw [vz_no ob]
        exact Nat.le_trans (Zx_le T ob (by omega) hx0 hw) (Nat.le_trans (h7 _ (by omega)) (Eh_0 _))
      | cons q ρ => exact Nat.le_trans (arg_h hp hm hh T hx0 m56 h7 hB hP f b ω hb ob (by omega) hw (q :: ρ) (by simp)) (Eh_m hp none _)
    cases ρ with
    | nil => exact absurd rfl hρ
    | cons q ρ =>
      rcases ok_cases o with rfl | ⟨j, hj, rfl⟩ | ⟨a, b, rfl, ha, hb⟩ | ⟨a, b, rfl, ha, hb⟩ | ⟨c, u, v, w, hc, rfl, h0, h1, h2⟩
      · rw [vz_top]; exact Nat.zero_le _
      · rw [vz_var]; exact Nat.le_refl _
      · rw [flat_fun, List.length_cons, List.length_append] at hf
        have pa := tch_pos ha
        cases q with
        | none =>
          rw [vz_funN]
          exact part b ρ (by omega) hb (by rw [tch_fun]; omega)
        | some z => rw [vz_funS]; exact Nat.zero_le _
      · cases q with
        | none => rw [vz_allN]; exact Nat.zero_le _
        | some z =>
          have e1 : nz t0 n1 s2 h ω (tAll a b) ≤ EB := Nat.le_trans (Zx_le T o (by omega) hx0 hw) (hB _ ht)
          have e2 := hP _ _ o ht
          have q1 := vz_upE (t0 := t0) (n1 := n1) (s2 := s2) (h := h) (E := Eh X7 EA p pb EB p2) (Eh_m hp) hm _ (tAll a b) (some z :: ρ) ω (Nat.le_refl _) o
          have q2 := nz_flv (t0 := t0) (n1 := n1) (s2 := s2) hm hh (z := zm (some z :: ρ)) _ (tAll a b) ω ω (zm (some z :: ρ)) (Nat.le_refl _) rfl o (Nat.le_refl _) (fun j _ => by omega)
          have q3 := Nat.mul_le_mul_right (zm (some z :: ρ)) e2
          have q4 := Eh_B (X7 := X7) (EA := EA) (p := p) (pb := pb) (EB := EB) (p2 := p2) (some z :: ρ) rfl
          omega
      · rw [flat_rec, List.length_cons, List.length_append, List.length_append] at hf
        cases q with
        | none =>
          have key : ∀ (i : Nat) (y : Ty), i < 3 → (flat y).length ≤ f → okl ω.length c i y → tch y + rch c ≤ tch (tRec c u v w) → vz t0 n1 s2 h (Eh X7 EA p pb EB p2) y ρ ω ≤ Eh X7 EA p pb EB p2 (none :: ρ) := by
            intro i y hi hy oy hc2
            unfold okl at oy
            by_cases hb : bit c i = true
            · rw [if_pos hb] at oy
              have c0 : c ≠ 0 := by
                intro e
                rw [e, bit_iff, Nat.zero_div] at hb
                omega
              have r3 := rch_two c0 hc
              exact part y ρ hy oy (by omega)
            · rw [if_neg hb] at oy
              rw [oy, vz_nil]; exact Nat.zero_le _
          rw [vz_recN]
          have tr := tch_rec c u v w
          exact Nat.max_le.mpr ⟨key 0 u (by decide) (by omega) h0 (by omega), Nat.max_le.mpr ⟨key 1 v (by decide) (by omega) h1 (by omega), key 2 w (by decide) (by omega) h2 (by omega)⟩⟩
        | some z => rw [vz_recS]; exact Nat.zero_le _
theorem GH_free {E : Stk → Nat} {Z : Nat → Nat} : ∀ (f : Nat) (t : Ty) (π : Stk) (ω : List Nat) (Γ : List Ty) (Δ : List (Nat × Ty × Nat)), TWf f Γ.length (Δ.map (fun a => a.1)) t → TE Γ Δ → CFt f t → AQh t0 n1 s2 h E Z f t π ω → ω.length = Γ.length → GOk t0 n1 s2 h E f t π ω Γ Δ
  | 0, _, _, _, _, _, w, _, _, _, _ => w.elim
  | f + 1, t, π, ω, Γ, Δ, w, he, co, aq, hl => by
    obtain ⟨w0, w5, w6, w7, w8, w9, w10, w11, w12⟩ := w
    obtain ⟨o6, o7, o10, o12⟩ := co
    obtain ⟨a6, a7, a8, a9, a10, a12⟩ := aq
    have ih := fun t' π' ω' Γ' Δ' => GH_free (E := E) (Z := Z) f t' π' ω' Γ' Δ'
    refine ⟨fun c6 => ?_, fun c7 => ?_, fun c8 => ?_, fun c9 => ?_, fun c10 g hg hb' => ?_, fun c12 => absurd c12 o12⟩
    · obtain ⟨-, x1, x2, x3⟩ := w6 c6
      refine ⟨fun e => ?_, fun ρ e => ?_⟩
      · subst e
        exact ih _ _ _ _ _ x3 (he.lam x1 x2) (o6 (Or.inl c6)) ((a6 c6).1 rfl) hl
      · subst e
        exact ih _ _ _ _ _ x3 (he.lam x1 x2) (o6 (Or.inl c6)) ((a6 c6).2 ρ rfl) hl
    · have x1 : TWf f Γ.length (Δ.map (fun a => a.1)) (nX t) := by
        rcases c7 with c | c
        · exact (w7 (Or.inl c)).1
        · exact (w11 c).2
      exact ih _ _ _ _ _ x1 he (o7 (by omega)) (a7 c7) hl
    · obtain ⟨x1, x2, x3⟩ := w8 c8
      obtain ⟨k1, k2, k3⟩ := a8 c8
      refine ⟨k1, fun e => ?_, fun z ρ e => ?_⟩
      · subst e
        exact ih (nY t) [] _ (nX t :: Γ) Δ x3 (he.all x1 x2) (o6 (Or.inr c8)) (k2 rfl) (by rw [List.length_cons, List.length_cons, hl])
      · subst e
        exact ih (nY t) ρ _ (nX t :: Γ) Δ x3 (he.all x1 x2) (o6 (Or.inr c8)) (k3 z ρ rfl) (by rw [List.length_cons, List.length_cons, hl])
    · obtain ⟨x1, x2, x3⟩ := w9 c9
      obtain ⟨k1, k2⟩ := a9 c9
      exact ⟨k1.1, ih _ _ _ _ _ x1 he (o7 (by omega)) k2 hl⟩
    · obtain ⟨m8, x1⟩ := w10 c10
      refine ⟨fun e => ?_, fun ρ e => ?_⟩
      · subst e
        exact ih _ _ _ _ _ (x1 g hg hb') he (o10 c10 g hg hb') ((a10 c10 g hg hb').1 rfl) hl
      · subst e
        exact ih _ _ _ _ _ (x1 g hg hb') he (o10 c10 g hg hb') ((a10 c10 g hg hb').2 ρ rfl) hl
/-- the type of a term without a choice, its heads counted exactly -/
theorem free_BGh (hm : ∀ y y', y ≤ y' → h y ≤ h y') (hh : ∀ y δ, h (y + δ) ≤ h y + δ) (T : TBs N t0 fn s2 hv r0 r1 r2 r3 x0 n1 h P Q F G X) (hx : PXk N P F X fn s2 r1 = true) (h21 : r2 ≤ r1) (h32 : r3 ≤ r2) (hpb : p ≤ pb) {f : Nat} {t S : Ty} {Δ1 : List Ty} {Δ : List (Nat × Ty × Nat)} {cv cd L : Nat} (w : TWf f (cxs Δ1 Γ0 (tAll B C)).length (Δ.map (fun a => a.1)) t) (he : TE (cxs Δ1 Γ0 (tAll B C)) Δ) (co : CFt f t) (nq : NQk f t 0) (hS : tyF f t (cxs Δ1 Γ0 (tAll B C)) Δ = .inr S) (hdc : dch Δ ≤ cd) (hcd : 2 ≤ cd) (hbb : cv + cd + 2 * mch t ≤ N) (hL : L ≤ 56) (hg : hasq f t = true → cv + gqk f t ≤ L) (hx0 : x0 ≤ X.getD L 0) (h7 : ∀ s, s + 3 ≤ mch t → Zx F (X.getD L 0) s ≤ X7) (hEB : ∀ s, s ≤ mch t → Zx F (X.getD L 0) s ≤ EB) (hP : ∀ (A : Ty) (d : Nat), ok d A = true → tch A + 2 ≤ mch t → flv A ≤ p2) (hw : ∀ j, j < (cxs Δ1 Γ0 β').length → vw (onz t0 n1 s2 h (cxs Δ1 Γ0 β')) j ≤ X.getD cv 0) (hB : BEh t0 n1 s2 h X7 EA p pb EB p2 (cxs Δ1 Γ0 (tAll B C)) (onz t0 n1 s2 h (cxs Δ1 Γ0 β'))) : BGh P (hdh X7 EA p EB p2 (Zx F (X.getD L 0))) (bqk f t 0) (cv + cd) (mch t) (nz t0 n1 s2 h (onz t0 n1 s2 h (cxs Δ1 Γ0 β')) S) := by
  have hN := T.2.2.2.2.2.2.1
  have l0 := onz_len t0 n1 s2 h (cxs Δ1 Γ0 β')
  have l1 : (onz t0 n1 s2 h (cxs Δ1 Γ0 β')).length = (cxs Δ1 Γ0 (tAll B C)).length := by rw [l0, cxs_ll β' (tAll B C)]
  have hw' : ∀ j, j < (onz t0 n1 s2 h (cxs Δ1 Γ0 β')).length → vw (onz t0 n1 s2 h (cxs Δ1 Γ0 β')) j ≤ X.getD cv 0 := fun j hj => hw j (by rw [l0] at hj; exact hj)
  have hA : ∀ (A : Ty) (ω : List Nat), ok ω.length A = true → tch A + 2 ≤ mch t → (∀ j, j < ω.length → vw ω j ≤ X.getD L 0) → (∀ ρ, ρ ≠ [] → vz t0 n1 s2 h (Eh X7 EA p pb EB p2) A ρ ω ≤ Eh X7 EA p pb EB p2 ρ) ∧ nz t0 n1 s2 h ω A ≤ Zx F (X.getD L 0) (tch A + 2) := fun A ω o ht hw => ⟨arg_h hpb hm hh T hx0 (m := mch t) (by omega) h7 hEB hP _ A ω (Nat.le_refl _) o ht hw, Zx_le T o (by omega) hx0 hw⟩
  have aq := AH_of (t0 := t0) (n1 := n1) (s2 := s2) (h := h) (E := Eh X7 EA p pb EB p2) (Z := Zx F (X.getD L 0)) hm T hL (m0 := mch t) (by omega) hA f t [] (onz t0 n1 s2 h (cxs Δ1 Γ0 β')) (cxs Δ1 Γ0 (tAll B C)) _ cv w l1 hw' (Nat.zero_le _) hg (Nat.le_refl _)
  have go := GH_free (E := Eh X7 EA p pb EB p2) (Z := Zx F (X.getD L 0)) f t [] (onz t0 n1 s2 h (cxs Δ1 Γ0 β')) (cxs Δ1 Γ0 (tAll B C)) Δ w he co aq l1
  have he2 : HEk t0 n1 s2 h (Eh X7 EA p pb EB p2) (cxs Δ1 Γ0 (tAll B C)) (onz t0 n1 s2 h (cxs Δ1 Γ0 β')) := BEh.he hpb hm hh he.1 l1 hB
  have q1 := tyF_vz hm f t (cxs Δ1 Γ0 (tAll B C)) Δ S [] (onz t0 n1 s2 h (cxs Δ1 Γ0 β')) w he he2 go hS
  rw [vz_no (tyF_ok f t (cxs Δ1 Γ0 (tAll B C)) Δ S w he hS).1] at q1
  have q2 := (SH_le (E := Eh X7 EA p pb EB p2) (Z := Zx F (X.getD L 0)) (hd := hdh X7 EA p EB p2 (Zx F (X.getD L 0))) (Eh_m hpb) Eh_n Eh_1 hm T hx h21 h32 (fun s => Nat.le_max_left _ _) f t [] (onz t0 n1 s2 h (cxs Δ1 Γ0 β')) (cxs Δ1 Γ0 (tAll B C)) Δ cv cd 0 w he (CF_CO _ _ _ co) nq (Nat.zero_le _) aq l1 hw' (Nat.zero_le _) (fun e => by cases e) (fun _ => rfl) hdc hcd hbb).1 rfl
  exact q2.mono q1
/-- the scheme, instantiated -/
theorem all_z (hm : ∀ y y', y ≤ y' → h y ≤ h y') (hh : ∀ y δ, h (y + δ) ≤ h y + δ) {ω : List Nat} (o : ok ω.length (tAll B C) = true) (z : Nat) : nz t0 n1 s2 h (hzx h z (nz t0 n1 s2 h ω B) :: ω) C ≤ nz t0 n1 s2 h ω (tAll B C) + flv (tAll B C) * z := by
  have q := nz_flv (t0 := t0) (n1 := n1) (s2 := s2) hm hh (z := 0) _ C (h (nz t0 n1 s2 h ω B) :: ω) (hzx h z (nz t0 n1 s2 h ω B) :: ω) z (Nat.le_refl _) rfl (by rw [List.length_cons]; exact (ok_all.mp o).2) (Nat.zero_le _) (fun j hj => by
    rw [vw_cons, vw_cons]
    by_cases e : j = ω.length
    · rw [if_pos e, if_pos e]
      unfold hzx
      omega
    · rw [if_neg e, if_neg e]; omega)
  rw [show hzx h 0 = h from hzx_0] at q
  have e : flv C ≤ flv (tAll B C) := by
    have e1 : flv (tAll B C) = flv C * max 1 (flv B) := by simp [tAll, flv]
    rw [e1]
    exact Nat.le_mul_of_pos_right _ (by omega)
  have q2 := Nat.mul_le_mul_right z e
  rw [nz_all]
  omega
end PmUo
