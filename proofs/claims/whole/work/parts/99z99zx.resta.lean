/-! SCHEMES UNDER THE BOUND []: (2;29); RESTAA9. -/
def uV9 : List ((Nat × Nat × Nat × Nat × Nat) × List T6 × List T6) := [((2, 29, 0, 0, 7), [(45, 0, 33, 6, 0, 29)], [(21, 0, 19, 6, 0, 29)])]
def okV9s (e : Bool) (a : (Nat × Nat × Nat × Nat × Nat) × List T6 × List T6) : Bool :=
  liz [a.2.1] vv19 fr1 fg1 1 3 (kpz fr1 0 (max 1 (fx1.getD a.1.2.2.1 0)) 0) (wbz fr1 1 (max 1 (fx1.getD a.1.2.2.1 0)) a.1.1) (max 1 (fx1.getD a.1.2.2.1 0)) (ojy a.1.2.1 0 a.1.2.2.1 a.1.2.2.2.1) a.1.2.1 a.1.2.2.2.1 0 &&
  (liz [a.2.2] vvq9 frq fgq 0 1 (kpz frq 1 (max 1 (fxq.getD a.1.2.2.1 0)) 0) (wbz frq 0 (max 1 (fxq.getD a.1.2.2.1 0)) a.1.1) (max 1 (fxq.getD a.1.2.2.1 0)) (ojy a.1.2.1 0 a.1.2.2.1 a.1.2.2.2.1) a.1.2.1 a.1.2.2.2.1 0 &&
  (lno e [a.2.1] fr1 fg1 1 2 3 2 2 2 2 887 (58 - 2 * a.1.2.2.2.2 - (8 + a.1.1 + a.1.2.1 + a.1.2.2.1 + a.1.2.2.2.1)) a.1.2.2.2.2 && lno e [a.2.2] frq fgq 0 1 1 1 3 2 1 597 (58 - 2 * a.1.2.2.2.2 - (8 + a.1.1 + a.1.2.1 + a.1.2.2.1 + a.1.2.2.2.1)) a.1.2.2.2.2))
theorem uV9_ok : uV9.all (okV9s false) = true := by decide +kernel
theorem hasV_get {L : List ((Nat × Nat × Nat × Nat × Nat) × List T6 × List T6)} {be k q1 q2 m : Nat} {e : Bool} (ok : L.all (okV9s e) = true) (h : has9 L be k q1 q2 m = true) : ∃ l1 l2, okV9s e ((be, k, q1, q2, m), l1, l2) = true := by
  obtain ⟨a, ha, q⟩ := List.any_eq_true.mp h
  have z := List.all_eq_true.mp ok a ha
  rw [Bool.and_eq_true, Bool.and_eq_true, Bool.and_eq_true, Bool.and_eq_true] at q
  obtain ⟨q1, q2, q3, q4, q5⟩ := q
  have e1 := Nat.eq_of_beq_eq_true q1
  have e2 := Nat.eq_of_beq_eq_true q2
  have e3 := Nat.eq_of_beq_eq_true q3
  have e4 := Nat.eq_of_beq_eq_true q4
  have e5 := Nat.eq_of_beq_eq_true q5
  subst e1; subst e2; subst e3; subst e4; subst e5
  exact ⟨a.2.1, a.2.2, z⟩
theorem v9_pair {f : Nat} {x y t : Ty} {Γ : List Ty} {Δ : List (Nat × Ty × Nat)} {Δ1 : List Ty} {C : Ty} (H : H9 f x y Γ Δ) (sh : Sh9 x y t) (ch : CHo f t []) (eΓ : Γ = cxs Δ1 [] (tAll tR0 C)) (lb : LBd [] Δ1 (tAll tR0 C) tTop tR0 C) (h2 : hd C = 2) (nov : ¬ OVq 1 tR0 C Dsm []) (nD : Δ ≠ []) (h : has9 uV9 2 (tch C) 0 (cch Δ1) (mch (pee f t).2) = true) (d9 : dch Δ ≤ 9) (q38 : cch Δ1 ≤ 38) : PRn f x y Γ Δ := by
  obtain ⟨⟨wt, nt, tt, m3', m3, n9⟩, pm, hbt⟩ := h9_t H sh
  have H' := H
  obtain ⟨-, -, ⟨he, hv, hd', h20, h47, -⟩, -⟩ := H'
  obtain ⟨⟨w', -⟩, -, tn, -, -⟩ := pee_ok f _ _ t wt
  obtain ⟨a, ea⟩ := dch_one he nD d9
  have one : Δ.length ≤ 1 := by rw [ea]; exact Nat.le_refl _
  have k40 := lb.2.2.2.1
  have hc := he.1
  rw [eΓ] at hc
  obtain ⟨-, oA⟩ := okc_low Δ1 hc
  have oC : ok 1 C = true := (ok_all.mp oA).2
  have na : noal C = true := by
    have q := hv 0 (by rw [eΓ, cxs_len]; simp)
    have e0 : bnd Γ 0 = tAll tR0 C := by rw [eΓ]; exact bnd_0 Δ1
    rw [e0, noal_all, Bool.and_eq_true, Bool.and_eq_true] at q
    exact q.1.2.2
  have fl : (∃ v ∈ frg vv19 (tch C), XFm 0 (fun _ => 1 + 1) 3 1 1 C v.1 v.2) ∧ ∃ v ∈ frg vvq9 (tch C), XFm 1 ngc 1 0 1 C v.1 v.2 := by
    obtain ⟨b, e, rfl, ob, oe⟩ := hd_is_all oC h2
    have na' := na
    rw [noal_all, Bool.and_eq_true, Bool.and_eq_true, decide_eq_true_iff] at na'
    have q := (two_r0 oC na nov).2
    exact ⟨vv_f1 oC na'.1 k40 q, vv_fq oC na'.1 k40 q⟩
  refine h9_ntv H sh (NtV_pee f t wt he ?_)
  obtain ⟨l1, l2, hz⟩ := hasV_get uV9_ok h
  have ec : cch Γ = 10 + tch C + cch Δ1 := by
    have q := cch_cx (Γ0 := []) (β := tAll tR0 C) Δ1
    have q2 := tch_all tR0 C
    have q3 : cch ([] : List Ty) = 0 := rfl
    have q4 : tch tR0 = 2 := rfl
    rw [eΓ]
    omega
  subst eΓ
  have ez : tch (tAll tR0 C) - tch (tAll tR0 C) = 0 := Nat.sub_self _
  unfold okV9s at hz
  rw [Bool.and_eq_true, Bool.and_eq_true, Bool.and_eq_true] at hz
  obtain ⟨zR, zG, tR, tG⟩ := hz
  have eq : 8 + 2 + tch C + 0 + cch Δ1 = cch (cxs Δ1 [] (tAll tR0 C)) := by omega
  simp only [eq] at tR tG
  exact zone_jo (e := false) (cd := 58 - 2 * mch (pee f t).2 - cch (cxs Δ1 [] (tAll tR0 C))) fl.1 fl.2 lb w' he (Or.inr ⟨rfl, nD⟩) (tn tt) one (pee_cho f t [] ch) (by rw [ez]; exact zR) (by rw [ez]; exact zG) tR tG (by omega) (by omega) h47 q38 (by omega)
def W9z9 (m : Nat) (e : Bool) (Γ : List Ty) : Prop := e = false ∧ (ExA Γ ∨ (∃ (Δ1 Γ0 : List Ty) (b b' B C : Ty), Γ = cxs Δ1 Γ0 b ∧ LBd Γ0 Δ1 b b' B C ∧ ¬ IS2 (fun _ => False) b ∧ hd b ≠ 2 ∧ 1 ≤ cch Γ0 + cch Δ1 ∧ exK m (tch B) (tch C) (tch b - tch (tAll B C)) (cch Γ0) (cch Δ1) = true))
def RESTAA9 : Prop := ∀ (f : Nat) (x y : Ty) (Γ : List Ty) (Δ : List (Nat × Ty × Nat)) (t : Ty), H9 f x y Γ Δ → Sh9 x y t → (¬ CHo f t [] ∨ (CHo f t [] ∧ (W9z9 (mch (pee f t).2) Δ.isEmpty Γ ∨ V9c f x y t (mch (pee f t).2) Δ.isEmpty Γ))) → PRn f x y Γ Δ
theorem restZ9_of (R : RESTAA9) : RESTZ9 := by
  intro f x y Γ Δ t H sh h
  rcases h with h | ⟨ch, h | h⟩
  · exact R f x y Γ Δ t H sh (Or.inl h)
  · have H' := H
    obtain ⟨hx9, hy9, ⟨he, hv, hd', h20, h47, -⟩, hb, ng, -⟩ := H'
    obtain ⟨⟨wt, nt, tt, m3', m3, n9⟩, pm, hbt⟩ := h9_t H sh
    obtain ⟨eI, h⟩ := h
    have nD : Δ ≠ [] := fun q => by rw [q] at eI; cases eI
    rcases h with h | ⟨C, eΓ, lb, fl, m7, hk, h2, nov⟩ | h
    · exact R f x y Γ Δ t H sh (Or.inr ⟨ch, Or.inl ⟨eI, Or.inl h⟩⟩)
    · have eΓ' : Γ = cxs [] [] (tAll tR0 C) := eΓ
      have ec : cch Γ = 10 + tch C := by
        rw [eΓ]
        show (tch (tAll tR0 C) + 4) + 0 = _
        rw [tch_all]
        have : tch tR0 = 2 := rfl
        omega
      refine v9_pair H sh ch eΓ' lb h2 nov nD ?_ (by omega) (Nat.zero_le _)
      rw [m7, hk]
      decide +kernel
    · exact R f x y Γ Δ t H sh (Or.inr ⟨ch, Or.inl ⟨eI, Or.inr h⟩⟩)
  · exact R f x y Γ Δ t H sh (Or.inr ⟨ch, Or.inr h⟩)
theorem pairn_qa (R : RESTAA9) : PAIRn := pairn_pz (restZ9_of R)
