/-! SCHEMES UNDER THE BOUND []: RESTZ9. -/
def uS9 : List ((Nat × Nat × Nat × Nat × Nat) × List T6 × List T6) := [((2, 28, 0, 0, 7), [(45, 0, 33, 4, 0, 28)], [(24, 0, 22, 4, 0, 28)]), ((2, 24, 0, 9, 3), [(59, 0, 21, 3, 2, 24)], [(29, 0, 12, 3, 2, 24)]), ((2, 24, 0, 9, 4), [(59, 0, 21, 3, 2, 24)], [(29, 0, 12, 3, 2, 24)]), ((2, 24, 0, 9, 5), [(59, 0, 21, 3, 2, 24)], [(29, 0, 12, 3, 2, 24)]), ((2, 24, 0, 13, 3), [(89, 0, 21, 3, 3, 24)], [(44, 0, 12, 3, 3, 24)]), ((2, 28, 0, 9, 3), [(93, 0, 33, 4, 2, 28)], [(49, 0, 22, 4, 2, 28)]), ((2, 32, 0, 5, 3), [(66, 0, 46, 8, 1, 32)], [(37, 0, 34, 8, 1, 32)])]
def okU9s (e : Bool) (a : (Nat × Nat × Nat × Nat × Nat) × List T6 × List T6) : Bool :=
  liz [a.2.1] uv1 fr1 fg1 1 3 (kpz fr1 0 (max 1 (fx1.getD a.1.2.2.1 0)) 0) (wbz fr1 1 (max 1 (fx1.getD a.1.2.2.1 0)) a.1.1) (max 1 (fx1.getD a.1.2.2.1 0)) (ojy a.1.2.1 0 a.1.2.2.1 a.1.2.2.2.1) a.1.2.1 a.1.2.2.2.1 0 &&
  (liz [a.2.2] uvq frq fgq 0 1 (kpz frq 1 (max 1 (fxq.getD a.1.2.2.1 0)) 0) (wbz frq 0 (max 1 (fxq.getD a.1.2.2.1 0)) a.1.1) (max 1 (fxq.getD a.1.2.2.1 0)) (ojy a.1.2.1 0 a.1.2.2.1 a.1.2.2.2.1) a.1.2.1 a.1.2.2.2.1 0 &&
  (lno e [a.2.1] fr1 fg1 1 2 3 2 2 2 2 887 (58 - 2 * a.1.2.2.2.2 - (8 + a.1.1 + a.1.2.1 + a.1.2.2.1 + a.1.2.2.2.1)) a.1.2.2.2.2 && lno e [a.2.2] frq fgq 0 1 1 1 3 2 1 597 (58 - 2 * a.1.2.2.2.2 - (8 + a.1.1 + a.1.2.1 + a.1.2.2.1 + a.1.2.2.2.1)) a.1.2.2.2.2))
theorem uS9_ok : uS9.all (okU9s false) = true := by decide +kernel
theorem hasU_get {L : List ((Nat × Nat × Nat × Nat × Nat) × List T6 × List T6)} {be k q1 q2 m : Nat} {e : Bool} (ok : L.all (okU9s e) = true) (h : has9 L be k q1 q2 m = true) : ∃ l1 l2, okU9s e ((be, k, q1, q2, m), l1, l2) = true := by
  obtain ⟨a, ha, q⟩ := List.any_eq_true.mp h
  have z := List.all_eq_true.mp ok a ha
  rw [Bool.and_eq_true, Bool.and_eq_true, Bool.and_eq_true, Bool.and_eq_true] at q
  obtain ⟨q1, q2, q3, q4, q5⟩ := q
  have e1 := Nat.eq_of_beq_eq_true q1
  have e2 := Nat.eq_of_beq_eq_true q2
  have e3 := Nat.eq_of_beq_eq_true q3
  have e4 := Nat.eq_of_beq_eq_true q4
  have e5 := Nat.eq_of_beq_eq_true q5
  subst e1; subst e2; subst e3; subst e4; subst e5
  exact ⟨a.2.1, a.2.2, z⟩
theorem u9_pair {f : Nat} {x y t : Ty} {Γ : List Ty} {Δ : List (Nat × Ty × Nat)} {Δ1 : List Ty} {C : Ty} (H : H9 f x y Γ Δ) (sh : Sh9 x y t) (ch : CHo f t []) (eΓ : Γ = cxs Δ1 [] (tAll tR0 C)) (lb : LBd [] Δ1 (tAll tR0 C) tTop tR0 C) (h2 : hd C = 2) (nov : ¬ OVq 1 tR0 C Dsm []) (nD : Δ ≠ []) (h : has9 uS9 2 (tch C) 0 (cch Δ1) (mch (pee f t).2) = true) (d9 : dch Δ ≤ 9) (q38 : cch Δ1 ≤ 38) : PRn f x y Γ Δ := by
  obtain ⟨⟨wt, nt, tt, m3', m3, n9⟩, pm, hbt⟩ := h9_t H sh
  have H' := H
  obtain ⟨-, -, ⟨he, hv, hd', h20, h47, -⟩, -⟩ := H'
  obtain ⟨⟨w', -⟩, -, tn, -, -⟩ := pee_ok f _ _ t wt
  obtain ⟨a, ea⟩ := dch_one he nD d9
  have one : Δ.length ≤ 1 := by rw [ea]; exact Nat.le_refl _
  have k40 := lb.2.2.2.1
  have hc := he.1
  rw [eΓ] at hc
  obtain ⟨-, oA⟩ := okc_low Δ1 hc
  have oC : ok 1 C = true := (ok_all.mp oA).2
  have na : noal C = true := by
    have q := hv 0 (by rw [eΓ, cxs_len]; simp)
    have e0 : bnd Γ 0 = tAll tR0 C := by rw [eΓ]; exact bnd_0 Δ1
    rw [e0, noal_all, Bool.and_eq_true, Bool.and_eq_true] at q
    exact q.1.2.2
  have fl : (∃ v ∈ frg uv1 (tch C), XFm 0 (fun _ => 1 + 1) 3 1 1 C v.1 v.2) ∧ ∃ v ∈ frg uvq (tch C), XFm 1 ngc 1 0 1 C v.1 v.2 := by
    obtain ⟨b, e, rfl, ob, oe⟩ := hd_is_all oC h2
    have na' := na
    rw [noal_all, Bool.and_eq_true, Bool.and_eq_true, decide_eq_true_iff] at na'
    have q := (two_r0 oC na nov).2
    exact ⟨uv_f1 oC na'.1 k40 q, uv_fq oC na'.1 k40 q⟩
  refine h9_ntv H sh (NtV_pee f t wt he ?_)
  obtain ⟨l1, l2, hz⟩ := hasU_get uS9_ok h
  have ec : cch Γ = 10 + tch C + cch Δ1 := by
    have q := cch_cx (Γ0 := []) (β := tAll tR0 C) Δ1
    have q2 := tch_all tR0 C
    have q3 : cch ([] : List Ty) = 0 := rfl
    have q4 : tch tR0 = 2 := rfl
    rw [eΓ]
    omega
  subst eΓ
  have ez : tch (tAll tR0 C) - tch (tAll tR0 C) = 0 := Nat.sub_self _
  unfold okU9s at hz
  rw [Bool.and_eq_true, Bool.and_eq_true, Bool.and_eq_true] at hz
  obtain ⟨zR, zG, tR, tG⟩ := hz
  have eq : 8 + 2 + tch C + 0 + cch Δ1 = cch (cxs Δ1 [] (tAll tR0 C)) := by omega
  simp only [eq] at tR tG
  exact zone_jo (e := false) (cd := 58 - 2 * mch (pee f t).2 - cch (cxs Δ1 [] (tAll tR0 C))) fl.1 fl.2 lb w' he (Or.inr ⟨rfl, nD⟩) (tn tt) one (pee_cho f t [] ch) (by rw [ez]; exact zR) (by rw [ez]; exact zG) tR tG (by omega) (by omega) h47 q38 (by omega)
def W9y9 (m : Nat) (e : Bool) (Γ : List Ty) : Prop := e = false ∧ (ExA Γ ∨ (∃ C : Ty, Γ = [tAll tR0 C] ∧ LBd [] [] (tAll tR0 C) tTop tR0 C ∧ sN tR0 0 1 C = true ∧ m = 7 ∧ tch C = 29 ∧ hd C = 2 ∧ ¬ OVq 1 tR0 C Dsm []) ∨ (∃ (Δ1 Γ0 : List Ty) (b b' B C : Ty), Γ = cxs Δ1 Γ0 b ∧ LBd Γ0 Δ1 b b' B C ∧ ¬ IS2 (fun _ => False) b ∧ hd b ≠ 2 ∧ 1 ≤ cch Γ0 + cch Δ1 ∧ exK m (tch B) (tch C) (tch b - tch (tAll B C)) (cch Γ0) (cch Δ1) = true))
def V9c (f : Nat) (x y t : Ty) (m : Nat) (e : Bool) (Γ : List Ty) : Prop := ∃ (Δ1 Γ0 : List Ty) (B C : Ty), Γ = cxs Δ1 Γ0 (tAll B C) ∧ LBd Γ0 Δ1 (tAll B C) tTop B C ∧ 1 ≤ cch Γ0 + cch Δ1 ∧ exl e m (tch B) (tch C) (cch Γ0) (cch Δ1) = true ∧ e = false ∧ (6 ≤ m ∨ 1 ≤ cch Δ1) ∧ 2 ≤ tch B ∧ (OVq 1 B C Dsm Γ0 ∧ ndk (cch Γ0) (cch Δ1) = false ∧ ((¬ CFt f t ∧ exG (tch B) (tch C) (cch Γ0) (cch Δ1) m = true ∧ ∃ o, (o = x ∨ o = y) ∧ mch t + mch o = mch x + mch y ∧ (CFt f o → rx9 (tch B) (tch C) (cch Γ0) (cch Δ1) (mch o) (mch t) = false)) ∨ (CFt f t ∧ ¬ (CFt f x ∧ CFt f y) ∧ exH (tch B) (tch C) (cch Γ0) (cch Δ1) (mch t) (mch x + mch y - mch t) = true) ∨ ((CFt f x ∧ CFt f y) ∧ exI (tch B) (tch C) (cch Γ0) (cch Δ1) (mch t) (mch x + mch y - mch t) = true)))
def RESTZ9 : Prop := ∀ (f : Nat) (x y : Ty) (Γ : List Ty) (Δ : List (Nat × Ty × Nat)) (t : Ty), H9 f x y Γ Δ → Sh9 x y t → (¬ CHo f t [] ∨ (CHo f t [] ∧ (W9y9 (mch (pee f t).2) Δ.isEmpty Γ ∨ V9c f x y t (mch (pee f t).2) Δ.isEmpty Γ))) → PRn f x y Γ Δ
theorem restY9_of (R : RESTZ9) : RESTY9 := by
  intro f x y Γ Δ t H sh h
  rcases h with h | ⟨ch, h | h⟩
  · exact R f x y Γ Δ t H sh (Or.inl h)
  · have H' := H
    obtain ⟨hx9, hy9, ⟨he, hv, hd', h20, h47, -⟩, hb, ng, -⟩ := H'
    obtain ⟨⟨wt, nt, tt, m3', m3, n9⟩, pm, hbt⟩ := h9_t H sh
    obtain ⟨eI, h⟩ := h
    have nD : Δ ≠ [] := fun q => by rw [q] at eI; cases eI
    rcases h with h | ⟨C, eΓ, lb, fl, m7, hk, h2, nov⟩ | h
    · exact R f x y Γ Δ t H sh (Or.inr ⟨ch, Or.inl ⟨eI, Or.inl h⟩⟩)
    · have eΓ' : Γ = cxs [] [] (tAll tR0 C) := eΓ
      rcases hk with hk | hk
      rotate_left
      · exact R f x y Γ Δ t H sh (Or.inr ⟨ch, Or.inl ⟨eI, Or.inr (Or.inl ⟨C, eΓ, lb, fl, m7, hk, h2, nov⟩)⟩⟩)
      have ec : cch Γ = 10 + tch C := by
        rw [eΓ]
        show (tch (tAll tR0 C) + 4) + 0 = _
        rw [tch_all]
        have : tch tR0 = 2 := rfl
        omega
      refine u9_pair H sh ch eΓ' lb h2 nov nD ?_ (by omega) (Nat.zero_le _)
      rw [m7, hk]
      decide +kernel
    · exact R f x y Γ Δ t H sh (Or.inr ⟨ch, Or.inl ⟨eI, Or.inr (Or.inr h)⟩⟩)
  obtain ⟨Δ1, Γ0, B, C, e, lb, nz, hx, eI, h3, b2, h4⟩ := h
  have keep := fun q => R f x y Γ Δ t H sh (Or.inr ⟨ch, Or.inr ⟨Δ1, Γ0, B, C, e, lb, nz, hx, eI, h3, b2, q⟩⟩)
  rcases h4 with ⟨fl, ⟨m5, hl⟩, h2, ov⟩ | h4
  rotate_left
  · exact keep h4
  have H' := H
  obtain ⟨hx9, hy9, ⟨he, hv, hd', h20, h47, -⟩, hb, ng, nPS, -⟩ := H'
  obtain ⟨⟨wt, nt, tt, m3', m3, n9⟩, pm, hbt⟩ := h9_t H sh
  have nD : Δ ≠ [] := fun q => by rw [q] at eI; cases eI
  have d5 := dch_five he nD
  have q21 : 1 ≤ cch Δ1 := h3.resolve_left (by omega)
  have ec : cch Γ = 8 + tch B + tch C + cch Γ0 + cch Δ1 := by
    have q := cch_cx (Γ0 := Γ0) (β := tAll B C) Δ1
    have q2 := tch_all B C
    rw [e]
    omega
  have hl' := hl
  rw [eI] at hl' hx
  obtain ⟨e2, z0, hk⟩ := lx9_c m5 q21 hl'
  have k40 := lb.2.2.2.1
  have hc := he.1
  rw [e] at hc
  obtain ⟨oc0, ob⟩ := okc_low Δ1 hc
  have eB := two_rec (ok_all.mp ob).1 e2
  have pos : ∀ a ∈ Γ0, 1 ≤ tch a := fun a ha => by
    obtain ⟨d, o1, -⟩ := okc_mch oc0 ha
    exact tch_pos o1
  have g0 := (q05_of pos).2 z0
  subst g0
  subst eB
  have z2 : tch tR0 = 2 := rfl
  have z00 : cch ([] : List Ty) = 0 := rfl
  refine u9_pair H sh ch e lb h2 ov nD ?_ (by omega) (by omega)
  rcases hk with ⟨k1, k2⟩ | ⟨k1, k2⟩ | ⟨k1, k2⟩ | ⟨k1, k2⟩
  · have m345 : mch (pee f t).2 = 3 ∨ mch (pee f t).2 = 4 ∨ mch (pee f t).2 = 5 := by omega
    rw [k1, k2]
    rcases m345 with q | q | q <;> rw [q] <;> decide +kernel
  · have q : mch (pee f t).2 = 3 := by omega
    rw [k1, k2, q]; decide +kernel
  · have q : mch (pee f t).2 = 3 := by omega
    rw [k1, k2, q]; decide +kernel
  · have q : mch (pee f t).2 = 3 := by omega
    rw [k1, k2, q]; decide +kernel
theorem pairn_pz (R : RESTZ9) : PAIRn := pairn_py (restY9_of R)
