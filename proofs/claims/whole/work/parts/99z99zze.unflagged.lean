/-! exG, exH FOR THE BOUND [], the body not holding it: RESTAF9. -/
section PmZe1
variable {f D p : Nat} {sc : List Nat} {t : Ty}
theorem cok_four (w : TWf f D sc t) (m4 : mch t ≤ 4) : COk f t 0 := by
  cases f with
  | zero => exact w.elim
  | succ f =>
    by_cases cf : CFt (f + 1) t
    · exact CF_CO _ _ _ cf
    have sub : ∀ (D : Nat) (sc : List Nat) (u : Ty), TWf f D sc u → mch u ≤ 3 → CFt f u := fun D sc u wu mu => Classical.byContradiction (fun n => by
      have := ncf_four _ _ _ _ wu n
      omega)
    obtain ⟨w0, w5, w6, w7, w8, w9, w10, w11, w12⟩ := w
    have em := mch_is w0.2.1
    refine ⟨fun c => ?_, fun c => ?_, fun c g hg hb => ?_, fun c => ?_⟩
    · exfalso
      rw [if_neg (by omega), if_pos c] at em
      rcases c with c | c
      · have := mch_pos' (w6 c).2.2.2
        have := tch_pos (w6 c).2.1
        omega
      · have := mch_pos' (w8 c).2.2
        have := tch_pos (w8 c).1
        omega
    · rcases c with c | c | c
      · rw [if_neg (by omega), if_neg (by omega), if_neg (by omega), if_neg (by omega)] at em
        exact CF_CO _ _ _ (sub _ _ _ (w7 (Or.inl c)).1 (by omega))
      · rw [if_neg (by omega), if_neg (by omega), if_pos c] at em
        exact CF_CO _ _ _ (sub _ _ _ (w9 c).1 (by omega))
      · rw [if_neg (by omega), if_neg (by omega), if_neg (by omega), if_neg (by omega)] at em
        exact CF_CO _ _ _ (sub _ _ _ (w11 c).2 (by omega))
    · rw [if_neg (by omega), if_neg (by omega), if_neg (by omega), if_pos c] at em
      have hm : ¬ nMk t = 0 := by
        intro e
        rw [e] at hb
        rcases (show g = 0 ∨ g = 1 ∨ g = 2 by omega) with rfl | rfl | rfl <;> exact absurd hb (by decide)
      rw [if_neg hm] at em
      have h3 : ∀ m, m < 8 → m ≠ 0 → 1 ≤ nlb m := by decide
      have := h3 _ (w10 c).1 hm
      refine CF_CO _ _ _ (sub _ _ _ ((w10 c).2 g hg hb) ?_)
      rcases (show g = 0 ∨ g = 1 ∨ g = 2 by omega) with rfl | rfl | rfl
      · show mch (nX t) ≤ 3
        omega
      · show mch (nY t) ≤ 3
        omega
      · show mch (nZ t) ≤ 3
        omega
    · rw [if_neg (by omega), if_neg (by omega), if_neg (by omega), if_neg (by omega)] at em
      obtain ⟨x1, x2⟩ := w7 (Or.inr c)
      have := mch_pos' x1
      have := mch_pos' x2
      exact ⟨rfl, CF_CO _ _ _ (sub _ _ _ x1 (by omega)), CF_CO _ _ _ (sub _ _ _ x2 (by omega))⟩
/-- no operation outside: choices under no operation -/
theorem cok_nine (w : TWf f D [p] t) (tn : TNo f t) (m9 : mch t ≤ 9) (k7 : nKd t ≠ 7) (k9 : nKd t ≠ 9) (k11 : nKd t ≠ 11) : COk f t 0 := by
  cases f with
  | zero => exact w.elim
  | succ f =>
    obtain ⟨w0, w5, w6, w7, w8, w9, w10, w11, w12⟩ := w
    obtain ⟨n6, n7, n9, n10, n12⟩ := tn
    have em := mch_is w0.2.1
    refine ⟨fun c => ?_, fun c => by omega, fun c g hg hb => ?_, fun c => ?_⟩
    · rw [if_neg (by omega), if_pos c] at em
      rcases c with c | c
      · have := tch_pos (w6 c).2.1
        exact cok_four (w6 c).2.2.2 (by omega)
      · have := tch_pos (w8 c).1
        exact cok_four (w8 c).2.2 (by omega)
    · rw [if_neg (by omega), if_neg (by omega), if_neg (by omega), if_pos c] at em
      have hm : ¬ nMk t = 0 := by
        intro e
        rw [e] at hb
        rcases (show g = 0 ∨ g = 1 ∨ g = 2 by omega) with rfl | rfl | rfl <;> exact absurd hb (by decide)
      rw [if_neg hm] at em
      have h3 : ∀ m, m < 8 → m ≠ 0 → 1 ≤ nlb m := by decide
      have := h3 _ (w10 c).1 hm
      have l : mch (nP t g) ≤ 5 := by
        rcases (show g = 0 ∨ g = 1 ∨ g = 2 by omega) with rfl | rfl | rfl
        · show mch (nX t) ≤ 5
          omega
        · show mch (nY t) ≤ 5
          omega
        · show mch (nZ t) ≤ 5
          omega
      exact ((chr_one _ _ _ _ ((w10 c).2 g hg hb) (n10 c g hg hb)).2).resolve_right (by omega)
    · rw [if_neg (by omega), if_neg (by omega), if_neg (by omega), if_neg (by omega)] at em
      obtain ⟨x1, x2⟩ := w7 (Or.inr c)
      have := mch_pos' x1
      have := mch_pos' x2
      exact ⟨rfl, ((chr_one _ _ _ _ x1 (n7 (Or.inr c)).1).2).resolve_right (by omega), ((chr_one _ _ _ _ x2 (n7 (Or.inr c)).2).2).resolve_right (by omega)⟩
theorem pee_ncf : ∀ (f : Nat) (t : Ty), ¬ CFt f t → ¬ CFt (pee f t).1 (pee f t).2
  | 0, _, h => fun _ => h trivial
  | f + 1, t, h => by
    unfold pee
    by_cases k : nKd t = 7 ∨ nKd t = 11
    · rw [if_pos k]
      exact pee_ncf f (nX t) (fun q => h ⟨fun c => by omega, fun _ => q, fun c => by omega, by omega⟩)
    · rw [if_neg k]
      exact h
theorem cho_seven (w : TWf f D [p] t) (tn : TNo f t) (m7 : mch t ≤ 7) (k7 : nKd t ≠ 7) (k11 : nKd t ≠ 11) : CHo f t [] := by
  cases f with
  | zero => exact w.elim
  | succ f =>
    by_cases cf : CFt (f + 1) t
    · exact CHo_of_COk _ _ _ (CF_CO _ _ _ cf)
    have free : ∀ (g : Nat) (u : Ty) (σ : List Bool), TWf g D [p] u → TNo g u → mch u ≤ 4 → CHo g u σ := fun g u σ wu nu mu => CHo_of_COk _ _ _ (CF_CO _ _ _ (((chr_one _ _ _ _ wu nu).1).resolve_right (by omega)))
    rcases sh_ncf w tn cf m7 with ⟨k, ⟨x1, y1⟩, ⟨x2, y2⟩, em, -⟩ | ⟨k, x1, y1, nc, m5⟩
    · have := mch_pos' x1
      have := mch_pos' x2
      exact ⟨fun c => by omega, fun c => by omega, fun c => by omega, fun c => by omega, fun _ => ⟨rfl, free _ _ _ x1 y1 (by omega), free _ _ _ x2 y2 (by omega)⟩⟩
    · have k9 : nKd t = 9 := by omega
      refine ⟨fun c => by omega, fun c => by omega, fun _ => ?_, fun c => by omega, fun c => by omega⟩
      cases f with
      | zero => exact x1.elim
      | succ f =>
        rcases sh_ncf x1 y1 nc (by omega) with ⟨k, ⟨x1', y1'⟩, ⟨x2', y2'⟩, em, -⟩ | ⟨k, x1', y1', nc', m5'⟩
        · have := mch_pos' x1'
          have := mch_pos' x2'
          exact ⟨fun c => by omega, fun c => by omega, fun c => by omega, fun c => by omega, fun _ => ⟨rfl, free _ _ _ x1' y1' (by omega), free _ _ _ x2' y2' (by omega)⟩⟩
        · exfalso
          have q := ((chr_one _ _ _ _ x1' y1').1).resolve_left nc'
          have em := mch_is x1.1.2.1
          rcases k with k | k
          · rw [if_neg (by omega), if_neg (by omega), if_pos k] at em
            have := tch_pos (x1.2.2.2.2.2.1 k).2.1
            omega
          · rw [if_neg (by omega), if_neg (by omega), if_neg (by omega), if_neg (by omega)] at em; omega
end PmZe1
def wP9 : List ((Nat × Nat × Nat × Nat × Nat) × List T6 × List T6) := [((2, 18, 0, 9, 5), [(79, 0, 23, 6, 0, 18)], [(39, 0, 17, 6, 0, 18)]),
  ((2, 18, 0, 9, 6), [(79, 0, 23, 6, 0, 18)], [(39, 0, 17, 6, 0, 18)]),
  ((2, 18, 0, 9, 7), [(79, 0, 23, 6, 0, 18)], [(39, 0, 17, 6, 0, 18)]),
  ((2, 18, 0, 10, 5), [(79, 0, 23, 6, 1, 18)], [(39, 0, 17, 6, 1, 18)]),
  ((2, 18, 0, 10, 6), [(79, 0, 23, 6, 1, 18)], [(39, 0, 17, 6, 1, 18)]),
  ((2, 18, 0, 10, 7), [(79, 0, 23, 6, 1, 18)], [(39, 0, 17, 6, 1, 18)]),
  ((2, 19, 0, 9, 5), [(85, 0, 29, 6, 0, 19)], [(49, 0, 22, 6, 0, 19)]),
  ((2, 19, 0, 9, 6), [(85, 0, 29, 6, 0, 19)], [(49, 0, 22, 6, 0, 19)]),
  ((2, 19, 0, 9, 7), [(85, 0, 29, 6, 0, 19)], [(49, 0, 22, 6, 0, 19)])]
def okP9x (a : (Nat × Nat × Nat × Nat × Nat) × List T6 × List T6) : Bool :=
  liz [a.2.1] xr1 fr1 fg1 1 3 (kpz fr1 0 (max 1 (fx1.getD a.1.2.2.1 0)) 0) (wbz fr1 1 (max 1 (fx1.getD a.1.2.2.1 0)) a.1.1) (max 1 (fx1.getD a.1.2.2.1 0)) (ojy a.1.2.1 0 a.1.2.2.1 a.1.2.2.2.1) a.1.2.1 a.1.2.2.2.1 0 &&
  (liz [a.2.2] xrq frq fgq 0 1 (kpz frq 1 (max 1 (fxq.getD a.1.2.2.1 0)) 0) (wbz frq 0 (max 1 (fxq.getD a.1.2.2.1 0)) a.1.1) (max 1 (fxq.getD a.1.2.2.1 0)) (ojy a.1.2.1 0 a.1.2.2.1 a.1.2.2.2.1) a.1.2.1 a.1.2.2.2.1 0 &&
  (lnu false [a.2.1] fr1 fg1 1 2 3 2 2 2 2 887 6 a.1.2.2.2.2 && lnu false [a.2.2] frq fgq 0 1 1 1 3 2 1 597 6 a.1.2.2.2.2))
theorem wP9_ok : wP9.all okP9x = true := by decide +kernel
theorem hasP9x {L : List ((Nat × Nat × Nat × Nat × Nat) × List T6 × List T6)} {be k q1 q2 m : Nat} (ok : L.all okP9x = true) (h : has9 L be k q1 q2 m = true) : ∃ l1 l2, okP9x ((be, k, q1, q2, m), l1, l2) = true := by
  obtain ⟨a, ha, q⟩ := List.any_eq_true.mp h
  have z := List.all_eq_true.mp ok a ha
  rw [Bool.and_eq_true, Bool.and_eq_true, Bool.and_eq_true, Bool.and_eq_true] at q
  obtain ⟨q1, q2, q3, q4, q5⟩ := q
  have e1 := Nat.eq_of_beq_eq_true q1
  have e2 := Nat.eq_of_beq_eq_true q2
  have e3 := Nat.eq_of_beq_eq_true q3
  have e4 := Nat.eq_of_beq_eq_true q4
  have e5 := Nat.eq_of_beq_eq_true q5
  subst e1; subst e2; subst e3; subst e4; subst e5
  exact ⟨a.2.1, a.2.2, z⟩
def vS9R : FrT := [[], [], [], [], [], [], [], [], [], [], [], [], [], [], [], [], [], [], [(4, 17), (2, 18)]]
def vS9G : FrT := [[], [], [], [], [], [], [], [], [], [], [], [], [], [], [], [], [], [], [(4, 8), (3, 9), (2, 11), (1, 14), (0, 14)]]
def sR9 : List T6 := [(69, 0, 21, 4, 0, 18)]
def sG9 : List T6 := [(35, 0, 15, 4, 0, 18)]
theorem vS9_ok : (frg xr1 13).all (fun v => dom v.1 (3 + v.2 + v.1 * (1 + 1)) (frg vS9R 18)) = true ∧ (frg xrq 13).all (fun v => dom v.1 (1 + v.2 + v.1 * (0 + 1)) (frg vS9G 18)) = true := by decide +kernel
def okS9x : Bool :=
  liz [sR9] vS9R fr1 fg1 1 3 (kpz fr1 0 1 0) (wbz fr1 1 1 2) 1 (ojy 18 0 0 9) 18 9 0 &&
  (liz [sG9] vS9G frq fgq 0 1 (kpz frq 1 1 0) (wbz frq 0 1 2) 1 (ojy 18 0 0 9) 18 9 0 &&
  (lno false [sR9] fr1 fg1 1 2 3 2 2 2 2 887 6 7 && lno false [sG9] frq fgq 0 1 1 1 3 2 1 597 6 7))
theorem okS9x_ok : okS9x = true := by decide +kernel
section PmZe2
variable {f : Nat} {t s C : Ty} {Δ1 : List Ty} {Δ : List (Nat × Ty × Nat)}
theorem nat_P9 (lb : LBd [] Δ1 (tAll tR0 C) tTop tR0 C) (w : TWf f (cxs Δ1 [] (tAll tR0 C)).length (Δ.map (fun a => a.1)) t) (he : TE (cxs Δ1 [] (tAll tR0 C)) Δ) (nD : Δ ≠ []) (one : Δ.length ≤ 1) (tn : TNo f t) (nc : ¬ CFt f t) (ch : CHo f t []) (hz : has9 wP9 2 (tch C) 0 (cch Δ1) (mch t) = true) (m11 : mch t ≤ 11) (h47 : cch (cxs Δ1 [] (tAll tR0 C)) ≤ 47) (q38 : cch Δ1 ≤ 38) (d6 : dch Δ ≤ 6) : NtV (cxs Δ1 [] (tAll tR0 C)) Δ f t 887 597 := by
  have k40 := lb.2.2.2.1
  have oC : ok 1 C = true := (ok_all.mp lb.1.2.1).2
  have fR : ∃ v ∈ frg xr1 (tch C), xt (([] : List Ty).length + 1) C ≤ v.1 ∧ xa 0 (fun _ => 1 + 1) 3 1 (([] : List Ty).length + 1) C ≤ v.2 := xr_form (n1 := fun _ => 1 + 1) (hv := 1) xr1_ok (tbs1 true).2.2.2.1 (tbs1 true).2.2.2.2.1 _ C (0 + 1) (Nat.le_refl _) oC k40
  have fG : ∃ v ∈ frg xrq (tch C), xt (([] : List Ty).length + 1) C ≤ v.1 ∧ xa 1 ngc 1 0 (([] : List Ty).length + 1) C ≤ v.2 := xr_form (n1 := ngc) (hv := 0) xrq_ok tbsq.2.2.2.1 tbsq.2.2.2.2.1 _ C (0 + 1) (Nat.le_refl _) oC k40
  obtain ⟨l1, l2, z⟩ := hasP9x wP9_ok hz
  unfold okP9x at z
  rw [Bool.and_eq_true, Bool.and_eq_true, Bool.and_eq_true] at z
  obtain ⟨zR, zG, tR, tG⟩ := z
  have ez : tch (tAll tR0 C) - tch (tAll tR0 C) = 0 := Nat.sub_self _
  exact zone_ju (e := false) (cd := 6) fR fG lb w he (Or.inr ⟨rfl, nD⟩) tn nc m11 one ch (by rw [ez]; exact zR) (by rw [ez]; exact zG) tR tG (by omega) (by omega) h47 q38 d6
theorem nat_S9x {e : Ty} (lb : LBd [] Δ1 (tAll tR0 C) tTop tR0 C) (eC : C = tAll (tVar 0) e) (t18 : tch C = 18) (e2 : cch Δ1 = 9) (w : TWf f (cxs Δ1 [] (tAll tR0 C)).length (Δ.map (fun a => a.1)) t) (he : TE (cxs Δ1 [] (tAll tR0 C)) Δ) (nD : Δ ≠ []) (one : Δ.length ≤ 1) (tn : TNo f t) (ch : CHo f t []) (m7 : mch t = 7) (h47 : cch (cxs Δ1 [] (tAll tR0 C)) ≤ 47) (d6 : dch Δ ≤ 6) : NtV (cxs Δ1 [] (tAll tR0 C)) Δ f t 887 597 := by
  have oC : ok 1 C = true := (ok_all.mp lb.1.2.1).2
  have oe : ok 2 e = true := by rw [eC] at oC; exact (ok_all.mp oC).2
  have te : tch e = 13 := by rw [eC, tch_all, tch_var] at t18; omega
  have fR : ∃ v ∈ frg vS9R (tch C), xt (([] : List Ty).length + 1) C ≤ v.1 ∧ xa 0 (fun _ => 1 + 1) 3 1 (([] : List Ty).length + 1) C ≤ v.2 := by
    obtain ⟨v, hv, g⟩ := xr_form (n1 := fun _ => 1 + 1) (hv := 1) xr1_ok (tbs1 true).2.2.2.1 (tbs1 true).2.2.2.2.1 _ e 2 (Nat.le_refl _) oe (by omega)
    rw [te] at hv
    obtain ⟨u, hu, g2⟩ := XFm_all (XFm_var (t0 := 0) (s2 := 3) (hv := 1) (d := 1) (n1 := fun _ => 1 + 1) 0) g
    obtain ⟨q, hq, d1, d2⟩ := dom_ex (List.all_eq_true.mp vS9_ok.1 v hv)
    rw [t18, eC]
    have k := Nat.mul_le_mul_right (1 + max 1 0) hu
    have k2 : (1 + max 1 0 : Nat) = 1 + 1 := rfl
    rw [k2] at k
    have g2' := g2.2
    rw [k2] at g2'
    exact ⟨q, hq, Nat.le_trans g2.1 (Nat.le_trans (by omega) d1), Nat.le_trans g2' (Nat.le_trans (by omega) d2)⟩
  have fG : ∃ v ∈ frg vS9G (tch C), xt (([] : List Ty).length + 1) C ≤ v.1 ∧ xa 1 ngc 1 0 (([] : List Ty).length + 1) C ≤ v.2 := by
    obtain ⟨v, hv, g⟩ := xr_form (n1 := ngc) (hv := 0) xrq_ok tbsq.2.2.2.1 tbsq.2.2.2.2.1 _ e 2 (Nat.le_refl _) oe (by omega)
    rw [te] at hv
    obtain ⟨u, hu, g2⟩ := XFm_all (XFm_var (t0 := 1) (s2 := 1) (hv := 0) (d := 1) (n1 := ngc) 0) g
    obtain ⟨q, hq, d1, d2⟩ := dom_ex (List.all_eq_true.mp vS9_ok.2 v hv)
    rw [t18, eC]
    have k := Nat.mul_le_mul_right (0 + max 1 0) hu
    have k2 : (0 + max 1 0 : Nat) = 0 + 1 := rfl
    rw [k2] at k
    have g2' := g2.2
    rw [k2] at g2'
    exact ⟨q, hq, Nat.le_trans g2.1 (Nat.le_trans (by omega) d1), Nat.le_trans g2' (Nat.le_trans (by omega) d2)⟩
  have z := okS9x_ok
  unfold okS9x at z
  rw [Bool.and_eq_true, Bool.and_eq_true, Bool.and_eq_true] at z
  obtain ⟨zR, zG, tR, tG⟩ := z
  have ez : tch (tAll tR0 C) - tch (tAll tR0 C) = 0 := Nat.sub_self _
  exact zone_jo (e := false) (cd := 6) fR fG lb w he (Or.inr ⟨rfl, nD⟩) tn one ch (by rw [ez, t18, e2]; exact zR) (by rw [ez, t18, e2]; exact zG) (by rw [m7]; exact tR) (by rw [m7]; exact tG) (by omega) (by omega) h47 (by omega) d6
theorem bnd_d1 {β : Ty} : ∀ (Δ1 : List Ty) (j : Nat), 1 ≤ j → j < (cxs Δ1 [] β).length → bnd (cxs Δ1 [] β) j ∈ Δ1
  | [], j, h1, h2 => by rw [cxs_len] at h2; have h2 : j < 0 + (0 + 1) := h2; omega
  | a :: Δ1, j, h1, h2 => by
    show (if j = (cxs Δ1 [] β).length then a else bnd (cxs Δ1 [] β) j) ∈ a :: Δ1
    by_cases e : j = (cxs Δ1 [] β).length
    · rw [if_pos e]; exact List.mem_cons_self ..
    · rw [if_neg e]
      refine List.mem_cons_of_mem _ (bnd_d1 Δ1 j h1 ?_)
      rw [cxs_len] at h2 e ⊢
      simp only [List.length_cons] at h2
      omega
/-- a type of at most two characters is worth little -/
theorem ntv_two {Γ : List Ty} (he : TE Γ Δ) (h47 : cch Γ ≤ 47) {S : Ty} (o : ok Γ.length S = true) (t2 : tch S ≤ 2) : (∀ d, nz 0 (fun _ => 1 + 1) (2 + 1) (vlr d 1) (onz 0 (fun _ => 1 + 1) (2 + 1) (vlr d 1) Γ) S ≤ 887) ∧ nz 1 ngc 1 (fun x => x) (onz 1 ngc 1 (fun x => x) Γ) S ≤ 597 := by
  have fm := rng_all fx_mono47 (i := cch Γ) (by omega)
  rw [Bool.and_eq_true] at fm
  have b1 : fx1.getD 47 0 ≤ 887 ∧ fxq.getD 47 0 ≤ 597 := by decide
  refine ⟨fun d => ?_, ?_⟩
  · have T := tbs1 d
    rcases two_txt o (by omega) with e | ⟨j, hj, e⟩ | e
    · rw [e, nz_top]; exact Nat.zero_le _
    · rw [e, nz_var]
      exact Nat.le_trans (onz_chars (n1 := fun _ => 1 + 1) T.1 T.2.1 T.2.2.1 T.2.2.2.1 T.2.2.2.2.1 Γ he.1 (by omega) j hj) (Nat.le_trans (Nat.le_of_ble_eq_true fm.1) b1.1)
    · rw [e]
      unfold tR0
      rw [nz_rec, nz_nil]
      decide
  · have T := tbsq
    rcases two_txt o (by omega) with e | ⟨j, hj, e⟩ | e
    · rw [e, nz_top]; decide
    · rw [e, nz_var]
      exact Nat.le_trans (onz_chars (n1 := ngc) T.1 T.2.1 T.2.2.1 T.2.2.2.1 T.2.2.2.2.1 Γ he.1 (by omega) j hj) (Nat.le_trans (Nat.le_of_ble_eq_true fm.2) b1.2)
    · rw [e]
      unfold tR0
      rw [nz_rec, nz_nil]
      decide
/-- what the term of a pair is -/
theorem cls_e (lb : LBd [] Δ1 (tAll tR0 C) tTop tR0 C) (fl : sN tR0 0 1 C = false) (c2 : 2 ≤ tch C) (hv : noac (cxs Δ1 [] (tAll tR0 C))) (he : TE (cxs Δ1 [] (tAll tR0 C)) Δ) (nD : Δ ≠ []) (d6 : dch Δ ≤ 6) (nh1 : ∀ a ∈ Δ1, noh 8 a = true) (hX : 7 ≤ mch s → ∀ a ∈ Δ1, ∀ p r, a = tAll p r → p = tTop ∧ tch r = 1) (hX' : 7 ≤ mch s → ∀ i j, 1 ≤ i → 1 ≤ j → i < (cxs Δ1 [] (tAll tR0 C)).length → j < (cxs Δ1 [] (tAll tR0 C)).length → hd (bnd (cxs Δ1 [] (tAll tR0 C)) i) = 2 → hd (bnd (cxs Δ1 [] (tAll tR0 C)) j) = 2 → i = j) (h47 : cch (cxs Δ1 [] (tAll tR0 C)) ≤ 47) (q38 : cch Δ1 ≤ 38) (w : TWf f (cxs Δ1 [] (tAll tR0 C)).length (Δ.map (fun a => a.1)) s) (tn : TNo f s) (m9 : mch s ≤ 9) (hz : 7 ≤ mch s → ∀ m, 5 ≤ m → m ≤ 7 → has9 wP9 2 (tch C) 0 (cch Δ1) m = true) : NtV (cxs Δ1 [] (tAll tR0 C)) Δ f s 887 597 ∨ SMg tR0 C [] Δ1 Δ f s ∨ (mch s = 9 ∧ ∃ e, C = tAll (tVar 0) e) := by
  by_cases cf : CFt f s
  · exact Or.inr (Or.inl (Or.inl cf))
  obtain ⟨a0, ea⟩ := dch_one he nD (by omega)
  subst ea
  have lb' := lb
  have oA : ok 0 (tAll tR0 C) = true := lb.1.2.1
  have oC : ok 1 C = true := (ok_all.mp oA).2
  have a3 : tch a0.2.1 ≤ 2 := by
    have q : tch a0.2.1 + 4 ≤ dch [a0] := dch_mem (List.mem_singleton.mpr rfl)
    omega
  have wm : TWf f (cxs Δ1 [] (tAll tR0 C)).length [a0.1] s := w
  by_cases k7 : nKd s = 7 ∨ nKd s = 11
  · left
    obtain ⟨⟨w', -⟩, q2, tn', n7, n11⟩ := pee_ok f _ _ s w
    have nc' := pee_ncf f s cf
    have m2 : mch (pee f s).2 + 2 ≤ mch s := q2.resolve_left (fun q => by rw [q] at n7 n11; omega)
    have wp : TWf (pee f s).1 (cxs Δ1 [] (tAll tR0 C)).length [a0.1] (pee f s).2 := w'
    have m5 := ((chr_one _ _ _ _ wp (tn' tn)).1).resolve_left nc'
    refine NtV_pee f s w he ?_
    exact nat_P9 lb w' he nD (Nat.le_refl _) (tn' tn) nc' (cho_seven wp (tn' tn) (by omega) n7 n11) (hz (by omega) _ m5 (by omega)) (by omega) h47 q38 d6
  by_cases k9 : nKd s = 9
  · cases f with
    | zero => exact w.elim
    | succ f =>
      by_cases sp : mch s = 9 ∧ ∃ e, C = tAll (tVar 0) e
      · exact Or.inr (Or.inr sp)
      left
      intro S hS
      have oS := (tyF_ok _ _ _ _ _ w he hS).1
      have s7 : 7 ≤ mch s := by
        have x1 := (w.2.2.2.2.2.1 k9).1
        have em := mch_is w.1.2.1
        rw [if_neg (by omega), if_neg (by omega), if_pos k9] at em
        have := tch_pos (w.2.2.2.2.2.1 k9).2.1
        have x1' : TWf f (cxs Δ1 [] (tAll tR0 C)).length [a0.1] (nX s) := x1
        have := ((chr_one _ _ _ _ x1' (tn.2.2.1 (Or.inl k9))).1).resolve_left (fun q => cf ⟨fun k => by omega, fun _ => q, fun k => by omega, by omega⟩)
        omega
      have q := vac_g (Γ := cxs Δ1 [] (tAll tR0 C)) rfl he hv c2 fl a3 (fun j j1 hj a b e => hX s7 _ (bnd_d1 Δ1 j j1 hj) a b e) (hX' s7) wm tn k9 cf m9 hS
      exact ntv_two he h47 oS (q.resolve_left sp)
  · right; left
    have co := cok_nine wm tn m9 (by omega) k9 (by omega)
    have nC := noh8_sN _ C 1 (Nat.le_refl _) oC fl
    obtain ⟨a, b, c, l, h1, h2, -⟩ := chr_min8 _ _ _ _ w
    have b3 := h2.resolve_left cf
    refine Or.inr ⟨co, nC, h1.resolve_right (by omega), ⟨by decide, rfl, he.1, ?_, nh1, fun a ha => by cases ha⟩, fun a ha => ?_⟩
    · exact cxd_okc (Γ0 := []) (B := tR0) (show ok (0 + 1) tTop = true from ok_top _) Δ1 he.1
    · rw [List.mem_singleton] at ha
      rw [ha]
      exact noh8_small (he.2.2 a0 (List.mem_singleton.mpr rfl)).2.1 (by omega)
end PmZe2
