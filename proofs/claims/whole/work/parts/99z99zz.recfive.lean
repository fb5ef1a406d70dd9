/-! exK AT FIVE CHARACTERS: no bound of the context is a scheme itself, so an argument is met only behind a part that is taken (RESTAC9). -/
def lno8 (L : LnT) (F W : FrT) (hv fn s2 r0 r1 r2 r3 Bd cd m : Nat) : Bool := (lng L 0).all (fun s => Nat.ble (dp8 true F W 0 hv fn s2 r0 r1 r2 r3 s.2.2.1 s.2.2.2.1 s.1 s.2.2.2.2.1 s.2.2.2.2.2 s.1 cd m) Bd)
theorem lno8_get {L : LnT} {F W : FrT} {hv fn s2 r0 r1 r2 r3 Bd cd m : Nat} (h : lno8 L F W hv fn s2 r0 r1 r2 r3 Bd cd m = true) {s : T6} (hs : s ∈ lng L 0) : dp8 true F W 0 hv fn s2 r0 r1 r2 r3 s.2.2.1 s.2.2.2.1 s.1 s.2.2.2.2.1 s.2.2.2.2.2 s.1 cd m ≤ Bd := Nat.le_of_ble_eq_true (List.all_eq_true.mp h s hs)
section PmZz9
variable {f : Nat} {t b b' B C : Ty} {Γ0 Δ1 : List Ty} {Δ : List (Nat × Ty × Nat)} {LR LG : LnT}
theorem zone_hk (hr : ∀ a ∈ cxs Δ1 Γ0 b, hd a ≠ 2) (lb : LBd Γ0 Δ1 b b' B C) {κr : Nat} (hkr : ∀ d, nz 0 (fun _ => 1 + 1) (2 + 1) (vlr d 1) (onz 0 (fun _ => 1 + 1) (2 + 1) (vlr d 1) Γ0) b' ≤ κr) (w : TWf f (cxs Δ1 Γ0 b).length (Δ.map (fun a => a.1)) t) (he : TE (cxs Δ1 Γ0 b) Δ) (cΔ : Δ ≠ []) (ch : CHo f t []) (zR : liz LR xr1 fr1 fg1 1 3 κr (wbz fr1 1 (max 1 (fx1.getD (cch Γ0) 0)) (tch B)) (max 1 (fx1.getD (cch Γ0) 0)) (ojz (tch C) (tch b - tch (tAll B C)) (cch Γ0) (cch Δ1)) (tch C) (cch Δ1) 0 = true) (zG : liz LG xrq frq fgq 0 1 (kpz frq 1 (max 1 (fxq.getD (cch Γ0) 0)) (tch b - tch (tAll B C))) (wbz frq 0 (max 1 (fxq.getD (cch Γ0) 0)) (tch B)) (max 1 (fxq.getD (cch Γ0) 0)) (ojz (tch C) (tch b - tch (tAll B C)) (cch Γ0) (cch Δ1)) (tch C) (cch Δ1) 0 = true) (tR : lno8 LR fr1 fg1 1 2 3 2 2 2 2 887 (58 - 2 * mch t - cch (cxs Δ1 Γ0 b)) (mch t) = true) (tG : lno8 LG frq fgq 0 1 1 1 3 2 1 597 (58 - 2 * mch t - cch (cxs Δ1 Γ0 b)) (mch t) = true) (h47 : cch (cxs Δ1 Γ0 b) ≤ 47) (q38 : cch Δ1 ≤ 38) (hb : cch (cxs Δ1 Γ0 b) + dch Δ + 2 * mch t ≤ 58) : NtV (cxs Δ1 Γ0 b) Δ f t 887 597 := by
  obtain ⟨ds, eT, eB, k40, i0, i1⟩ := lb
  obtain ⟨oc0, oB⟩ := okc_low Δ1 he.1
  have ec := cch_cx (Γ0 := Γ0) (β := b) Δ1
  have oσ := ds.2.1
  have oBB := (ok_all.mp oσ).1
  have oC := (ok_all.mp oσ).2
  have pB := tch_pos oBB
  have pC := tch_pos oC
  have cσ := ds.ch
  have pb' := ds.2.2.1
  have eσ := tch_all B C
  have b0 : ∀ a ∈ Γ0, OBs (ojz (tch C) (tch b - tch (tAll B C)) (cch Γ0) (cch Δ1)) a := fun a ha => by
    obtain ⟨d, o1, o2⟩ := okc_mch oc0 ha
    exact OBs_of o1 o2 k40 (i0 a ha) (Nat.le_max_left _ _)
  have b1 : ∀ a ∈ Δ1, OBs (ojz (tch C) (tch b - tch (tAll B C)) (cch Γ0) (cch Δ1)) a := fun a ha => by
    obtain ⟨d, o1, o2⟩ := okc_top Δ1 he.1 a ha
    exact OBs_of o1 o2 k40 (i1 a ha) (Nat.le_trans (Nat.le_max_left _ _) (Nat.le_max_right _ _))
  have bs : ∀ B' C', ok Γ0.length (tAll B' C') = true → tch C' ≤ tch C → tch (tAll B' C') + tch (tAll B C) + 5 ≤ tch b → tch C' ≤ 40 ∧ lmx xr1 (tch C') ≤ ojz (tch C) (tch b - tch (tAll B C)) (cch Γ0) (cch Δ1) ∧ lmx fr1 (tch C') ≤ ojz (tch C) (tch b - tch (tAll B C)) (cch Γ0) (cch Δ1) := by
    intro B' C' o' l1 l2
    have p1 := tch_pos (ok_all.mp o').1
    have e1 := tch_all B' C'
    have m1 := lmx_mono fr1 (show tch C' ≤ tch b - tch (tAll B C) - 10 by omega)
    have m2 := lmx_xf (tch C') (by omega)
    have m3 : lmx fr1 (tch b - tch (tAll B C) - 10) ≤ ojz (tch C) (tch b - tch (tAll B C)) (cch Γ0) (cch Δ1) := Nat.le_trans (Nat.le_max_right _ _) (Nat.le_max_right _ _)
    exact ⟨by omega, by omega, by omega⟩
  have d5 : Δ ≠ [] → 5 ≤ 58 - 2 * mch t - cch (cxs Δ1 Γ0 b) := fun e => Nat.le_trans (dch_five he e) (by omega)
  have hch : CHo f t (([] : Stk).map Option.isSome) := ch
  refine fun S hS => ⟨fun d => ?_, ?_⟩
  · have T := tbs1 d
    have l0 := onz_len 0 (fun _ => 1 + 1) (2 + 1) (vlr d 1) Γ0
    have hω : ∀ j, j < (onz 0 (fun _ => 1 + 1) (2 + 1) (vlr d 1) Γ0).length → vw (onz 0 (fun _ => 1 + 1) (2 + 1) (vlr d 1) Γ0) j ≤ max 1 (fx1.getD (cch Γ0) 0) := fun j hj => Nat.le_trans (onz_chars (n1 := fun _ => 1 + 1) T.1 T.2.1 T.2.2.1 T.2.2.2.1 T.2.2.2.2.1 Γ0 oc0 (by omega) j (by rw [l0] at hj; exact hj)) (Nat.le_max_right _ _)
    obtain ⟨v, hv, f1, f2⟩ := xr_form (n1 := fun _ => 1 + 1) (hv := 1) xr1_ok T.2.2.2.1 T.2.2.2.2.1 _ C (Γ0.length + 1) (Nat.le_refl _) oC k40
    have hκ := hkr d
    have hwB : vlr d 1 (nz 0 (fun _ => 1 + 1) (2 + 1) (vlr d 1) (onz 0 (fun _ => 1 + 1) (2 + 1) (vlr d 1) Γ0) B) ≤ wbz fr1 1 (max 1 (fx1.getD (cch Γ0) 0)) (tch B) := by
      have q2 := vlr_one d (nz 0 (fun _ => 1 + 1) (2 + 1) (vlr d 1) (onz 0 (fun _ => 1 + 1) (2 + 1) (vlr d 1) Γ0) B)
      unfold wbz
      by_cases q : tch B = 1
      · rw [if_pos (show Nat.beq (tch B) 1 = true by rw [q]; rfl)]
        rw [eB q, nz_top] at q2 ⊢
        omega
      · rw [if_neg (by intro q'; exact q (Nat.eq_of_beq_eq_true q'))]
        have q3 : nz 0 (fun _ => 1 + 1) (2 + 1) (vlr d 1) (onz 0 (fun _ => 1 + 1) (2 + 1) (vlr d 1) Γ0) B ≤ Zx fr1 (max 1 (fx1.getD (cch Γ0) 0)) (tch B + 2) := Zx_le T (by rw [l0]; exact oBB) (by omega) (Nat.le_max_left _ _) hω
        generalize nz 0 (fun _ => 1 + 1) (2 + 1) (vlr d 1) (onz 0 (fun _ => 1 + 1) (2 + 1) (vlr d 1) Γ0) B = n9 at *
        generalize Zx fr1 (max 1 (fx1.getD (cch Γ0) 0)) (tch B + 2) = z9 at *
        omega
    refine gen_zs (un := true) (a5 := 0) (cd := 58 - 2 * mch t - cch (cxs Δ1 Γ0 b)) (NC_rows d 1) (vlr_mono d 1) (vlr_lip d 1) T fr1_m fg1_ok fg1_m fg1s_1 (by decide) (vlr_one d) (by decide) ds w he (Or.inl rfl) (by omega) (by omega) (by omega) (Nat.zero_le _) (fun _ => rfl) b0 b1 bs q38 (by omega) (Nat.le_refl _) hκ hwB f1 f2 (fun E Z aq hE => GH_natc (E := E) (Z := Z) (NC_rows d 1) (vlr_mono d 1) f t [] _ _ Δ w he hch aq (onz_cv (NC_rows d 1) he.1) hE) (fun p hp u hu => ?_) hr hS
    obtain ⟨s, m, q⟩ := liz_get zR v hv p hp u hu
    exact ⟨s, q, lno8_get tR m⟩
  · have T := tbsq
    have l0 := onz_len 1 ngc 1 (fun x => x) Γ0
    have hω : ∀ j, j < (onz 1 ngc 1 (fun x => x) Γ0).length → vw (onz 1 ngc 1 (fun x => x) Γ0) j ≤ max 1 (fxq.getD (cch Γ0) 0) := fun j hj => Nat.le_trans (onz_chars (n1 := ngc) T.1 T.2.1 T.2.2.1 T.2.2.2.1 T.2.2.2.2.1 Γ0 oc0 (by omega) j (by rw [l0] at hj; exact hj)) (Nat.le_max_right _ _)
    obtain ⟨v, hv, f1, f2⟩ := xr_form (n1 := ngc) (hv := 0) xrq_ok T.2.2.2.1 T.2.2.2.2.1 _ C (Γ0.length + 1) (Nat.le_refl _) oC k40
    have hκ : nz 1 ngc 1 (fun x => x) (onz 1 ngc 1 (fun x => x) Γ0) b' ≤ kpz frq 1 (max 1 (fxq.getD (cch Γ0) 0)) (tch b - tch (tAll B C)) := by
      unfold kpz
      by_cases q : tch b - tch (tAll B C) = 0
      · rw [if_pos (show Nat.beq (tch b - tch (tAll B C)) 0 = true by rw [q]; rfl)]
        rw [eT (by omega), nz_top]
        exact Nat.le_refl _
      · rw [if_neg (by intro q'; exact q (Nat.eq_of_beq_eq_true q'))]
        exact Nat.le_trans (Zx_le T (x := max 1 (fxq.getD (cch Γ0) 0)) (A := b') (by rw [l0]; exact ds.1) (by omega) (Nat.le_max_left _ _) hω) (Zx_ms frq_m (by omega) (by omega))
    have hwB : (fun x : Nat => x) (nz 1 ngc 1 (fun x => x) (onz 1 ngc 1 (fun x => x) Γ0) B) ≤ wbz frq 0 (max 1 (fxq.getD (cch Γ0) 0)) (tch B) := by
      show nz 1 ngc 1 (fun x => x) (onz 1 ngc 1 (fun x => x) Γ0) B ≤ _
      unfold wbz
      by_cases q : tch B = 1
      · rw [if_pos (show Nat.beq (tch B) 1 = true by rw [q]; rfl)]
        rw [eB q, nz_top]
        omega
      · rw [if_neg (by intro q'; exact q (Nat.eq_of_beq_eq_true q'))]
        have q3 : nz 1 ngc 1 (fun x => x) (onz 1 ngc 1 (fun x => x) Γ0) B ≤ Zx frq (max 1 (fxq.getD (cch Γ0) 0)) (tch B + 2) := Zx_le T (by rw [l0]; exact oBB) (by omega) (Nat.le_max_left _ _) hω
        generalize nz 1 ngc 1 (fun x => x) (onz 1 ngc 1 (fun x => x) Γ0) B = n9 at *
        generalize Zx frq (max 1 (fxq.getD (cch Γ0) 0)) (tch B + 2) = z9 at *
        omega
    refine gen_zs (un := true) (a5 := 0) (cd := 58 - 2 * mch t - cch (cxs Δ1 Γ0 b)) NC_goals (fun y y' hy => hy) (fun y δ => Nat.le_refl _) T frq_m fgq_ok fgq_m fg1s_q (by decide) (fun y => by show y ≤ 0 + max 1 y; omega) (by decide) ds w he (Or.inl rfl) (by omega) (by omega) (by omega) (Nat.zero_le _) (fun _ => rfl) b0 b1 bs q38 (by omega) (Nat.le_refl _) hκ hwB f1 f2 (fun E Z aq hE => GH_natc (E := E) (Z := Z) NC_goals (fun y y' hy => hy) f t [] _ _ Δ w he hch aq (onz_cv NC_goals he.1) hE) (fun p hp u hu => ?_) hr hS
    obtain ⟨s, m, q⟩ := liz_get zG v hv p hp u hu
    exact ⟨s, q, lno8_get tG m⟩
end PmZz9
def okJ8 : Bool :=
  liz [kR9] xr1 fr1 fg1 1 3 2 (wbz fr1 1 1 1) 1 (ojz 22 3 0 9) 22 9 0 &&
  (liz [kG9] xrq frq fgq 0 1 (kpz frq 1 1 3) (wbz frq 0 1 1) 1 (ojz 22 3 0 9) 22 9 0 &&
  (lno8 [kR9] fr1 fg1 1 2 3 2 2 2 2 887 5 5 && lno8 [kG9] frq fgq 0 1 1 1 3 2 1 597 5 5))
theorem okJ8_ok : okJ8 = true := by decide +kernel
theorem nat_kk9 {f : Nat} {t b b' B C : Ty} {Δ1 : List Ty} {Δ : List (Nat × Ty × Nat)} (lb : LBd [] Δ1 b b' B C) (hk : ∀ h ω, nz 0 (fun _ => 1 + 1) (2 + 1) h ω b' ≤ 2) (h2 : hd b ≠ 2) (w : TWf f (cxs Δ1 [] b).length (Δ.map (fun a => a.1)) t) (he : TE (cxs Δ1 [] b) Δ) (nD : Δ ≠ []) (ch : CHo f t []) (m5 : mch t = 5) (eB : tch B = 1) (eC : tch C = 22) (eo : tch b - tch (tAll B C) = 3) (e2 : cch Δ1 = 9) (hb : cch (cxs Δ1 [] b) + dch Δ + 2 * mch t ≤ 58) : NtV (cxs Δ1 [] b) Δ f t 887 597 := by
  have ec := cch_cx (Γ0 := []) (β := b) Δ1
  have e0 : cch ([] : List Ty) = 0 := rfl
  have cσ := lb.1.ch
  have eσ := tch_all B C
  have c43 : cch (cxs Δ1 [] b) = 43 := by omega
  have hr : ∀ a ∈ cxs Δ1 [] b, hd a ≠ 2 := by
    intro a ha
    rcases List.mem_append.mp (show a ∈ Δ1 ++ [b] from ha) with q | q
    · obtain ⟨d, o1, o2⟩ := okc_top Δ1 he.1 a q
      intro h
      obtain ⟨p, r, rfl, hp, hr⟩ := hd_is_all o1 h
      have := tch_pos hp
      have := tch_pos hr
      rw [tch_all] at o2
      omega
    · rw [List.mem_singleton] at q
      rw [q]; exact h2
  have hz : okJ8 = true := okJ8_ok
  unfold okJ8 at hz
  rw [Bool.and_eq_true, Bool.and_eq_true, Bool.and_eq_true] at hz
  obtain ⟨zR, zG, tR, tG⟩ := hz
  have e5 : 58 - 2 * mch t - cch (cxs Δ1 [] b) = 5 := by omega
  exact zone_hk (κr := 2) hr lb (fun d => hk _ _) w he nD ch (by rw [eB, eC, eo, e2]; exact zR) (by rw [eB, eC, eo, e2]; exact zG) (by rw [e5, m5]; exact tR) (by rw [e5, m5]; exact tG) (by omega) (by omega) hb
def RESTAC9 : Prop := ∀ (f : Nat) (x y : Ty) (Γ : List Ty) (Δ : List (Nat × Ty × Nat)) (t : Ty), H9 f x y Γ Δ → Sh9 x y t → (¬ CHo f t [] ∨ (CHo f t [] ∧ ((Δ ≠ [] ∧ ExA Γ) ∨ V9c f x y t (mch (pee f t).2) Δ.isEmpty Γ))) → PRn f x y Γ Δ
theorem restAB9_of (R : RESTAC9) : RESTAB9 := by
  intro f x y Γ Δ t H sh h
  rcases h with h | ⟨ch, h | h⟩
  · exact R f x y Γ Δ t H sh (Or.inl h)
  · have H' := H
    obtain ⟨hx9, hy9, ⟨he, hv, hd', h20, h47, -⟩, hb, ng, -⟩ := H'
    obtain ⟨⟨wt, nt, tt, m3', m3, n9⟩, pm, hbt⟩ := h9_t H sh
    obtain ⟨eI, h⟩ := h
    have nD : Δ ≠ [] := fun q => by rw [q] at eI; cases eI
    rcases h with h | ⟨Δ1, b, b2, B, C, eΓ, lb2, hk, ni, h2, m5', e1, e2, e3, e5⟩
    · exact R f x y Γ Δ t H sh (Or.inr ⟨ch, Or.inl ⟨nD, h⟩⟩)
    · obtain ⟨⟨w', -⟩, -, tn, -, -⟩ := pee_ok f _ _ t wt
      refine h9_ntv H sh (NtV_pee f t wt he ?_)
      have hbp : cch Γ + dch Δ + 2 * mch (pee f t).2 ≤ 58 := by omega
      subst eΓ
      exact nat_kk9 lb2 hk h2 w' he nD (pee_cho f t [] ch) m5' e1 e2 e3 e5 hbp
  · exact R f x y Γ Δ t H sh (Or.inr ⟨ch, Or.inr h⟩)
theorem pairn_qc (R : RESTAC9) : PAIRn := pairn_qb (restAB9_of R)
