/-! NO NAMES AROUND: eighteen and nineteen characters (RESTAR9). -/
def eQt : List (List (List (Nat × T6 × T6))) := [[[], [], [], [], [], [], [], [], [], [], [(11, (22, 11, 76, 3, 1, 11), (17, 11, 60, 3, 1, 11))], [(11, (22, 11, 82, 3, 1, 11), (17, 11, 66, 3, 1, 11))]],
  [[], [], [], [], [], [], [], [], [], [], [(12, (22, 12, 78, 3, 1, 12), (17, 12, 62, 3, 1, 12))], []],
  [[], [], [], [], [], [], [], [], [], [], [(12, (23, 12, 81, 3, 1, 10), (18, 12, 65, 3, 1, 10)), (8, (19, 8, 13, 4, 0, 13), (15, 8, 13, 4, 0, 13))], []]]
def bQt : List (List (List (Nat × Nat × Nat))) := [[[], [], [], [], [], [], [], [], [], [], [], []], [[], [], [], [], [], [], [], [], [], [], [], []], [[], [], [], [], [], [], [], [], [], [], [(13, 1, 0)], []]]
def okQt (c m : Nat) : Bool := (gQ eQt c m).all (fun e => Nat.ble (m - 11) e.1 && (Nat.ble e.1 30 && (lnqn [[e.2.1]] fr1 fg1 1 2 3 2 2 2 2 887 m e.1 (m - 11) && lnqn [[e.2.2]] frq fgq 0 1 1 1 3 2 1 597 m e.1 (m - 11))))
theorem qt_20_18 : okQt 20 18 = true := by decide +kernel
theorem qt_20_19 : okQt 20 19 = true := by decide +kernel
theorem qt_21_18 : okQt 21 18 = true := by decide +kernel
theorem qt_22_18 : okQt 22 18 = true := by decide +kernel
theorem cvt9_20 : cvx9 eQt bQt 20 18 19 = true := by decide +kernel
theorem cvt9_21 : cvx9 eQt bQt 21 18 18 = true := by decide +kernel
theorem cvt9_22 : cvx9 eQt bQt 22 18 18 = true := by decide +kernel
theorem qt_get {c m : Nat} (c0 : 20 ≤ c) (m0 : 18 ≤ m) (hb : c + 2 * m ≤ 58) : okQt c m = true := by
  have hc : (c = 20 ∧ m = 18) ∨ (c = 20 ∧ m = 19) ∨ (c = 21 ∧ m = 18) ∨ (c = 22 ∧ m = 18) := by omega
  rcases hc with ⟨rfl, rfl⟩ | ⟨rfl, rfl⟩ | ⟨rfl, rfl⟩ | ⟨rfl, rfl⟩
  · exact qt_20_18
  · exact qt_20_19
  · exact qt_21_18
  · exact qt_22_18
theorem cvxt_all {c : Nat} (c0 : 20 ≤ c) (c1 : c ≤ 22) : ∃ m1, cvx9 eQt bQt c 18 m1 = true ∧ 57 ≤ c + 2 * m1 := by
  have hc : c = 20 ∨ c = 21 ∨ c = 22 := by omega
  rcases hc with rfl | rfl | rfl
  · exact ⟨19, cvt9_20, by decide⟩
  · exact ⟨18, cvt9_21, by decide⟩
  · exact ⟨18, cvt9_22, by decide⟩
section PmZf1
variable {f : Nat} {t b b' B C : Ty} {Γ0 Δ1 : List Ty} {Δ : List (Nat × Ty × Nat)}
theorem nat_Qt (lb : LBd Γ0 Δ1 b b' B C) (ho : tch b - tch (tAll B C) = 0 ∨ 3 ≤ tch b - tch (tAll B C)) (w : TWf f (cxs Δ1 Γ0 b).length (Δ.map (fun a => a.1)) t) (he : TE (cxs Δ1 Γ0 b) Δ) (tn : TNo f t) (eD : Δ = []) (m0 : 18 ≤ mch t) (h20 : 20 ≤ cch (cxs Δ1 Γ0 b)) (hb : cch (cxs Δ1 Γ0 b) + dch Δ + 2 * mch t ≤ 58) : NtV (cxs Δ1 Γ0 b) Δ f t 887 597 ∨ inB (gB bQt (cch (cxs Δ1 Γ0 b)) (mch t)) (tch B) (tch C) (tch b - tch (tAll B C)) (cch Γ0) (cch Δ1) = true := by
  obtain ⟨oc0, oB⟩ := okc_low Δ1 he.1
  have ec := cch_cx (Γ0 := Γ0) (β := b) Δ1
  have cσ := lb.1.ch
  have eσ := tch_all B C
  have oBB := (ok_all.mp lb.1.2.1).1
  have oC : ok (Γ0.length + 1) C = true := (ok_all.mp lb.1.2.1).2
  have pB := tch_pos oBB
  have pC := tch_pos oC
  have k40 := lb.2.2.2.1
  have q5 : ∀ (G : List Ty), (∀ a ∈ G, 1 ≤ tch a) → cch G = 0 ∨ 5 ≤ cch G := fun G hG => by
    cases G with
    | nil => exact Or.inl rfl
    | cons a G =>
      right
      have e : cch (a :: G) = (tch a + 4) + cch G := rfl
      have := hG a (List.mem_cons_self ..)
      omega
  have g0 := q5 Γ0 (fun a ha => by
    obtain ⟨d, o1, -⟩ := okc_mch oc0 ha
    exact tch_pos o1)
  have g1 := q5 Δ1 (fun a ha => by
    obtain ⟨d, o1, -⟩ := okc_top Δ1 he.1 a ha
    exact tch_pos o1)

  obtain ⟨m1, cv, hm1⟩ := cvxt_all h20 (by omega)
  rcases cvx_get cv (m := mch t) pB pC ho g0 g1 (by omega) m0 (by omega) with q | q
  rotate_left
  · exact Or.inr q
  left
  obtain ⟨e, he9, z⟩ := List.any_eq_true.mp q
  have ok9 := List.all_eq_true.mp ((show okQt _ _ = true from qt_get h20 m0 (by omega))) e he9
  rw [Bool.and_eq_true, Bool.and_eq_true, Bool.and_eq_true] at ok9
  obtain ⟨o1, o2, tR, tG⟩ := ok9
  have o1 := Nat.le_of_ble_eq_true o1
  have o2 := Nat.le_of_ble_eq_true o2
  unfold eqx at z
  rw [Bool.and_eq_true, Bool.and_eq_true, Bool.and_eq_true, Bool.and_eq_true, Bool.and_eq_true, Bool.and_eq_true, Bool.and_eq_true] at z
  obtain ⟨⟨z1, z2, z3, z4, z5, z6⟩, zR, zG⟩ := z
  have z1 := Nat.le_of_ble_eq_true z1
  have z2 := Nat.le_of_ble_eq_true z2
  have z3 := Nat.le_of_ble_eq_true z3
  have z4 := Nat.le_of_ble_eq_true z4
  have z5 := Nat.le_of_ble_eq_true z5
  have z6 := Nat.le_of_ble_eq_true z6
  have fR : ∃ v ∈ frg xr1 (tch C), xt (Γ0.length + 1) C ≤ v.1 ∧ xa 0 (fun _ => 1 + 1) 3 1 (Γ0.length + 1) C ≤ v.2 := xr_form (n1 := fun _ => 1 + 1) (hv := 1) xr1_ok (tbs1 true).2.2.2.1 (tbs1 true).2.2.2.2.1 _ C (Γ0.length + 1) (Nat.le_refl _) oC k40
  have fG : ∃ v ∈ frg xrq (tch C), xt (Γ0.length + 1) C ≤ v.1 ∧ xa 1 ngc 1 0 (Γ0.length + 1) C ≤ v.2 := xr_form (n1 := ngc) (hv := 0) xrq_ok tbsq.2.2.2.1 tbsq.2.2.2.2.1 _ C (Γ0.length + 1) (Nat.le_refl _) oC k40
  exact zone_jqnt fR fG lb w he tn eD (K := e.1) (La := mch t - 11) o1 o2 z1 z2 z3 z4 (by omega) (by omega) (by omega) (by omega) (qts_liz zR) (qts_liz zG) tR tG (by omega) (by omega) (by omega)
end PmZf1
theorem z0t_18 : (lnqn [[(26, 7, 58, 2, 0, 0)]] fr1 fg1 1 2 3 2 2 2 2 887 18 7 7 && lnqn [[(19, 7, 44, 2, 0, 0)]] frq fgq 0 1 1 1 3 2 1 597 18 7 7) = true ∧ ∀ c, c < 23 → max 1 (fx1.getD c 0) ≤ 26 ∧ max 1 (fxq.getD c 0) ≤ 19 := ⟨by decide +kernel, by decide +kernel⟩
theorem z0t_19 : (lnqn [[(22, 8, 56, 2, 0, 0)]] fr1 fg1 1 2 3 2 2 2 2 887 19 8 8 && lnqn [[(18, 8, 48, 2, 0, 0)]] frq fgq 0 1 1 1 3 2 1 597 19 8 8) = true ∧ ∀ c, c < 21 → max 1 (fx1.getD c 0) ≤ 22 ∧ max 1 (fxq.getD c 0) ≤ 18 := ⟨by decide +kernel, by decide +kernel⟩
section PmZf2
variable {f : Nat} {t : Ty} {Γ : List Ty} {Δ : List (Nat × Ty × Nat)}
theorem nat_0qt (w : TWf f Γ.length (Δ.map (fun a => a.1)) t) (he : TE Γ Δ) (cu : TNo f t) (eD : Δ = []) (hb0 : ∀ b ∈ Γ, IS2 (fun _ => False) b) (m0 : 18 ≤ mch t) (h20 : 20 ≤ cch Γ) (hb : cch Γ + 2 * mch t ≤ 58) : NtV Γ Δ f t 887 597 := by
  have hm : mch t = 18 ∨ mch t = 19 := by omega
  rcases hm with e | e
  · have q := z0t_18
    rw [Bool.and_eq_true] at q
    have q2 := q.2 (cch Γ) (by omega)
    exact zone_0qnt (K := 7) (La := 7) (sR := (26, 7, 58, 2, 0, 0)) (sG := (19, 7, 44, 2, 0, 0)) w he cu eD hb0 (by omega) (by omega) (by omega) (by omega) (by omega) q2.1 q2.2 (by rw [e]; exact q.1.1) (by rw [e]; exact q.1.2) (by omega) (by omega)
  · have q := z0t_19
    rw [Bool.and_eq_true] at q
    have q2 := q.2 (cch Γ) (by omega)
    exact zone_0qnt (K := 8) (La := 8) (sR := (22, 8, 56, 2, 0, 0)) (sG := (18, 8, 48, 2, 0, 0)) w he cu eD hb0 (by omega) (by omega) (by omega) (by omega) (by omega) q2.1 q2.2 (by rw [e]; exact q.1.1) (by rw [e]; exact q.1.2) (by omega) (by omega)
end PmZf2
def RESTAR9 : Prop := ∀ (f : Nat) (x y : Ty) (Γ : List Ty) (Δ : List (Nat × Ty × Nat)) (t : Ty), H9 f x y Γ Δ → Sh9 x y t → ¬ CHo f t [] → ((Δ = [] ∧ (mch t = 15 ∧ ∃ (b b' B C : Ty), Γ = [b] ∧ LBd [] [] b b' B C ∧ ¬ IS2 (fun _ => False) b ∧ sN B 0 1 C = true ∧ tch B = 1 ∧ inB (gB bQn (cch Γ) (mch t)) (tch B) (tch C) (tch b - tch (tAll B C)) 0 0 = true)) ∨ ∃ (b b' B C : Ty), Γ = [b] ∧ LBd [] [] b b' B C ∧ ¬ IS2 (fun _ => False) b ∧ sN B 0 1 C = true ∧ ((Δ.length = 1 ∧ (tch B = 1 ∨ (tch B = 2 ∧ mch t = 12)) ∧ inB (gB bQo (cch Γ) (mch t)) (tch B) (tch C) (tch b - tch (tAll B C)) 0 0 = true) ∨ (2 ≤ Δ.length ∧ (tch B = 1 ∨ (tch B = 2 ∧ mch t = 10)) ∧ inB (gB bQm (cch Γ) (mch t)) (tch B) (tch C) (tch b - tch (tAll B C)) 0 0 = true))) → PRn f x y Γ Δ
theorem restAQ9_of (R : RESTAR9) : RESTAQ9 := by
  intro f x y Γ Δ t H sh nc q
  have H' := H
  obtain ⟨hx9, hy9, ⟨he, hv, hd', h20, h47, nOne⟩, hb, nO, nPS, nPG, -⟩ := H'
  obtain ⟨⟨wt, nt, tt, m3', m3, n9⟩, pm, hbt⟩ := h9_t H sh
  rcases q with ⟨eD, q⟩ | q
  rotate_left
  · exact R f x y Γ Δ t H sh nc (Or.inr q)
  rcases q with m18 | q
  rotate_left
  · obtain ⟨b, b', B, C, eΓ, lb, nf, fl, k, q⟩ := q
    have oB := (ok_all.mp lb.1.2.1).1
    have kC := sN_ch oB _ C 1 (Nat.le_refl _) (ok_all.mp lb.1.2.1).2 fl
    have p := of_decide_eq_true <| inB_fl (P := fun be m => decide (be = 1 → m = 15)) (by decide +kernel) (by omega) (by omega) kC q
    exact R f x y Γ Δ t H sh nc (Or.inl ⟨eD, p k, b, b', B, C, eΓ, lb, nf, fl, k, q⟩)
  have na : ∀ a ∈ Γ, noal a = true := fun a ha => by
    obtain ⟨j, hj, ej⟩ := mem_bnd9 Γ a ha
    rw [← ej]
    exact (hv j hj).1
  rcases lb_ex2 Γ he.1 na h47 with i | ⟨Δ1, Γ0, b, b', B, C, eΓ, lb, nf⟩
  · exact h9_ntv H sh (nat_0qt wt he tt eD i m18 h20 (by rw [eD] at hbt; exact hbt))
  have hc := he.1
  rw [eΓ] at hc
  obtain ⟨oc0, ob⟩ := okc_low Δ1 hc
  have cσ := lb.1.ch
  have ho : tch b - tch (tAll B C) = 0 ∨ 3 ≤ tch b - tch (tAll B C) := by
    by_cases h2 : hd b = 2
    · left
      obtain ⟨p, r, rfl, -, -⟩ := hd_is_all ob h2
      rcases IS2_all lb.1.2.2.2.2 with q | ⟨-, -, q, -⟩
      · rw [q]; exact Nat.sub_self _
      · exfalso; omega
    · right
      have := ov_three lb.1 ob nf h2
      omega
  have wt' := wt
  have he' := he
  have h20' := h20
  have hbt' := hbt
  rw [eΓ] at wt' he' h20' hbt'
  rcases nat_Qt lb ho wt' he' tt eD m18 h20' hbt' with z | z
  · refine h9_ntv H sh ?_
    rw [eΓ]
    exact z
  rw [← eΓ] at z
  have z' := z
  unfold inB at z'
  rw [Bool.and_eq_true, Bool.and_eq_true] at z'
  have q1 := Nat.eq_of_beq_eq_true z'.1
  have q2 := Nat.eq_of_beq_eq_true z'.2.1
  have g0 : Γ0 = [] := (q05_of (fun a ha => by
    obtain ⟨d, o1, -⟩ := okc_mch oc0 ha
    exact tch_pos o1)).2 q1
  have g1 : Δ1 = [] := (q05_of (fun a ha => by
    obtain ⟨d, o1, -⟩ := okc_top Δ1 hc a ha
    exact tch_pos o1)).2 q2
  subst g0
  subst g1
  rw [q1] at z
  have eΓ : Γ = [b] := eΓ
  by_cases fl : sN B 0 1 C = true
  · have oB := (ok_all.mp lb.1.2.1).1
    have kC := sN_ch oB _ C 1 (Nat.le_refl _) (ok_all.mp lb.1.2.1).2 fl
    have p := of_decide_eq_true <| inB_fl (P := fun be m => decide (False)) (by decide +kernel) (by omega) (by omega) kC z
    exact p.elim
  · exfalso
    refine nOne ?_
    rw [eΓ]
    refine one_of ob lb nf ?_ (by rw [Bool.not_eq_true] at fl; exact fl)
    have ov : ∀ (L : List (List (List (Nat × Nat × Nat)))), (∀ l ∈ L, ∀ l' ∈ l, ∀ e ∈ l', e.2.2 ≤ 7) → inB (gB L (cch Γ) (mch t)) (tch B) (tch C) (tch b - tch (tAll B C)) 0 0 = true → tch b ≤ tch (tAll B C) + 7 := by
      intro L hL hi
      unfold inB at hi
      rw [Bool.and_eq_true, Bool.and_eq_true] at hi
      obtain ⟨e, he9, z⟩ := List.any_eq_true.mp hi.2.2
      have e7 : e.2.2 ≤ 7 := by
        obtain ⟨l', hl', hel⟩ := getD_mem9 he9
        obtain ⟨l, hl, hl2⟩ := getD_mem9 hl'
        exact hL l hl l' hl2 e hel
      simp only [Bool.and_eq_true] at z
      have z3 := Nat.eq_of_beq_eq_true z.2.2
      omega
    exact ov bQt (by decide +kernel) z
theorem pairn_qr (R : RESTAR9) : PAIRn := pairn_qq (restAQ9_of R)
