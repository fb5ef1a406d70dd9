/-! CHOICES ANYWHERE, names around: what is left are contexts of one binder, of none with a scheme, and no names (RESTAH9). -/
section PmZr1
variable {f D p : Nat} {t v : Ty} {Γ : List Ty} {a0 : Nat × Ty × Nat} {S : Ty}
theorem cft_cho (f : Nat) (t : Ty) (σ : List Bool) (c : CFt f t) : CHo f t σ := CHo_of_COk f t σ (CF_CO f t _ c)
/-- nine characters, one name: such a choice cannot be typed -/
theorem vac_nine (he : TE Γ [a0]) (hv : noac Γ) (w : TWf f Γ.length [a0.1] t) (tn : TNo f t) (nc : ¬ CHo f t []) (m9 : mch t ≤ 9) : tyF f t Γ [a0] ≠ .inr S := by
  intro hS
  -- an operation on a choice of five characters
  have step : ∀ (g : Nat) (u R : Ty), TWf (g + 1) Γ.length [a0.1] u → TNo (g + 1) u → (nKd u = 9 ∨ nKd u = 11) → ¬ CFt g (nX u) → mch (nX u) ≤ 5 → tyF (g + 1) u Γ [a0] = .inr R → False := by
    intro g u R wu nu k nc5 m5 hR
    rcases k with k | k
    · obtain ⟨R1, a, b, h1, h2, -⟩ := tyF_is9 wu he k hR
      have q := (ty_five he hv (wu.2.2.2.2.2.1 k).1 (nu.2.2.1 (Or.inl k)) nc5 m5 h1).1
      rw [h2, hd_all] at q
      exact q rfl
    · have y1 := (wu.2.2.2.2.2.2.2.1 k).2
      have m3 := (wu.2.2.2.2.2.2.2.1 k).1
      unfold tyF at hR
      rw [if_neg (by omega), if_neg (by omega), if_neg (by omega), if_neg (by omega), if_neg (by omega), if_neg (by omega), if_pos k] at hR
      obtain ⟨R1, hR1, q1⟩ := tbd_in hR
      obtain ⟨e, -⟩ := tyO_in q1
      unfold tyD at e
      by_cases cc : (8 ≤ hd (expo Γ Γ.length R1) ∧ hd (expo Γ Γ.length R1) < 16) ∧ bit (hd (expo Γ Γ.length R1) - 8) (nMk u) = true
      rotate_left
      · rw [if_neg cc] at e; cases e
      have oR := tyF_ok _ _ _ _ _ y1 he hR1
      obtain ⟨oE, -⟩ := expo_ok he.1 he.2.1 Γ.length R1 oR.1 oR.2
      obtain ⟨m, x, y, z, m8, e2⟩ := hd_is_rec oE cc.1.1 cc.1.2
      have m0 := (ty_five he hv y1 (nu.2.2.1 (Or.inr k)) nc5 m5 hR1).2 m x y z m8 e2
      have c3 := cc.2
      rw [e2, hd_rec, m0] at c3
      rcases (show nMk u = 0 ∨ nMk u = 1 ∨ nMk u = 2 by omega) with g | g | g <;> rw [g] at c3 <;> exact absurd c3 (by decide)
  -- one operation outside, seven characters below
  have low : ∀ (g : Nat) (u R : Ty) (b : Bool), TWf g Γ.length [a0.1] u → TNo g u → ¬ CHo g u [b] → mch u ≤ 7 → tyF g u Γ [a0] = .inr R → False := by
    intro g u R b wu nu nu2 m7 hR
    cases g with
    | zero => exact wu.elim
    | succ g =>
      rcases sh_ncf wu nu (fun q => nu2 (cft_cho _ _ _ q)) m7 with ⟨k, x1, x2, em, -⟩ | ⟨k, x1, xn, xc, x5⟩
      · have s1 : ¬ CHo g (nX u) [b] ∨ ¬ CHo g (nY u) [b] := Classical.byContradiction (fun q => nu2 ⟨fun e => by omega, fun e => by omega, fun e => by omega, fun e => by omega, fun _ => ⟨by cases b <;> rfl, Classical.byContradiction (fun n => q (Or.inl n)), Classical.byContradiction (fun n => q (Or.inr n))⟩⟩)
        rcases s1 with s1 | s1
        · have := cho_min9 _ _ _ _ _ x1.1 x1.2 s1
          simp only [List.length_cons, List.length_nil] at this
          omega
        · have := cho_min9 _ _ _ _ _ x2.1 x2.2 s1
          simp only [List.length_cons, List.length_nil] at this
          omega
      · exact step g u R wu nu k xc x5 hR
  cases f with
  | zero => exact w.elim
  | succ f =>
    have w' := w
    obtain ⟨w0, w5, w6, w7, w8, w9, w10, w11, w12⟩ := w
    have tn' := tn
    obtain ⟨n6, n7, n9, n10, n12⟩ := tn
    have em := mch_is w0.2.1
    refine nc ⟨fun c => Classical.byContradiction (fun n => ?_), fun c => Classical.byContradiction (fun n => ?_), fun c => Classical.byContradiction (fun n => ?_), fun c g hg hb => Classical.byContradiction (fun n => ?_), fun c => ⟨rfl, Classical.byContradiction (fun n => ?_), Classical.byContradiction (fun n => ?_)⟩⟩
    · rw [if_neg (by omega), if_pos c] at em
      rcases c with c | c
      · have := cho_min _ _ _ _ _ (w6 c).2.2.2 n
        have := tch_pos (w6 c).2.1
        simp only [List.tail_nil, List.length_nil] at *
        omega
      · have := cho_min _ _ _ _ _ (w8 c).2.2 n
        have := tch_pos (w8 c).1
        simp only [List.tail_nil, List.length_nil] at *
        omega
    · rw [if_neg (by omega), if_neg (by omega), if_neg (by omega), if_neg (by omega)] at em
      rcases c with c | c
      · have q := cho_min9 _ _ _ _ _ (w7 (Or.inl c)).1 (n7 (Or.inl c)).1 n
        have := mch_pos' (w7 (Or.inl c)).2
        simp only [List.length_cons, List.length_nil] at q
        omega
      · have hS' := hS
        unfold tyF at hS
        rw [if_neg (by omega), if_neg (by omega), if_neg (by omega), if_neg (by omega), if_neg (by omega), if_neg (by omega), if_pos c] at hS
        obtain ⟨R1, hR1, -⟩ := tbd_in hS
        exact low f (nX t) R1 false (w11 c).2 (n9 (Or.inr c)) n (by omega) hR1
    · rw [if_neg (by omega), if_neg (by omega), if_pos c] at em
      have := tch_pos (w9 c).2.1
      obtain ⟨R1, a, b, h1, h2, -⟩ := tyF_is9 w' he c hS
      exact low f (nX t) R1 true (w9 c).1 (n9 (Or.inl c)) n (by omega) h1
    · rw [if_neg (by omega), if_neg (by omega), if_neg (by omega), if_pos c] at em
      have q := cho_min _ _ _ _ _ ((w10 c).2 g hg hb) n
      simp only [List.tail_nil, List.length_nil] at q
      have hm : ¬ nMk t = 0 := by
        intro e
        rw [e] at hb
        rcases (show g = 0 ∨ g = 1 ∨ g = 2 by omega) with rfl | rfl | rfl <;> exact absurd hb (by decide)
      rw [if_neg hm] at em
      have h3 : ∀ m, m < 8 → m ≠ 0 → 1 ≤ nlb m := by decide
      have := h3 _ (w10 c).1 hm
      rcases (show g = 0 ∨ g = 1 ∨ g = 2 by omega) with rfl | rfl | rfl
      · have q : 8 ≤ mch (nX t) + 2 * 0 := q
        omega
      · have q : 8 ≤ mch (nY t) + 2 * 0 := q
        omega
      · have q : 8 ≤ mch (nZ t) + 2 * 0 := q
        omega
    · rw [if_neg (by omega), if_neg (by omega), if_neg (by omega), if_neg (by omega)] at em
      have q := cho_min9 _ _ _ _ _ (w7 (Or.inr c)).1 (n7 (Or.inr c)).1 n
      have := mch_pos' (w7 (Or.inr c)).2
      simp only [List.length_nil] at q
      omega
    · rw [if_neg (by omega), if_neg (by omega), if_neg (by omega), if_neg (by omega)] at em
      have q := cho_min9 _ _ _ _ _ (w7 (Or.inr c)).2 (n7 (Or.inr c)).2 n
      have := mch_pos' (w7 (Or.inr c)).1
      simp only [List.length_nil] at q
      omega
end PmZr1
theorem cvx_get {E : List (List (List (Nat × T6 × T6)))} {L : List (List (List (Nat × Nat × Nat)))} {c m0 m1 : Nat} (h : cvx9 E L c m0 m1 = true) {be k ov q1 q2 m : Nat} (b1 : 1 ≤ be) (k1 : 1 ≤ k) (ho : ov = 0 ∨ 3 ≤ ov) (h1 : q1 = 0 ∨ 5 ≤ q1) (h2 : q2 = 0 ∨ 5 ≤ q2) (ec : 8 + be + k + ov + q1 + q2 = c) (hm0 : m0 ≤ m) (hm1 : m ≤ m1) : (gQ E c m).any (eqx be k ov q1 q2 (58 - c - 2 * m)) = true ∨ inB (gB L c m) be k ov q1 q2 = true := by
  have nb : ∀ a b : Nat, a ≠ b → Nat.beq a b = false := fun a b hab => by
    cases e : Nat.beq a b with
    | false => rfl
    | true => exact absurd (Nat.eq_of_beq_eq_true e) hab
  have nl : ∀ a b : Nat, b ≤ a → Nat.blt a b = false := fun a b hab => by
    cases e : Nat.blt a b with
    | false => rfl
    | true => exact (blt_no hab e).elim
  unfold cvx9 at h
  have q := rng_all h (i := be) (by omega)
  rw [nb be 0 (by omega), Bool.false_or] at q
  have q := rng_all q (i := k) (by omega)
  rw [nb k 0 (by omega), Bool.false_or] at q
  have q := rng_all q (i := ov) (by omega)
  rw [nb ov 1 (by omega), nb ov 2 (by omega), Bool.false_or, Bool.false_or] at q
  have q := rng_all q (i := q1) (by omega)
  rw [show c - 8 - be - k - ov - q1 = q2 by omega] at q
  have z1 : (Nat.blt 0 q1 && Nat.blt q1 5) = false := by
    rcases h1 with e | e
    · rw [e]; rfl
    · rw [nl q1 5 e, Bool.and_false]
  have z2 : (Nat.blt 0 q2 && Nat.blt q2 5) = false := by
    rcases h2 with e | e
    · rw [e]; rfl
    · rw [nl q2 5 e, Bool.and_false]
  rw [z1, z2, Bool.false_or, Bool.false_or] at q
  have q := rng_all q (i := m) (by omega)
  rw [nl m m0 hm0, Bool.false_or, Bool.or_eq_true] at q
  exact q
theorem cvxm_all {c : Nat} (c0 : 20 ≤ c) (c1 : c ≤ 32) : ∃ m1, cvx9 eQm bQm c 8 m1 = true ∧ 47 ≤ c + 2 * m1 := by
  have hc : c = 20 ∨ c = 21 ∨ c = 22 ∨ c = 23 ∨ c = 24 ∨ c = 25 ∨ c = 26 ∨ c = 27 ∨ c = 28 ∨ c = 29 ∨ c = 30 ∨ c = 31 ∨ c = 32 := by omega
  rcases hc with rfl | rfl | rfl | rfl | rfl | rfl | rfl | rfl | rfl | rfl | rfl | rfl | rfl
  · exact ⟨14, cvm_20, by decide⟩
  · exact ⟨13, cvm_21, by decide⟩
  · exact ⟨13, cvm_22, by decide⟩
  · exact ⟨12, cvm_23, by decide⟩
  · exact ⟨12, cvm_24, by decide⟩
  · exact ⟨11, cvm_25, by decide⟩
  · exact ⟨11, cvm_26, by decide⟩
  · exact ⟨10, cvm_27, by decide⟩
  · exact ⟨10, cvm_28, by decide⟩
  · exact ⟨9, cvm_29, by decide⟩
  · exact ⟨9, cvm_30, by decide⟩
  · exact ⟨8, cvm_31, by decide⟩
  · exact ⟨8, cvm_32, by decide⟩
theorem cvxo_all {c : Nat} (c0 : 20 ≤ c) (c1 : c ≤ 33) : ∃ m1, cvx9 eQo bQo c 10 m1 = true ∧ 52 ≤ c + 2 * m1 := by
  have hc : c = 20 ∨ c = 21 ∨ c = 22 ∨ c = 23 ∨ c = 24 ∨ c = 25 ∨ c = 26 ∨ c = 27 ∨ c = 28 ∨ c = 29 ∨ c = 30 ∨ c = 31 ∨ c = 32 ∨ c = 33 := by omega
  rcases hc with rfl | rfl | rfl | rfl | rfl | rfl | rfl | rfl | rfl | rfl | rfl | rfl | rfl | rfl
  · exact ⟨16, cvo_20, by decide⟩
  · exact ⟨16, cvo_21, by decide⟩
  · exact ⟨15, cvo_22, by decide⟩
  · exact ⟨15, cvo_23, by decide⟩
  · exact ⟨14, cvo_24, by decide⟩
  · exact ⟨14, cvo_25, by decide⟩
  · exact ⟨13, cvo_26, by decide⟩
  · exact ⟨13, cvo_27, by decide⟩
  · exact ⟨12, cvo_28, by decide⟩
  · exact ⟨12, cvo_29, by decide⟩
  · exact ⟨11, cvo_30, by decide⟩
  · exact ⟨11, cvo_31, by decide⟩
  · exact ⟨10, cvo_32, by decide⟩
  · exact ⟨10, cvo_33, by decide⟩
section PmZr2
variable {f : Nat} {t b b' B C : Ty} {Γ0 Δ1 : List Ty} {Δ : List (Nat × Ty × Nat)}
theorem nat_Qo (lb : LBd Γ0 Δ1 b b' B C) (ho : tch b - tch (tAll B C) = 0 ∨ 3 ≤ tch b - tch (tAll B C)) (w : TWf f (cxs Δ1 Γ0 b).length (Δ.map (fun a => a.1)) t) (he : TE (cxs Δ1 Γ0 b) Δ) (nD : Δ ≠ []) (tn : TNo f t) (one : Δ.length ≤ 1) (m0 : 10 ≤ mch t) (h20 : 20 ≤ cch (cxs Δ1 Γ0 b)) (hb : cch (cxs Δ1 Γ0 b) + dch Δ + 2 * mch t ≤ 58) : NtV (cxs Δ1 Γ0 b) Δ f t 887 597 ∨ inB (gB bQo (cch (cxs Δ1 Γ0 b)) (mch t)) (tch B) (tch C) (tch b - tch (tAll B C)) (cch Γ0) (cch Δ1) = true := by
  obtain ⟨oc0, oB⟩ := okc_low Δ1 he.1
  have ec := cch_cx (Γ0 := Γ0) (β := b) Δ1
  have cσ := lb.1.ch
  have eσ := tch_all B C
  have oBB := (ok_all.mp lb.1.2.1).1
  have oC : ok (Γ0.length + 1) C = true := (ok_all.mp lb.1.2.1).2
  have pB := tch_pos oBB
  have pC := tch_pos oC
  have k40 := lb.2.2.2.1
  have q5 : ∀ (G : List Ty), (∀ a ∈ G, 1 ≤ tch a) → cch G = 0 ∨ 5 ≤ cch G := fun G hG => by
    cases G with
    | nil => exact Or.inl rfl
    | cons a G =>
      right
      have e : cch (a :: G) = (tch a + 4) + cch G := rfl
      have := hG a (List.mem_cons_self ..)
      omega
  have g0 := q5 Γ0 (fun a ha => by
    obtain ⟨d, o1, -⟩ := okc_mch oc0 ha
    exact tch_pos o1)
  have g1 := q5 Δ1 (fun a ha => by
    obtain ⟨d, o1, -⟩ := okc_top Δ1 he.1 a ha
    exact tch_pos o1)
  have d5 := dch_five he nD
  obtain ⟨m1, cv, hm1⟩ := cvxo_all h20 (by omega)
  rcases cvx_get cv (m := mch t) pB pC ho g0 g1 (by omega) m0 (by omega) with q | q
  rotate_left
  · exact Or.inr q
  left
  obtain ⟨e, he9, z⟩ := List.any_eq_true.mp q
  have ok9 := List.all_eq_true.mp ((show okQo _ _ = true from qo_get h20 (by omega) m0 (by omega))) e he9
  rw [Bool.and_eq_true, Bool.and_eq_true, Bool.and_eq_true] at ok9
  obtain ⟨o1, o2, tR, tG⟩ := ok9
  have o1 := Nat.le_of_ble_eq_true o1
  have o2 := Nat.le_of_ble_eq_true o2
  unfold eqx at z
  rw [Bool.and_eq_true, Bool.and_eq_true, Bool.and_eq_true, Bool.and_eq_true, Bool.and_eq_true, Bool.and_eq_true, Bool.and_eq_true] at z
  obtain ⟨⟨z1, z2, z3, z4, z5, z6⟩, zR, zG⟩ := z
  have z1 := Nat.le_of_ble_eq_true z1
  have z2 := Nat.le_of_ble_eq_true z2
  have z3 := Nat.le_of_ble_eq_true z3
  have z4 := Nat.le_of_ble_eq_true z4
  have z5 := Nat.le_of_ble_eq_true z5
  have z6 := Nat.le_of_ble_eq_true z6
  have fR : ∃ v ∈ frg xr1 (tch C), xt (Γ0.length + 1) C ≤ v.1 ∧ xa 0 (fun _ => 1 + 1) 3 1 (Γ0.length + 1) C ≤ v.2 := xr_form (n1 := fun _ => 1 + 1) (hv := 1) xr1_ok (tbs1 true).2.2.2.1 (tbs1 true).2.2.2.2.1 _ C (Γ0.length + 1) (Nat.le_refl _) oC k40
  have fG : ∃ v ∈ frg xrq (tch C), xt (Γ0.length + 1) C ≤ v.1 ∧ xa 1 ngc 1 0 (Γ0.length + 1) C ≤ v.2 := xr_form (n1 := ngc) (hv := 0) xrq_ok tbsq.2.2.2.1 tbsq.2.2.2.2.1 _ C (Γ0.length + 1) (Nat.le_refl _) oC k40
  exact zone_jqo (cd := 58 - cch (cxs Δ1 Γ0 b) - 2 * mch t) fR fG lb w he nD tn one (K := e.1) (La := max 3 (mch t - 8)) o1 o2 z1 z2 z3 z4 (by omega) (by omega) (by omega) (by omega) (by omega) (qts_liz zR) (qts_liz zG) tR tG (by omega) (by omega) (by omega) (by omega) (by omega)
end PmZr2
section PmZr3
variable {f : Nat} {t b b' B C : Ty} {Γ0 Δ1 : List Ty} {Δ : List (Nat × Ty × Nat)}
theorem nat_Qm (lb : LBd Γ0 Δ1 b b' B C) (ho : tch b - tch (tAll B C) = 0 ∨ 3 ≤ tch b - tch (tAll B C)) (w : TWf f (cxs Δ1 Γ0 b).length (Δ.map (fun a => a.1)) t) (he : TE (cxs Δ1 Γ0 b) Δ) (nD : Δ ≠ []) (d10 : 10 ≤ dch Δ) (m0 : 8 ≤ mch t) (h20 : 20 ≤ cch (cxs Δ1 Γ0 b)) (hb : cch (cxs Δ1 Γ0 b) + dch Δ + 2 * mch t ≤ 58) : NtV (cxs Δ1 Γ0 b) Δ f t 887 597 ∨ inB (gB bQm (cch (cxs Δ1 Γ0 b)) (mch t)) (tch B) (tch C) (tch b - tch (tAll B C)) (cch Γ0) (cch Δ1) = true := by
  obtain ⟨oc0, oB⟩ := okc_low Δ1 he.1
  have ec := cch_cx (Γ0 := Γ0) (β := b) Δ1
  have cσ := lb.1.ch
  have eσ := tch_all B C
  have oBB := (ok_all.mp lb.1.2.1).1
  have oC : ok (Γ0.length + 1) C = true := (ok_all.mp lb.1.2.1).2
  have pB := tch_pos oBB
  have pC := tch_pos oC
  have k40 := lb.2.2.2.1
  have q5 : ∀ (G : List Ty), (∀ a ∈ G, 1 ≤ tch a) → cch G = 0 ∨ 5 ≤ cch G := fun G hG => by
    cases G with
    | nil => exact Or.inl rfl
    | cons a G =>
      right
      have e : cch (a :: G) = (tch a + 4) + cch G := rfl
      have := hG a (List.mem_cons_self ..)
      omega
  have g0 := q5 Γ0 (fun a ha => by
    obtain ⟨d, o1, -⟩ := okc_mch oc0 ha
    exact tch_pos o1)
  have g1 := q5 Δ1 (fun a ha => by
    obtain ⟨d, o1, -⟩ := okc_top Δ1 he.1 a ha
    exact tch_pos o1)

  obtain ⟨m1, cv, hm1⟩ := cvxm_all h20 (by omega)
  rcases cvx_get cv (m := mch t) pB pC ho g0 g1 (by omega) m0 (by omega) with q | q
  rotate_left
  · exact Or.inr q
  left
  obtain ⟨e, he9, z⟩ := List.any_eq_true.mp q
  have ok9 := List.all_eq_true.mp ((show okQm _ _ = true from qm_get h20 (by omega) m0 (by omega))) e he9
  rw [Bool.and_eq_true, Bool.and_eq_true, Bool.and_eq_true] at ok9
  obtain ⟨o1, o2, tR, tG⟩ := ok9
  have o1 := Nat.le_of_ble_eq_true o1
  have o2 := Nat.le_of_ble_eq_true o2
  unfold eqx at z
  rw [Bool.and_eq_true, Bool.and_eq_true, Bool.and_eq_true, Bool.and_eq_true, Bool.and_eq_true, Bool.and_eq_true, Bool.and_eq_true] at z
  obtain ⟨⟨z1, z2, z3, z4, z5, z6⟩, zR, zG⟩ := z
  have z1 := Nat.le_of_ble_eq_true z1
  have z2 := Nat.le_of_ble_eq_true z2
  have z3 := Nat.le_of_ble_eq_true z3
  have z4 := Nat.le_of_ble_eq_true z4
  have z5 := Nat.le_of_ble_eq_true z5
  have z6 := Nat.le_of_ble_eq_true z6
  have fR : ∃ v ∈ frg xr1 (tch C), xt (Γ0.length + 1) C ≤ v.1 ∧ xa 0 (fun _ => 1 + 1) 3 1 (Γ0.length + 1) C ≤ v.2 := xr_form (n1 := fun _ => 1 + 1) (hv := 1) xr1_ok (tbs1 true).2.2.2.1 (tbs1 true).2.2.2.2.1 _ C (Γ0.length + 1) (Nat.le_refl _) oC k40
  have fG : ∃ v ∈ frg xrq (tch C), xt (Γ0.length + 1) C ≤ v.1 ∧ xa 1 ngc 1 0 (Γ0.length + 1) C ≤ v.2 := xr_form (n1 := ngc) (hv := 0) xrq_ok tbsq.2.2.2.1 tbsq.2.2.2.2.1 _ C (Γ0.length + 1) (Nat.le_refl _) oC k40
  exact zone_jq (cd := 58 - cch (cxs Δ1 Γ0 b) - 2 * mch t) fR fG lb w he nD  (K := e.1) (La := max 3 (mch t - 7)) o1 o2 z1 z2 z3 z4 (by omega) (by omega) (by omega) (by omega) (by omega) (qts_liz zR) (qts_liz zG) tR tG (by omega) (by omega) (by omega) (by omega) (by omega)
end PmZr3
def RESTAH9 : Prop := ∀ (f : Nat) (x y : Ty) (Γ : List Ty) (Δ : List (Nat × Ty × Nat)) (t : Ty), H9 f x y Γ Δ → Sh9 x y t → ¬ CHo f t [] → (Δ = [] ∨ (∀ a ∈ Γ, IS2 (fun _ => False) a) ∨ ∃ (b b' B C : Ty), Γ = [b] ∧ LBd [] [] b b' B C ∧ ¬ IS2 (fun _ => False) b ∧ ((Δ.length = 1 ∧ inB (gB bQo (cch Γ) (mch t)) (tch B) (tch C) (tch b - tch (tAll B C)) 0 0 = true) ∨ (2 ≤ Δ.length ∧ inB (gB bQm (cch Γ) (mch t)) (tch B) (tch C) (tch b - tch (tAll B C)) 0 0 = true))) → PRn f x y Γ Δ
theorem restAG9_of (R : RESTAH9) : RESTAG9 := by
  intro f x y Γ Δ t H sh nc
  have H' := H
  obtain ⟨hx9, hy9, ⟨he, hv, hd', h20, h47, -⟩, hb, nO, nPS, nPG, -⟩ := H'
  obtain ⟨⟨wt, nt, tt, m3', m3, n9⟩, pm, hbt⟩ := h9_t H sh
  by_cases nD : Δ = []
  · exact R f x y Γ Δ t H sh nc (Or.inl nD)
  have d5 := dch_five he nD
  have na : ∀ a ∈ Γ, noal a = true := fun a ha => by
    obtain ⟨j, hj, ej⟩ := mem_bnd9 Γ a ha
    rw [← ej]
    exact (hv j hj).1
  rcases lb_ex2 Γ he.1 na h47 with i | ⟨Δ1, Γ0, b, b', B, C, eΓ, lb, nf⟩
  · exact R f x y Γ Δ t H sh nc (Or.inr (Or.inl i))
  have hc := he.1
  rw [eΓ] at hc
  obtain ⟨oc0, ob⟩ := okc_low Δ1 hc
  have cσ := lb.1.ch
  have ho : tch b - tch (tAll B C) = 0 ∨ 3 ≤ tch b - tch (tAll B C) := by
    by_cases h2 : hd b = 2
    · left
      obtain ⟨p, r, rfl, -, -⟩ := hd_is_all ob h2
      rcases IS2_all lb.1.2.2.2.2 with q | ⟨-, -, q, -⟩
      · rw [q]; exact Nat.sub_self _
      · exfalso; omega
    · right
      have := ov_three lb.1 ob nf h2
      omega
  have fin : ∀ (L : List (List (List (Nat × Nat × Nat)))), inB (gB L (cch Γ) (mch t)) (tch B) (tch C) (tch b - tch (tAll B C)) (cch Γ0) (cch Δ1) = true → Γ0 = [] ∧ Δ1 = [] := by
    intro L q
    unfold inB at q
    rw [Bool.and_eq_true, Bool.and_eq_true] at q
    have q1 := Nat.eq_of_beq_eq_true q.1
    have q2 := Nat.eq_of_beq_eq_true q.2.1
    refine ⟨(q05_of (fun a ha => ?_)).2 q1, (q05_of (fun a ha => ?_)).2 q2⟩
    · obtain ⟨d, o1, -⟩ := okc_mch oc0 ha
      exact tch_pos o1
    · obtain ⟨d, o1, -⟩ := okc_top Δ1 hc a ha
      exact tch_pos o1
  by_cases one : Δ.length ≤ 1
  · obtain ⟨a0, ea⟩ : ∃ a0, Δ = [a0] := by
      match Δ, nD, one with
      | [], nD, _ => exact absurd rfl nD
      | [a], _, _ => exact ⟨a, rfl⟩
      | a :: b :: l, _, h1 => rw [List.length_cons, List.length_cons] at h1; omega
    by_cases m9 : mch t ≤ 9
    · refine h9_ntv H sh (fun S hS => ?_)
      exfalso
      rw [ea] at wt he hS
      exact vac_nine he hv wt tt nc m9 hS
    have wt' := wt
    have he' := he
    have h20' := h20
    have hbt' := hbt
    rw [eΓ] at wt' he' h20' hbt'
    rcases nat_Qo lb ho wt' he' nD tt one (by omega) h20' hbt' with z | z
    · refine h9_ntv H sh ?_
      rw [eΓ]
      exact z
    · rw [← eΓ] at z
      obtain ⟨g0, g1⟩ := fin _ z
      subst g0
      subst g1
      exact R f x y Γ Δ t H sh nc (Or.inr (Or.inr ⟨b, b', B, C, eΓ, lb, nf, Or.inl ⟨by rw [ea]; rfl, z⟩⟩))
  · have d10 : 10 ≤ dch Δ := by
      match Δ, nD, one, he with
      | [], nD, _, _ => exact absurd rfl nD
      | [a], _, one, _ => exact absurd (Nat.le_refl 1) one
      | a :: c :: l, _, _, he =>
        have p1 := tch_pos (he.2.2 a (by simp)).2.1
        have p2 := tch_pos (he.2.2 c (by simp)).2.1
        have e : dch (a :: c :: l) = (tch a.2.1 + 4) + ((tch c.2.1 + 4) + dch l) := rfl
        omega
    have m8 := cho_min _ _ _ _ _ wt nc
    simp only [List.length_nil] at m8
    have wt' := wt
    have he' := he
    have h20' := h20
    have hbt' := hbt
    rw [eΓ] at wt' he' h20' hbt'
    rcases nat_Qm lb ho wt' he' nD d10 (by omega) h20' hbt' with z | z
    · refine h9_ntv H sh ?_
      rw [eΓ]
      exact z
    · rw [← eΓ] at z
      obtain ⟨g0, g1⟩ := fin _ z
      subst g0
      subst g1
      exact R f x y Γ Δ t H sh nc (Or.inr (Or.inr ⟨b, b', B, C, eΓ, lb, nf, Or.inr ⟨by omega, z⟩⟩))
theorem pairn_qh (R : RESTAH9) : PAIRn := pairn_qg (restAG9_of R)
