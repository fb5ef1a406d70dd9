/-! THE CUT WALK GOES LIKE THE WALK. -/
section PmKd
variable (κ : Ty → Bool) (C : Ty) (Γ0 : List Ty)
/-- the two contexts -/
def cA (Δ : List Ty) : List Ty := cxs Δ Γ0 (tAll tTop C)
def cB (Δ : List Ty) : List Ty := cxs Δ Γ0 (tAll tTop (ct κ C))
def CGc (Δ : List Ty) : Prop := okc (cA C Γ0 Δ) ∧ okc (cB κ C Γ0 Δ) ∧ CXI κ Γ0.length (cA C Γ0 Δ)
/-- what is given once and for all -/
def CH0 : Prop := (∀ j m t, κ (lft j m t) = κ t) ∧ κ tTop = false ∧ PNs κ Γ0.length (Γ0.length + 1) C = true
def GSr : TRel := fun z z' => ∃ Δ, z.1 = cA C Γ0 Δ ∧ z'.1 = cB κ C Γ0 Δ ∧ CGc κ C Γ0 Δ ∧ GT κ Γ0.length z.1 z.2.1 z'.2.1 z.2.2 z'.2.2
def LSr : TRel := fun z z' => ∃ Δ, z.1 = cA C Γ0 Δ ∧ z'.1 = cB κ C Γ0 Δ ∧ CGc κ C Γ0 Δ ∧ z.2.1 = upb Γ0 Δ (tAll tTop C) ∧ z'.2.1 = upb Γ0 Δ (tAll tTop (ct κ C)) ∧ (ok z.1.length z.2.2 = true ∧ ok z.1.length z'.2.2 = true) ∧ PNs κ Γ0.length z.1.length z.2.2 = true ∧ CTo κ z.2.2 z'.2.2
def RSr : TRel := fun z z' => LSr κ C Γ0 (z.1, z.2.2, z.2.1) (z'.1, z'.2.2, z'.2.1)
def nld (z : Tsk) : Prop := bel z.1 z.2.1 (tVar Γ0.length) = false
def RTr : TRel := fun z z' => GSr κ C Γ0 z z' ∨ LSr κ C Γ0 z z' ∨ (RSr κ C Γ0 z z' ∧ nld Γ0 z)
def GTr : TRel := fun z z' => GSr κ C Γ0 z z' ∨ (LSr κ C Γ0 z z' ∧ nld Γ0 (z.1, z.2.2, z.2.1)) ∨ (RSr κ C Γ0 z z' ∧ ¬ 16 ≤ hd z.2.1)
end PmKd
section PmKe
variable {κ : Ty → Bool} {C : Ty} {Γ0 Δ : List Ty}
theorem cAB_len : (cA C Γ0 Δ).length = (cB κ C Γ0 Δ).length := by unfold cA cB; rw [cxs_len, cxs_len]
theorem cA_len : (cA C Γ0 Δ).length = Δ.length + (Γ0.length + 1) := by unfold cA; rw [cxs_len]
theorem CGc.okb (h : CGc κ C Γ0 Δ) : ok (cA C Γ0 Δ).length (upb Γ0 Δ (tAll tTop C)) = true := by
  have := ok_expose h.1 (SGc.k_lt (Γ0 := Γ0) (Δ := Δ) (tAll tTop C))
  unfold cA at this ⊢
  rw [cxs_up] at this; exact this
theorem CGc.okb' (h : CGc κ C Γ0 Δ) : ok (cB κ C Γ0 Δ).length (upb Γ0 Δ (tAll tTop (ct κ C))) = true := by
  have := ok_expose h.2.1 (SGc.k_lt (Γ0 := Γ0) (Δ := Δ) (tAll tTop (ct κ C)))
  unfold cB at this ⊢
  rw [cxs_up] at this; exact this
theorem upb_top : upb Γ0 Δ (tAll tTop C) = tAll tTop (upb Γ0 Δ C) := by
  rw [upb_all]
  have : upb Γ0 Δ tTop = tTop := lft_top _ _
  rw [this]
/-- another variable, exposed -/
theorem CGc.ex (h : CGc κ C Γ0 Δ) {j : Nat} (hj : j < (cA C Γ0 Δ).length) (ne : j ≠ Γ0.length) : exps (cA C Γ0 Δ) (tVar j) = exps (cB κ C Γ0 Δ) (tVar j) ∧ ok (cA C Γ0 Δ).length (exps (cA C Γ0 Δ) (tVar j)) = true ∧ PNs κ Γ0.length (cA C Γ0 Δ).length (exps (cA C Γ0 Δ) (tVar j)) = true := by
  rw [exps_var, exps_var]
  refine ⟨?_, ok_expose h.1 hj, (h.2.2 j hj ne _ (Nat.le_refl _)).1⟩
  rw [cAB_len (κ := κ)]
  unfold cA cB
  rw [cxs_other Γ0 _ _ ne]
theorem exps_k (b : Ty) : exps (cxs Δ Γ0 b) (tVar Γ0.length) = upb Γ0 Δ b := by rw [exps_var, cxs_up]
theorem CGc.tok (h : CGc κ C Γ0 Δ) {X Y X' Y' : Ty} (o1 : ok (cA C Γ0 Δ).length X = true) (o2 : ok (cA C Γ0 Δ).length X' = true) (o3 : ok (cA C Γ0 Δ).length Y = true) (o4 : ok (cA C Γ0 Δ).length Y' = true) : tok (cA C Γ0 Δ, X, Y) ∧ tok (cB κ C Γ0 Δ, X', Y') :=
  ⟨⟨h.1, o1, o3⟩, ⟨h.2.1, by show ok (cB κ C Γ0 Δ).length X' = true; rw [← cAB_len]; exact o2, by show ok (cB κ C Γ0 Δ).length Y' = true; rw [← cAB_len]; exact o4⟩⟩
/-- a bound that both have: one more variable -/
theorem CGc.ext (h0 : CH0 κ C Γ0) (h : CGc κ C Γ0 Δ) {a : Ty} (oa : ok (cA C Γ0 Δ).length a = true) (h1 : PNs κ Γ0.length (cA C Γ0 Δ).length a = true) (h2 : Wn κ Γ0.length (cA C Γ0 Δ).length a = true) : CGc κ C Γ0 (a :: Δ) :=
  ⟨⟨oa, h.1⟩, ⟨by show ok (cB κ C Γ0 Δ).length a = true; rw [← cAB_len]; exact oa, h.2.1⟩, h.2.2.ext h0.1 h1 h2⟩
/-- a variable on one side, exposed -/
theorem GT.exp (h : CGc κ C Γ0 Δ) {X' Y Y' : Ty} {j : Nat} (hj : j < (cA C Γ0 Δ).length) (ne : j ≠ Γ0.length) (g : GT κ Γ0.length (cA C Γ0 Δ) (tVar j) X' Y Y') : GT κ Γ0.length (cA C Γ0 Δ) (exps (cA C Γ0 Δ) (tVar j)) (exps (cB κ C Γ0 Δ) (tVar j)) Y Y' := by
  obtain ⟨e, o, kk⟩ := h.ex hj ne
  obtain ⟨⟨-, -, o3, o4⟩, -, ky, sx⟩ := g
  rw [← e]
  refine ⟨⟨o, o, o3, o4⟩, kk, ky, ?_⟩
  rcases sx with ⟨-, e2⟩ | ⟨-, e2, e3⟩
  · exact Or.inl ⟨rfl, e2⟩
  · refine Or.inr ⟨Or.inl rfl, e2, ?_⟩
    rcases e3 with ⟨r, a1, a2, a3, a4, a5, a6⟩ | ⟨r, a1, a2, a3, a4, a5, a6⟩
    · refine Or.inl ⟨r, a1, a2, ?_, a4, a5, a6⟩
      rw [exps_var]
      rcases gpn_var a3 with q | q
      · exact gpn_gap (by omega) (by omega) _
      · exact a6 j hj q _ (Nat.le_refl _)
    · refine Or.inr ⟨r, a1, a2, a3, ?_, a5, a6⟩
      rw [exps_var]
      exact a5 j hj ne _ (Nat.le_refl _)
/-- the scheme and one with the bound Top -/
theorem LS_pass (h0 : CH0 κ C Γ0) (h : CGc κ C Γ0 Δ) {Y Y' : Ty} (o3 : ok (cA C Γ0 Δ).length Y = true) (o4 : ok (cA C Γ0 Δ).length Y' = true) (ky : PNs κ Γ0.length (cA C Γ0 Δ).length Y = true) (sy : CTo κ Y Y') (y2 : hd Y = 2) (e : flat (k1 (upb Γ0 Δ (tAll tTop C))) = flat (k1 Y)) : CGc κ C Γ0 (tTop :: Δ) ∧ k1 Y = tTop ∧ k1 Y' = tTop ∧ GT κ Γ0.length (cA C Γ0 (tTop :: Δ)) (k2 (upb Γ0 Δ (tAll tTop C))) (k2 (upb Γ0 Δ (tAll tTop (ct κ C)))) (k2 Y) (k2 Y') := by
  obtain ⟨A, D, rfl, oA, oD⟩ := hd_is_all o3 y2
  rw [upb_top] at e
  have ea : tTop = A := flat_eq (ok_top 0) oA e
  subst ea
  have n1 : (cA C Γ0 Δ).length = Γ0.length + (Δ.length + 1) := by rw [cA_len]; omega
  have h' := h.ext h0 (ok_top _) PNs_top Wn_top
  obtain ⟨D', rfl, v⟩ := sy.shape.2.2 _ _ rfl
  refine ⟨h', rfl, rfl, ?_⟩
  have hA := h.okb
  have hB := h.okb'
  rw [upb_top] at hA hB
  rw [upb_top, upb_top]
  have cX : upb Γ0 Δ (ct κ C) = ct κ (upb Γ0 Δ C) := (ct_lft h0.1 _ _ C).symm
  have kC : PNs κ Γ0.length ((cA C Γ0 Δ).length + 1) (upb Γ0 Δ C) = true := by
    have := PNs_up h0.1 Γ0.length (Δ.length + 1) C (Γ0.length + 1) (by omega) h0.2.2
    rw [show Γ0.length + 1 + (Δ.length + 1) = (cA C Γ0 Δ).length + 1 by omega] at this
    exact this
  rw [PNs_all, Bool.and_eq_true, Bool.and_eq_true, Bool.and_eq_true] at ky
  have wD : Wn κ Γ0.length (cA C Γ0 Δ).length D = true := by simpa [hd_top] using ky.2
  refine ⟨⟨(ok_all.mp hA).2, ?_, oD, (ok_all.mp o4).2⟩, kC, ky.1.1.2, Or.inr ⟨Or.inr cX, v h0.2.1, Or.inl ⟨(cA C Γ0 Δ).length, by omega, Nat.lt_succ_self _, gpn_gap (Nat.le_refl _) (by omega) _, wD, ?_, ?_⟩⟩⟩
  · have := (ok_all.mp hB).2
    rw [← cAB_len] at this
    exact this
  · intro j hj jk m hm
    have hj : j < (cA C Γ0 Δ).length + 1 := hj
    have hm : (cA C Γ0 Δ).length + 1 ≤ m := hm
    show Wn κ Γ0.length _ (lft j (m - j) (if j = (cA C Γ0 Δ).length then tTop else bnd (cA C Γ0 Δ) j)) = true
    by_cases ej : j = (cA C Γ0 Δ).length
    · rw [if_pos ej, lft_top]; rfl
    · rw [if_neg ej]
      exact (h.2.2 j (by omega) jk m (by omega)).2 _ (Nat.le_refl _)
  · intro j hj rj m hm
    have hj : j < (cA C Γ0 Δ).length + 1 := hj
    show gpn Γ0.length _ (lft j (m - j) (if j = (cA C Γ0 Δ).length then tTop else bnd (cA C Γ0 Δ) j)) = false
    rw [if_pos (by omega), lft_top]
    exact gpn_top
end PmKe
