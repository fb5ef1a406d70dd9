/-! THE CUT WALK GOES LIKE THE WALK. -/
section PmKd
variable (κ : Ty → Bool) (hb : Nat) (B C : Ty) (Γ0 : List Ty)
/-- the two contexts -/
def cA (Δ : List Ty) : List Ty := cxs Δ Γ0 (tAll B C)
def cB (Δ : List Ty) : List Ty := cxs Δ Γ0 (tAll B (ct κ Γ0.length C))
def CG (Δ : List Ty) : Prop := okc (cA B C Γ0 Δ) ∧ okc (cB κ B C Γ0 Δ) ∧ CXI κ hb Γ0.length (cA B C Γ0 Δ)
/-- what is given once and for all -/
def CH0 : Prop := (∀ j m t, κ (lft j m t) = κ t) ∧ PNs κ hb Γ0.length (Γ0.length + 1) C = true ∧ hd B = hb ∧ hb < 16 ∧ nsch B = true ∧ ok Γ0.length B = true
def GSr : TRel := fun z z' => ∃ Δ, z.1 = cA B C Γ0 Δ ∧ z'.1 = cB κ B C Γ0 Δ ∧ CG κ hb B C Γ0 Δ ∧ GT κ hb Γ0.length z.1 z.2.1 z'.2.1 z.2.2 z'.2.2
def LSr : TRel := fun z z' => ∃ Δ, z.1 = cA B C Γ0 Δ ∧ z'.1 = cB κ B C Γ0 Δ ∧ CG κ hb B C Γ0 Δ ∧ z.2.1 = upb Γ0 Δ (tAll B C) ∧ z'.2.1 = upb Γ0 Δ (tAll B (ct κ Γ0.length C)) ∧ (ok z.1.length z.2.2 = true ∧ ok z.1.length z'.2.2 = true) ∧ KK κ hb Γ0.length z.1.length z.2.2 ∧ SE κ Γ0.length z.1 z.2.2 z'.2.2
def RSr : TRel := fun z z' => LSr κ hb B C Γ0 (z.1, z.2.2, z.2.1) (z'.1, z'.2.2, z'.2.1)
def nld (z : Tsk) : Prop := bel z.1 z.2.1 (tVar Γ0.length) = false
def RTr : TRel := fun z z' => GSr κ hb B C Γ0 z z' ∨ LSr κ hb B C Γ0 z z' ∨ (RSr κ hb B C Γ0 z z' ∧ nld Γ0 z)
def GTr : TRel := fun z z' => GSr κ hb B C Γ0 z z' ∨ (LSr κ hb B C Γ0 z z' ∧ nld Γ0 (z.1, z.2.2, z.2.1)) ∨ (RSr κ hb B C Γ0 z z' ∧ ¬ 16 ≤ hd z.2.1)
end PmKd
section PmKe
variable {κ : Ty → Bool} {hb : Nat} {B C : Ty} {Γ0 Δ : List Ty}
theorem cAB_len : (cA B C Γ0 Δ).length = (cB κ B C Γ0 Δ).length := by unfold cA cB; rw [cxs_len, cxs_len]
theorem cA_len : (cA B C Γ0 Δ).length = Δ.length + (Γ0.length + 1) := by unfold cA; rw [cxs_len]
theorem CG.okb (h : CG κ hb B C Γ0 Δ) : ok (cA B C Γ0 Δ).length (upb Γ0 Δ (tAll B C)) = true := by
  have := ok_expose h.1 (SGc.k_lt (Γ0 := Γ0) (Δ := Δ) (tAll B C))
  unfold cA at this ⊢
  rw [cxs_up] at this; exact this
theorem CG.okb' (h : CG κ hb B C Γ0 Δ) : ok (cB κ B C Γ0 Δ).length (upb Γ0 Δ (tAll B (ct κ Γ0.length C))) = true := by
  have := ok_expose h.2.1 (SGc.k_lt (Γ0 := Γ0) (Δ := Δ) (tAll B (ct κ Γ0.length C)))
  unfold cB at this ⊢
  rw [cxs_up] at this; exact this
theorem upb_top : upb Γ0 Δ (tAll B C) = tAll (upb Γ0 Δ B) (upb Γ0 Δ C) := upb_all _ _ _ _
/-- another variable, exposed -/
theorem CG.ex (h : CG κ hb B C Γ0 Δ) {j : Nat} (hj : j < (cA B C Γ0 Δ).length) (ne : j ≠ Γ0.length) : exps (cA B C Γ0 Δ) (tVar j) = exps (cB κ B C Γ0 Δ) (tVar j) ∧ ok (cA B C Γ0 Δ).length (exps (cA B C Γ0 Δ) (tVar j)) = true ∧ KK κ hb Γ0.length (cA B C Γ0 Δ).length (exps (cA B C Γ0 Δ) (tVar j)) := by
  rw [exps_var, exps_var]
  refine ⟨?_, ok_expose h.1 hj, h.2.2 j hj ne _ (Nat.le_refl _)⟩
  rw [cAB_len (κ := κ)]
  unfold cA cB
  rw [cxs_other Γ0 _ _ ne]
theorem exps_k (b : Ty) : exps (cxs Δ Γ0 b) (tVar Γ0.length) = upb Γ0 Δ b := by rw [exps_var, cxs_up]
theorem CG.tok (h : CG κ hb B C Γ0 Δ) {X Y X' Y' : Ty} (o1 : ok (cA B C Γ0 Δ).length X = true) (o2 : ok (cA B C Γ0 Δ).length X' = true) (o3 : ok (cA B C Γ0 Δ).length Y = true) (o4 : ok (cA B C Γ0 Δ).length Y' = true) : tok (cA B C Γ0 Δ, X, Y) ∧ tok (cB κ B C Γ0 Δ, X', Y') :=
  ⟨⟨h.1, o1, o3⟩, ⟨h.2.1, by show ok (cB κ B C Γ0 Δ).length X' = true; rw [← cAB_len]; exact o2, by show ok (cB κ B C Γ0 Δ).length Y' = true; rw [← cAB_len]; exact o4⟩⟩
/-- a bound that both have: one more variable -/
theorem CG.ext (h0 : CH0 κ hb B C Γ0) (h : CG κ hb B C Γ0 Δ) {a : Ty} (oa : ok (cA B C Γ0 Δ).length a = true) (ka : KK κ hb Γ0.length (cA B C Γ0 Δ).length a) : CG κ hb B C Γ0 (a :: Δ) :=
  ⟨⟨oa, h.1⟩, ⟨by show ok (cB κ B C Γ0 Δ).length a = true; rw [← cAB_len]; exact oa, h.2.1⟩, h.2.2.ext h0.1 h0.2.2.2.1 ka⟩
/-- one side exposed -/
theorem SE.exp {X X' : Ty} (hs : SE κ Γ0.length (cA B C Γ0 Δ) X X') {Y : Ty} (hw : ∀ r s, CW κ Γ0.length r s (cA B C Γ0 Δ) → Wn κ r s Y = true) : SD κ Γ0.length (cA B C Γ0 Δ) X X' Y := by
  rcases hs with e | ⟨r, s, a1, a2, a3, a4, a5, a7⟩
  · exact Or.inl e
  · exact Or.inr ⟨r, s, a1, a2, a3, a4, a5, hw r s a7, a7⟩
theorem GT.exp (h : CG κ hb B C Γ0 Δ) {Y Y' : Ty} {j : Nat} (hj : j < (cA B C Γ0 Δ).length) (ne : j ≠ Γ0.length) (o3 : ok (cA B C Γ0 Δ).length Y = true) (o4 : ok (cA B C Γ0 Δ).length Y' = true) (ky : KK κ hb Γ0.length (cA B C Γ0 Δ).length Y) (sy : SE κ Γ0.length (cA B C Γ0 Δ) Y Y') : GT κ hb Γ0.length (cA B C Γ0 Δ) (exps (cA B C Γ0 Δ) (tVar j)) (exps (cB κ B C Γ0 Δ) (tVar j)) Y Y' := by
  obtain ⟨e, o, kk⟩ := h.ex hj ne
  rw [← e]
  refine ⟨⟨o, o, o3, o4⟩, kk, ky, Or.inl rfl, sy.exp (fun r s hw => ?_)⟩
  rw [exps_var]
  exact hw j hj ne _ (Nat.le_refl _)
/-- the scheme and one with the bound Top -/
theorem LS_pass (h0 : CH0 κ hb B C Γ0) (h : CG κ hb B C Γ0 Δ) {Y Y' : Ty} (o3 : ok (cA B C Γ0 Δ).length Y = true) (o4 : ok (cA B C Γ0 Δ).length Y' = true) (ky : KK κ hb Γ0.length (cA B C Γ0 Δ).length Y) (sy : SE κ Γ0.length (cA B C Γ0 Δ) Y Y') (y2 : hd Y = 2) (e : flat (k1 (upb Γ0 Δ (tAll B C))) = flat (k1 Y)) : CG κ hb B C Γ0 (upb Γ0 Δ B :: Δ) ∧ k1 Y = upb Γ0 Δ B ∧ GT κ hb Γ0.length (cA B C Γ0 (upb Γ0 Δ B :: Δ)) (k2 (upb Γ0 Δ (tAll B C))) (k2 (upb Γ0 Δ (tAll B (ct κ Γ0.length C)))) (k2 Y) (k2 Y') := by
  obtain ⟨A, D, rfl, oA, oD⟩ := hd_is_all o3 y2
  rw [upb_top] at e
  have hA := h.okb
  have hB := h.okb'
  rw [upb_top] at hA hB
  have ea : upb Γ0 Δ B = A := flat_eq (ok_all.mp hA).1 oA e
  subst ea
  have n1 : (cA B C Γ0 Δ).length = Γ0.length + (Δ.length + 1) := by rw [cA_len]; omega
  have kt : KK κ hb Γ0.length (cA B C Γ0 Δ).length (upb Γ0 Δ B) := ⟨Γ0.length, Nat.le_refl _, by omega, PNs_nsch _ _ _ _ _ (by show nsch (lft _ _ B) = true; rw [nsch_lft]; exact h0.2.2.2.2.1)⟩
  have h' := h.ext h0 (ok_all.mp hA).1 kt
  refine ⟨h', rfl, ?_⟩
  obtain ⟨s, s1, s2, s3⟩ := ky
  rw [upb_top, upb_top]
  have cX : upb Γ0 Δ (ct κ Γ0.length C) = ct κ (cA B C Γ0 Δ).length (upb Γ0 Δ C) := by
    have := ct_lft h0.1 (r := Γ0.length) Γ0.length (Δ.length + 1) C
    rw [show shl Γ0.length (Δ.length + 1) Γ0.length = (cA B C Γ0 Δ).length by unfold shl; rw [if_pos (Nat.le_refl _), n1]] at this
    exact this.symm
  have gap : ∀ q, Γ0.length ≤ q → q < (cA B C Γ0 Δ).length → men q (upb Γ0 Δ C) = false := fun q q1 q2 => men_gap q1 (by omega) C
  have kC : KK κ hb Γ0.length ((cA B C Γ0 Δ).length + 1) (upb Γ0 Δ C) := by
    refine ⟨(cA B C Γ0 Δ).length, by omega, by omega, ?_⟩
    have := PNs_lft h0.1 h0.2.2.2.1 (s := Γ0.length) Γ0.length (Δ.length + 1) C (Γ0.length + 1) (by omega)
    rw [show shl Γ0.length (Δ.length + 1) Γ0.length = (cA B C Γ0 Δ).length by unfold shl; rw [if_pos (Nat.le_refl _), n1], show Γ0.length + 1 + (Δ.length + 1) = (cA B C Γ0 Δ).length + 1 by omega] at this
    show PNs κ hb (cA B C Γ0 Δ).length ((cA B C Γ0 Δ).length + 1) (lft Γ0.length (Δ.length + 1) C) = true
    rw [this]; exact h0.2.1
  have kD : KK κ hb Γ0.length ((cA B C Γ0 Δ).length + 1) D := KK.all1 (a := upb Γ0 Δ B) ⟨s, s1, s2, s3⟩ |>.2
  have wD : Wn κ (cA B C Γ0 Δ).length s D = true := by
    rw [PNs_all, Bool.and_eq_true] at s3
    have eh : (hd (upb Γ0 Δ B) == hb) = true := by
      show (hd (lft _ _ B) == hb) = true
      rw [lft_hdb h0.2.2.2.1, h0.2.2.1]; simp
    simpa [eh] using s3.2
  have cwn : CW κ Γ0.length (cA B C Γ0 Δ).length s (cA B C Γ0 (upb Γ0 Δ B :: Δ)) := by
    intro j hj jk m hm
    have hj : j < (cA B C Γ0 Δ).length + 1 := hj
    have hm : (cA B C Γ0 Δ).length + 1 ≤ m := hm
    exact Wn_lack _ (men_gap (by omega) (by omega) _)
  obtain ⟨D', rfl⟩ := sy.shape.2.2 _ _ rfl
  refine ⟨⟨(ok_all.mp hA).2, ?_, oD, (ok_all.mp o4).2⟩, kC, kD, Or.inr ⟨(cA B C Γ0 Δ).length, s, by omega, Nat.lt_succ_self _, Nat.lt_succ_of_lt s2, cX, gap s s1 s2, wD, cwn⟩, ?_⟩
  · have := (ok_all.mp hB).2
    rw [← cAB_len] at this
    exact this
  · rcases sy with e | ⟨r, t, a1, a2, a3, a4, a5, a7⟩
    · exact Or.inl (by
        have : tAll (upb Γ0 Δ B) D' = tAll (upb Γ0 Δ B) D := e
        show D' = D
        unfold tAll at this; injection this with _ this; injection this)
    · rw [men_all, Bool.or_eq_false_iff] at a5
      have gb : men r (upb Γ0 Δ B) = false := men_gap a1 (by omega) B
      rw [ct_all, gb, Bool.false_and] at a4
      have ed : D' = ct κ r D := by
        have : tAll (upb Γ0 Δ B) D' = tAll (upb Γ0 Δ B) (ct κ r D) := a4
        unfold tAll at this; injection this with _ this; injection this
      exact Or.inr ⟨r, t, a1, Nat.lt_succ_of_lt a2, Nat.lt_succ_of_lt a3, ed, a5.2, Wn_lack _ (gap r a1 a2), a7.ext h0.1 a2 a3 (Wn_lack _ gb)⟩
end PmKe
