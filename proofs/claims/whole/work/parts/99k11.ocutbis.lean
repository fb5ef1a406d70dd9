/-! THE CUT WALK GOES LIKE THE WALK. -/
section PmKd
variable (κ : Ty → Bool) (hb : Nat) (B C : Ty) (Γ0 : List Ty)
/-- the two contexts -/
def cA (Δ : List Ty) : List Ty := cxs Δ Γ0 (tAll B C)
def cB (Δ : List Ty) : List Ty := cxs Δ Γ0 (tAll B (ct κ Γ0.length C))
def CG (Δ : List Ty) : Prop := okc (cA B C Γ0 Δ) ∧ okc (cB κ B C Γ0 Δ) ∧ CXI κ hb Γ0.length (cA B C Γ0 Δ)
/-- what is given once and for all -/
def CH0 : Prop := (∀ j m t, κ (lft j m t) = κ t) ∧ PNs κ hb Γ0.length (Γ0.length + 1) C = true ∧ hd B = hb ∧ hb < 16 ∧ nsch B = true ∧ ok Γ0.length B = true
end PmKd
section PmKe
variable {κ : Ty → Bool} {hb : Nat} {B C : Ty} {Γ0 Δ : List Ty}
theorem cAB_len : (cA B C Γ0 Δ).length = (cB κ B C Γ0 Δ).length := by unfold cA cB; rw [cxs_len, cxs_len]
/-- another variable, exposed -/
theorem CG.ex (h : CG κ hb B C Γ0 Δ) {j : Nat} (hj : j < (cA B C Γ0 Δ).length) (ne : j ≠ Γ0.length) : exps (cA B C Γ0 Δ) (tVar j) = exps (cB κ B C Γ0 Δ) (tVar j) ∧ ok (cA B C Γ0 Δ).length (exps (cA B C Γ0 Δ) (tVar j)) = true ∧ KK κ hb Γ0.length (cA B C Γ0 Δ).length (exps (cA B C Γ0 Δ) (tVar j)) := by
  rw [exps_var, exps_var]
  refine ⟨?_, ok_expose h.1 hj, h.2.2 j hj ne _ (Nat.le_refl _)⟩
  rw [cAB_len (κ := κ)]
  unfold cA cB
  rw [cxs_other Γ0 _ _ ne]
theorem CG.tok (h : CG κ hb B C Γ0 Δ) {X Y X' Y' : Ty} (o1 : ok (cA B C Γ0 Δ).length X = true) (o2 : ok (cA B C Γ0 Δ).length X' = true) (o3 : ok (cA B C Γ0 Δ).length Y = true) (o4 : ok (cA B C Γ0 Δ).length Y' = true) : tok (cA B C Γ0 Δ, X, Y) ∧ tok (cB κ B C Γ0 Δ, X', Y') :=
  ⟨⟨h.1, o1, o3⟩, ⟨h.2.1, by show ok (cB κ B C Γ0 Δ).length X' = true; rw [← cAB_len]; exact o2, by show ok (cB κ B C Γ0 Δ).length Y' = true; rw [← cAB_len]; exact o4⟩⟩
/-- a bound that both have: one more variable -/
theorem CG.ext (h0 : CH0 κ hb B C Γ0) (h : CG κ hb B C Γ0 Δ) {a : Ty} (oa : ok (cA B C Γ0 Δ).length a = true) (ka : KK κ hb Γ0.length (cA B C Γ0 Δ).length a) : CG κ hb B C Γ0 (a :: Δ) :=
  ⟨⟨oa, h.1⟩, ⟨by show ok (cB κ B C Γ0 Δ).length a = true; rw [← cAB_len]; exact oa, h.2.1⟩, h.2.2.ext h0.1 h0.2.2.2.1 ka⟩
/-- one side exposed -/
theorem SE.exp {X X' : Ty} (hs : SE κ Γ0.length (cA B C Γ0 Δ) X X') {Y : Ty} (hw : ∀ r s, CW κ Γ0.length r s (cA B C Γ0 Δ) → Wn κ r s Y = true) : SD κ Γ0.length (cA B C Γ0 Δ) X X' Y := by
  rcases hs with e | ⟨r, s, a1, a2, a3, a4, a5, a7⟩
  · exact Or.inl e
  · exact Or.inr ⟨r, s, a1, a2, a3, a4, a5, hw r s a7, a7⟩
theorem GT.exp (h : CG κ hb B C Γ0 Δ) {Y Y' : Ty} {j : Nat} (hj : j < (cA B C Γ0 Δ).length) (ne : j ≠ Γ0.length) (o3 : ok (cA B C Γ0 Δ).length Y = true) (o4 : ok (cA B C Γ0 Δ).length Y' = true) (ky : KK κ hb Γ0.length (cA B C Γ0 Δ).length Y) (sy : SE κ Γ0.length (cA B C Γ0 Δ) Y Y') : GT κ hb Γ0.length (cA B C Γ0 Δ) (exps (cA B C Γ0 Δ) (tVar j)) (exps (cB κ B C Γ0 Δ) (tVar j)) Y Y' := by
  obtain ⟨e, o, kk⟩ := h.ex hj ne
  rw [← e]
  refine ⟨⟨o, o, o3, o4⟩, kk, ky, Or.inl rfl, sy.exp (fun r s hw => ?_)⟩
  rw [exps_var]
  exact hw j hj ne _ (Nat.le_refl _)
end PmKe
