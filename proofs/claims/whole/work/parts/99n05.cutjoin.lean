/-! JOINS WHERE A BOUND IS CUT: they keep what is asked for the cut, and are worth no more than both sides, the cut bound being worth what is left of it. -/
/-- one of two types may be cut at a variable that the other does not name so -/
def Cst (κ : Ty → Bool) (Γ : List Ty) (S S' T : Ty) : Prop := S' = S ∨ ∃ r, r < Γ.length ∧ S' = ct κ r S ∧ Pz κ r S = true ∧ Wo κ r T = true ∧ CWo κ r Γ
section PmN5
variable {κ : Ty → Bool} {Γ : List Ty}
theorem Cst.ok {S S' T : Ty} (h : Cst κ Γ S S' T) {d : Nat} (o : ok d S = true) : ok d S' = true := by
  rcases h with e | ⟨r, -, e, -⟩
  · rw [e]; exact o
  · rw [e]; exact ct_ok κ r _ S d (Nat.le_refl _) o
theorem Cst.var {S' T : Ty} {k : Nat} (h : Cst κ Γ (tVar k) S' T) : S' = tVar k := by
  rcases h with e | ⟨r, -, e, -⟩
  · exact e
  · rw [e]; rfl
/-- the other side exposed -/
theorem Cst.exp {S S' : Ty} {j : Nat} (h : Cst κ Γ S S' (tVar j)) (hj : j < Γ.length) : Cst κ Γ S S' (lft j (Γ.length - j) (bnd Γ j)) := by
  rcases h with e | ⟨r, hr, e, pz, -, cw⟩
  · exact Or.inl e
  · exact Or.inr ⟨r, hr, e, pz, cw.exp hj, cw⟩
theorem Cst.rec {m m' : Nat} {x y z x' y' z' S' : Ty} (h : Cst κ Γ (tRec m x y z) S' (tRec m' x' y' z')) : ∃ x1 y1 z1, S' = tRec m x1 y1 z1 ∧ Cst κ Γ x x1 x' ∧ Cst κ Γ y y1 y' ∧ Cst κ Γ z z1 z' := by
  rcases h with e | ⟨r, hr, e, pz, wo, cw⟩
  · exact ⟨x, y, z, e, Or.inl rfl, Or.inl rfl, Or.inl rfl⟩
  · rw [Pz_rec, Bool.and_eq_true, Bool.and_eq_true] at pz
    rw [Wo_rec, Bool.and_eq_true, Bool.and_eq_true] at wo
    rw [ct_rec] at e
    exact ⟨_, _, _, e, Or.inr ⟨r, hr, rfl, pz.1, wo.1, cw⟩, Or.inr ⟨r, hr, rfl, pz.2.1, wo.2.1, cw⟩, Or.inr ⟨r, hr, rfl, pz.2.2, wo.2.2, cw⟩⟩
theorem Cst.all (hκ : ∀ j m t, κ (lft j m t) = κ t) {a b b' S' : Ty} (h : Cst κ Γ (tAll a b) S' (tAll a b')) : ∃ b1, S' = tAll a b1 ∧ Cst κ (a :: Γ) b b1 b' := by
  rcases h with e | ⟨r, hr, e, pz, wo, cw⟩
  · exact ⟨b, e, Or.inl rfl⟩
  · rw [Wo_all, Bool.and_eq_true, Bool.and_eq_true] at wo
    have no : (men r a && κ a) = false := by
      have := wo.1
      rwa [Bool.not_eq_true'] at this
    rw [Pz_all, no, Bool.false_or, Bool.and_eq_true] at pz
    rw [ct_all, no] at e
    exact ⟨ct κ r b, e, Or.inr ⟨r, by rw [List.length_cons]; omega, rfl, pz.2, wo.2.2, cw.ext hκ hr pz.1⟩⟩
end PmN5
section PmN6
variable (κ : Ty → Bool) (hb : Nat) (B C : Ty) (Γ0 : List Ty)
/-- what is given once and for all -/
def CN0 : Prop := (∀ j m t, κ (lft j m t) = κ t) ∧ PNw κ hb (Γ0.length + 1) C = true ∧ Pz κ Γ0.length C = true ∧ hd B = hb ∧ hb < 16 ∧ nsch B = true ∧ ok Γ0.length B = true
def CNx (Δ : List Ty) : Prop := okc (cA B C Γ0 Δ) ∧ okc (cB κ B C Γ0 Δ) ∧ ∀ j, j < (cA B C Γ0 Δ).length → j ≠ Γ0.length → ∀ m, (cA B C Γ0 Δ).length ≤ m → PNw κ hb m (lft j (m - j) (bnd (cA B C Γ0 Δ) j)) = true
end PmN6
section PmN7
variable {κ : Ty → Bool} {hb : Nat} {B C : Ty} {Γ0 Δ : List Ty}
theorem CNx.ext (h0 : CN0 κ hb B C Γ0) (h : CNx κ hb B C Γ0 Δ) {a : Ty} (oa : ok (cA B C Γ0 Δ).length a = true) (pa : PNw κ hb (cA B C Γ0 Δ).length a = true) : CNx κ hb B C Γ0 (a :: Δ) := by
  refine ⟨⟨oa, h.1⟩, ⟨by show ok (cB κ B C Γ0 Δ).length a = true; rw [← cAB_len]; exact oa, h.2.1⟩, fun j hj ne m hm => ?_⟩
  have hj : j < (cA B C Γ0 Δ).length + 1 := hj
  have hm : (cA B C Γ0 Δ).length + 1 ≤ m := hm
  show PNw κ hb m (lft j (m - j) (if j = (cA B C Γ0 Δ).length then a else bnd (cA B C Γ0 Δ) j)) = true
  by_cases e : j = (cA B C Γ0 Δ).length
  · rw [if_pos e]
    have := PNw_lft h0.1 h0.2.2.2.2.1 j (m - j) a (cA B C Γ0 Δ).length (by omega)
    rw [show (cA B C Γ0 Δ).length + (m - j) = m by omega] at this
    rw [this]; exact pa
  · rw [if_neg e]
    exact h.2.2 j (by omega) ne m (by omega)
theorem CNx.exp (h : CNx κ hb B C Γ0 Δ) {j : Nat} (hj : j < (cA B C Γ0 Δ).length) (ne : j ≠ Γ0.length) : PNw κ hb (cA B C Γ0 Δ).length (lft j ((cA B C Γ0 Δ).length - j) (bnd (cA B C Γ0 Δ) j)) = true := h.2.2 j hj ne _ (Nat.le_refl _)
end PmN7
