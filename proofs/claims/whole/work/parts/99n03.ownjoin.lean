/-! JOINS name no more of a variable in bounds: what one side alone has is lost. -/
def CWo (κ : Ty → Bool) (r : Nat) (Γ : List Ty) : Prop := ∀ j, j < Γ.length → ∀ m, Γ.length ≤ m → Wo κ r (lft j (m - j) (bnd Γ j)) = true
section PmN3
variable {κ : Ty → Bool}
theorem CWo.ext (hκ : ∀ j m t, κ (lft j m t) = κ t) {r : Nat} {Γ : List Ty} (h : CWo κ r Γ) {a : Ty} (hr : r < Γ.length) (ha : Wo κ r a = true) : CWo κ r (a :: Γ) := by
  intro j hj m hm
  rw [List.length_cons] at hj hm
  show Wo κ r (lft j (m - j) (if j = Γ.length then a else bnd Γ j)) = true
  by_cases e : j = Γ.length
  · rw [if_pos e]
    have := Wo_lft hκ (r := r) j (m - j) a
    rw [show shl j (m - j) r = r by unfold shl; rw [if_neg (by omega)]] at this
    rw [this]; exact ha
  · rw [if_neg e]
    exact h j (by omega) m (by omega)
/-- of a variable that is just bound nothing around tells -/
theorem CWo.new {Γ : List Ty} (a : Ty) : CWo κ Γ.length (a :: Γ) := by
  intro j hj m hm
  rw [List.length_cons] at hj hm
  exact Wo_lack _ (men_gap (by omega) (by omega) _)
theorem CWo.exp {r : Nat} {Γ : List Ty} (h : CWo κ r Γ) {j : Nat} (hj : j < Γ.length) : Wo κ r (lft j (Γ.length - j) (bnd Γ j)) = true := h j hj _ (Nat.le_refl _)
end PmN3
