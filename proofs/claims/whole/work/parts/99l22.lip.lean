/-! HOW MUCH A TYPE'S WORTH GROWS WITH THE WORTH OF A VARIABLE: as often as the variable stands in it, written out. -/
theorem vlr_lip (b : Bool) (e : Nat) : ∀ y δ, vlr b e (y + δ) ≤ vlr b e y + δ := by
  intro y δ
  unfold vlr
  split <;> omega
