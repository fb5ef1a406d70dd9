/-! TERMS IN A CONTEXT THAT IS CUT: budgets, and the numbers that are asked. -/
/-- the least place where the table has y -/
def lstX (X : List Nat) (y : Nat) : Nat := ((List.range 57).find? (fun c => Nat.ble y (X.getD c 0))).getD 57
theorem lstX_ok {X : List Nat} {y : Nat} (h : lstX X y ≤ 56) : y ≤ X.getD (lstX X y) 0 := by
  unfold lstX at h ⊢
  cases e : (List.range 57).find? (fun c => Nat.ble y (X.getD c 0)) with
  | none => rw [e] at h; exact absurd h (by decide)
  | some c =>
    have := List.find?_some e
    exact Nat.le_of_ble_eq_true this
