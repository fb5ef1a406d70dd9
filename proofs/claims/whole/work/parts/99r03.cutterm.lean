/-! TERMS IN A CONTEXT THAT IS CUT: budgets, and the numbers that are asked. -/
section PmR4
variable {N t0 fn s2 hv r0 r1 r2 r3 x0 E0 p pb : Nat} {n1 h : Nat → Nat} {P Q : List (List Nat)} {F G : FrT} {X : List Nat} {Z : Nat → Nat} {hb : Nat} {B C : Ty} {Γ0 : List Ty}
end PmR4
/-- the least place where the table has y -/
def lstX (X : List Nat) (y : Nat) : Nat := ((List.range 57).find? (fun c => Nat.ble y (X.getD c 0))).getD 57
theorem lstX_ok {X : List Nat} {y : Nat} (h : lstX X y ≤ 56) : y ≤ X.getD (lstX X y) 0 := by
  unfold lstX at h ⊢
  cases e : (List.range 57).find? (fun c => Nat.ble y (X.getD c 0)) with
  | none => rw [e] at h; exact absurd h (by decide)
  | some c =>
    have := List.find?_some e
    exact Nat.le_of_ble_eq_true this
