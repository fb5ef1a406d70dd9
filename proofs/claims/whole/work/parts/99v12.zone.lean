/-! THE ZONE IN WHICH NATURE IS ENOUGH. -/
abbrev LmT : Type := List (List (Nat × Nat × Nat × Nat × Nat))
def lmg (L : LmT) (c : Nat) : List (Nat × Nat × Nat × Nat × Nat) := L.getD c []
/-- the zone: other schemes or none, k, q1, q2 -/
def zn (o : Bool) (k q1 q2 : Nat) : Bool := Nat.ble k 21 && (Nat.ble k 17 || Nat.ble q2 8) && (!o || (Nat.ble q1 16 && Nat.ble q2 16))
def zob (o : Bool) (q1 q2 : Nat) : Nat := if o then max (lmx fr1 (q1 - 4)) (lmx fr1 (q2 - 4)) else 0
