/-! WHAT THE TYPE OF A TERM IS WORTH in a context that is cut: by nature, and under one @ (the first header raised). -/
/-- what the bounds are worth, the first header raised -/
def eb1 (t0 : Nat) (n1 : Nat → Nat) (s2 : Nat) (h : Nat → Nat) : List Nat → List Ty → Nat → Nat
  | _ :: ω, b :: Γ, z => max (nz1 t0 n1 s2 h z ω b) (eb1 t0 n1 s2 h ω Γ z)
  | _, _, _ => 0
/-- the same without schemes -/
def eb7 (t0 : Nat) (n1 : Nat → Nat) (s2 : Nat) (h : Nat → Nat) : List Nat → List Ty → Nat → Nat
  | _ :: ω, b :: Γ, z => max (if hd b = 2 then 0 else nz1 t0 n1 s2 h z ω b) (eb7 t0 n1 s2 h ω Γ z)
  | _, _, _ => 0
