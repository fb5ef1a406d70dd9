/-! LONG SCHEMES BY NATURE, where Delta holds ten characters: numbers. -/
def ldc (L : LnT) (P : List (List Nat)) (F W : FrT) (X : List Nat) (hv wB Bd : Nat) : Bool := (List.range 48).all (fun c => (lng L c).all (fun s => (List.range 16).all (fun m => Nat.blt m 3 || (Nat.blt 58 (c + 10 + 2 * m) || smZ1 P F W X hv s.2.2.1 s.2.2.2.1 wB s.2.2.2.2.1 s.2.2.2.2.2 s.1 s.2.1 (58 - 2 * m - c) m Bd))))
