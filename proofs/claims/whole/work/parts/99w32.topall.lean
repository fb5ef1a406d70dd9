/-! LONG SCHEMES WITH BOUND TOP: put together. -/
def h22 : List (Nat × Nat × Nat) := [(18, 0, 13), (22, 0, 9)]
section PmWJ
variable {f : Nat} {x y C : Ty} {Γ0 Δ1 : List Ty} {Δ : List (Nat × Ty × Nat)}
end PmWJ
