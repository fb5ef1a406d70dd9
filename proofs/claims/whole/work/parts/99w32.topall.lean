/-! LONG SCHEMES WITH BOUND TOP: put together. -/
def h22 : List (Nat × Nat × Nat) := [(18, 0, 13), (22, 0, 9)]
