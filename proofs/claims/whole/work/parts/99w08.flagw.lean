/-! A LONG SCHEME WITH A CERTAIN SCHEME INSIDE: numbers for all terms without a choice under an operation. -/
def nxt : List (Nat × Nat × Nat) := [(26, 0, 0), (31, 0, 0), (32, 0, 0), (33, 0, 0), (34, 0, 0)]
def nxa : List (Nat × Nat × Nat) := [(23, 0, 0), (24, 0, 0), (24, 0, 9), (24, 0, 10), (25, 0, 0), (25, 0, 9), (26, 0, 0)]
