/-! WHAT THE TYPE OF A TERM IS WORTH: one recursion over the term. -/
/-- every bound variable is worth z at least -/
def hzx (h : Nat → Nat) (z y : Nat) : Nat := max z (h y)
