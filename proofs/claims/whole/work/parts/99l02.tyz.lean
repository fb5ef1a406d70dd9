/-! WHAT THE TYPE OF A TERM IS WORTH: one recursion over the term. -/
/-- every bound variable is worth z at least -/
def hzx (h : Nat → Nat) (z y : Nat) : Nat := max z (h y)
section PmL2
variable {t0 s2 : Nat} {n1 h h' : Nat → Nat}
end PmL2
