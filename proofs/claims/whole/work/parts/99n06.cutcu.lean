/-! JOINS IN A CONTEXT THAT IS CUT. -/
section PmN8
variable {κ : Ty → Bool} {hb : Nat} {B C : Ty} {Γ0 : List Ty} {t0 s2 : Nat} {n1 h : Nat → Nat}
/-- what a join gives: nothing that names itself, worth no more than both -/
def CRs (κ : Ty → Bool) (hb t0 : Nat) (n1 : Nat → Nat) (s2 : Nat) (h : Nat → Nat) (ω : List Nat) (d : Nat) (R S' T' : Ty) : Prop := PNw κ hb d R = true ∧ nz t0 n1 s2 h ω R ≤ nz t0 n1 s2 h ω S' + nz t0 n1 s2 h ω T'
theorem CRs.swap {ω : List Nat} {d : Nat} {R S' T' : Ty} (q : CRs κ hb t0 n1 s2 h ω d R S' T') : CRs κ hb t0 n1 s2 h ω d R T' S' := ⟨q.1, by have := q.2; omega⟩
end PmN8
