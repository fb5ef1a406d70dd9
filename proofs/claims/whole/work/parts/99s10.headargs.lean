/-! ARGUMENTS, heads counted exactly: what they are worth, and their parts. -/
/-- a head of s characters has an argument of s - 2 -/
def Zx (F : FrT) (x s : Nat) : Nat := (frg F (s - 2)).foldr (fun u a => max (u.2 + u.1 * x) a) 0
theorem Zx_mem {x : Nat} : ∀ (l : List (Nat × Nat)) (u : Nat × Nat), u ∈ l → u.2 + u.1 * x ≤ l.foldr (fun u a => max (u.2 + u.1 * x) a) 0
  | [], u, h => by cases h
  | a :: l, u, h => by
    rw [List.foldr_cons]
    rcases List.mem_cons.mp h with e | e
    · rw [e]; exact Nat.le_max_left _ _
    · exact Nat.le_trans (Zx_mem l u e) (Nat.le_max_right _ _)
section PmS10
variable {N t0 fn s2 hv r0 r1 r2 r3 x0 X7 x : Nat} {n1 h : Nat → Nat} {E : Stk → Nat} {P Q : List (List Nat)} {F G : FrT} {X : List Nat}
theorem Zx_le (T : TBs N t0 fn s2 hv r0 r1 r2 r3 x0 n1 h P Q F G X) {ω : List Nat} {A : Ty} (o : ok ω.length A = true) (hk : tch A ≤ 56) (hy : x0 ≤ x) (hw : ∀ j, j < ω.length → vw ω j ≤ x) : nz t0 n1 s2 h ω A ≤ Zx F x (tch A + 2) := by
  obtain ⟨p, hp, q⟩ := val_any T o hk hy hw
  exact Nat.le_trans q (Zx_mem (frg F (tch A)) p hp)
/-- a part that binds nothing -/
theorem vz_pt (hEm : ∀ q ρ, E ρ ≤ E (q :: ρ)) (hE7 : ∀ ρ, X7 ≤ E ρ) (hm : ∀ y y', y ≤ y' → h y ≤ h y') {b : Ty} {ω : List Nat} (o : ok ω.length b = true) (hv : nz t0 n1 s2 h ω b ≤ X7) (ns : nsch b = true) (q : Option Nat) (ρ : Stk) : vz t0 n1 s2 h E b ρ ω ≤ E (q :: ρ) := by
  have q1 := vz_upE (t0 := t0) (n1 := n1) (s2 := s2) hEm hm _ b ρ ω (Nat.le_refl _) o
  rw [nz_nsch _ b ω (Nat.le_refl _) o ns] at q1
  have q2 := hE7 (q :: ρ)
  have q3 := hEm q ρ
  omega
theorem vz_fh (hEm : ∀ q ρ, E ρ ≤ E (q :: ρ)) (hE7 : ∀ ρ, X7 ≤ E ρ) (hm : ∀ y y', y ≤ y' → h y ≤ h y') {a b : Ty} {ω : List Nat} (o : ok ω.length b = true) (hv : nz t0 n1 s2 h ω b ≤ X7) (ns : nsch b = true) (ρ : Stk) (hρ : ρ ≠ []) : vz t0 n1 s2 h E (tFun a b) ρ ω ≤ E ρ := by
  cases ρ with
  | nil => exact absurd rfl hρ
  | cons q ρ =>
    cases q with
    | none => rw [vz_funN]; exact vz_pt hEm hE7 hm o hv ns none ρ
    | some z => rw [vz_funS]; exact Nat.zero_le _
theorem vz_vh (ω : List Nat) (k : Nat) (ρ : Stk) (hρ : ρ ≠ []) : vz t0 n1 s2 h E (tVar k) ρ ω ≤ E ρ := by
  cases ρ with
  | nil => exact absurd rfl hρ
  | cons q ρ => rw [vz_var]; exact Nat.le_refl _
theorem vz_rh (hEm : ∀ q ρ, E ρ ≤ E (q :: ρ)) (hE7 : ∀ ρ, X7 ≤ E ρ) (hm : ∀ y y', y ≤ y' → h y ≤ h y') {m : Nat} {a b c : Ty} {ω : List Nat} (k : ∀ p, p = a ∨ p = b ∨ p = c → p = .nil ∨ (ok ω.length p = true ∧ nz t0 n1 s2 h ω p ≤ X7 ∧ nsch p = true)) (ρ : Stk) (hρ : ρ ≠ []) : vz t0 n1 s2 h E (tRec m a b c) ρ ω ≤ E ρ := by
  cases ρ with
  | nil => exact absurd rfl hρ
  | cons q ρ =>
    cases q with
    | none =>
      have key : ∀ p, p = a ∨ p = b ∨ p = c → vz t0 n1 s2 h E p ρ ω ≤ E (none :: ρ) := by
        intro p hp
        rcases k p hp with e | ⟨o, hv, ns⟩
        · rw [e, vz_nil]; exact Nat.zero_le _
        · exact vz_pt hEm hE7 hm o hv ns none ρ
      rw [vz_recN]
      exact Nat.max_le.mpr ⟨key a (Or.inl rfl), Nat.max_le.mpr ⟨key b (Or.inr (Or.inl rfl)), key c (Or.inr (Or.inr rfl))⟩⟩
    | some z => rw [vz_recS]; exact Nat.zero_le _
end PmS10
