/-! ARGUMENTS, heads counted exactly: what they are worth, and their parts. -/
/-- a head of s characters has an argument of s - 2 -/
def Zx (F : FrT) (x s : Nat) : Nat := (frg F (s - 2)).foldr (fun u a => max (u.2 + u.1 * x) a) 0
theorem Zx_mem {x : Nat} : ∀ (l : List (Nat × Nat)) (u : Nat × Nat), u ∈ l → u.2 + u.1 * x ≤ l.foldr (fun u a => max (u.2 + u.1 * x) a) 0
  | [], u, h => by cases h
  | a :: l, u, h => by
    rw [List.foldr_cons]
    rcases List.mem_cons.mp h with e | e
    · rw [e]; exact Nat.le_max_left _ _
    · exact Nat.le_trans (Zx_mem l u e) (Nat.le_max_right _ _)
section PmS10
variable {N t0 fn s2 hv r0 r1 r2 r3 x0 X7 x : Nat} {n1 h : Nat → Nat} {E : Stk → Nat} {P Q : List (List Nat)} {F G : FrT} {X : List Nat}
theorem Zx_le (T : TBs N t0 fn s2 hv r0 r1 r2 r3 x0 n1 h P Q F G X) {ω : List Nat} {A : Ty} (o : ok ω.length A = true) (hk : tch A ≤ 56) (hy : x0 ≤ x) (hw : ∀ j, j < ω.length → vw ω j ≤ x) : nz t0 n1 s2 h ω A ≤ Zx F x (tch A + 2) := by
  obtain ⟨p, hp, q⟩ := val_any T o hk hy hw
  exact Nat.le_trans q (Zx_mem (frg F (tch A)) p hp)
end PmS10
