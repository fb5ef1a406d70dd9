/-! BUDGETS OF TERMS WHERE AT MOST ONE INSTANCE WAITS, for any E. -/
def cnS : Stk → Nat
  | [] => 0
  | none :: ρ => cnS ρ
  | some _ :: ρ => cnS ρ + 1
/-- no instance under an instance -/
def NQk : Nat → Ty → Nat → Prop
  | 0, _, _ => True
  | f + 1, t, n => (nKd t = 6 → NQk f (nY t) n) ∧ (nKd t = 7 ∨ nKd t = 11 → NQk f (nX t) n) ∧ (nKd t = 8 → NQk f (nY t) (n - 1)) ∧ (nKd t = 9 → n = 0 ∧ NQk f (nX t) 1) ∧ (nKd t = 10 → ∀ g, g < 3 → bit (nMk t) g = true → NQk f (nP t g) n) ∧ (nKd t = 12 → NQk f (nX t) n ∧ NQk f (nY t) n)
section PmR1
variable {N t0 fn s2 hv r0 r1 r2 r3 x0 E0 p : Nat} {n1 h : Nat → Nat} {E : Stk → Nat} {P Q : List (List Nat)} {F G : FrT} {X : List Nat} {Z : Nat → Nat}
theorem vz_upE (hEm : ∀ q ρ, E ρ ≤ E (q :: ρ)) (hm : ∀ y y', y ≤ y' → h y ≤ h y') : ∀ (f : Nat) (t : Ty) (π : Stk) (ω : List Nat), (flat t).length ≤ f → ok ω.length t = true → vz t0 n1 s2 h E t π ω ≤ max (E π) (nz t0 n1 s2 (hzx h (zm π)) ω t)
  | 0, t, π, ω, hf, o => by have := flat_pos o; omega
  | f + 1, t, π, ω, hf, o => by
    cases π with
    | nil =>
      rw [vz_no o]
      have := nz_mono (t0 := t0) (n1 := n1) (s2 := s2) (h_hzx hm (zm [])) _ t ω ω (Nat.le_refl _) rfl o (fun j _ => Nat.le_refl _)
      omega
    | cons q ρ =>
      have et := hEm q ρ
      rcases ok_cases o with rfl | ⟨j, hj, rfl⟩ | ⟨a, c, rfl, ha, hb⟩ | ⟨a, c, rfl, ha, hb⟩ | ⟨m, x, y, z, hm', rfl, h0, h1, h2⟩
      · rw [vz_top]; exact Nat.zero_le _
      · rw [vz_var]; exact Nat.le_max_left _ _
      · rw [flat_fun, List.length_cons, List.length_append] at hf
        cases q with
        | none =>
          rw [vz_funN, nz_fun]
          have q1 := vz_upE hEm hm f c ρ ω (by omega) hb
          have ez : zm (none :: ρ) = zm ρ := rfl
          rw [ez]; omega
        | some w => rw [vz_funS]; exact Nat.zero_le _
      · rw [flat_all, List.length_cons, List.length_append] at hf
        cases q with
        | none => rw [vz_allN]; exact Nat.zero_le _
        | some w =>
          rw [vz_allS, nz_all]
          have q1 := vz_upE hEm hm f c ρ (hzx h w (nz t0 n1 s2 h ω a) :: ω) (by omega) (by rw [List.length_cons]; exact hb)
          have ez : zm (some w :: ρ) = max w (zm ρ) := rfl
          have qa := nz_mono (t0 := t0) (n1 := n1) (s2 := s2) (h_hzx hm (max w (zm ρ))) _ a ω ω (Nat.le_refl _) rfl ha (fun j _ => Nat.le_refl _)
          have q2 := nz_mono (t0 := t0) (n1 := n1) (s2 := s2) (hzx_le hm (Nat.le_max_right w (zm ρ))) _ c (hzx h w (nz t0 n1 s2 h ω a) :: ω) (hzx h (max w (zm ρ)) (nz t0 n1 s2 (hzx h (max w (zm ρ))) ω a) :: ω) (Nat.le_refl _) rfl (by rw [List.length_cons]; exact hb) (fun j hj => by
            rw [vw_cons, vw_cons]
            by_cases e : j = ω.length
            · rw [if_pos e, if_pos e]
              exact hzx_le hm (Nat.le_max_left _ _) _ _ qa
            · rw [if_neg e, if_neg e]; exact Nat.le_refl _)
          rw [ez]; omega
      · rw [flat_rec, List.length_cons, List.length_append, List.length_append] at hf
        cases q with
        | some w => rw [vz_recS]; exact Nat.zero_le _
        | none =>
          have ez : zm (none :: ρ) = zm ρ := rfl
          have key : ∀ (i : Nat) (r : Ty), (flat r).length ≤ f → okl ω.length m i r → vz t0 n1 s2 h E r ρ ω ≤ max (E ρ) (nz t0 n1 s2 (hzx h (zm ρ)) ω r) := by
            intro i r hp ho
            unfold okl at ho
            by_cases hb : bit m i = true
            · rw [if_pos hb] at ho
              exact vz_upE hEm hm f r ρ ω hp ho
            · rw [if_neg hb] at ho
              rw [ho, vz_nil]; exact Nat.zero_le _
          rw [vz_recN, nz_rec, ez]
          have q0 := key 0 x (by omega) h0
          have q1 := key 1 y (by omega) h1
          have q2 := key 2 z (by omega) h2
          omega
section
variable {t : Ty} {π : Stk} {ω : List Nat} {Γ : List Ty} {Δ : List (Nat × Ty × Nat)} {cv cd s0 f : Nat}
end
end PmR1
