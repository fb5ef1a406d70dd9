/-! THE INSTANCE OF A SCHEME OF THE CONTEXT: its form is the body's. -/
theorem FMn_inst {t0 s2 x0 : Nat} {n1 h : Nat → Nat} {C Q : Ty} {Γ0 Δ : List Ty} {l c l1 c1 : Nat} (oC : ok (Γ0.length + 1) C = true) (oQ : ok (Γ0.length + (Δ.length + 1)) Q = true) (f : FM t0 n1 s2 h x0 C l c) (g : FMn t0 n1 s2 h x0 (Γ0.length + (Δ.length + 1)) Q l1 c1) : FMn t0 n1 s2 h x0 (Γ0.length + (Δ.length + 1)) (sbt (Γ0.length + (Δ.length + 1)) Q 0 (upb Γ0 Δ C)) (l * max 1 l1) (c + l * c1) := by
  have ou : ok (Γ0.length + (Δ.length + 1) + 1) (upb Γ0 Δ C) = true := by
    have := ok_lft Γ0.length (Δ.length + 1) C 1 oC
    exact this
  refine FMn_sbt oQ ou ?_ g
  intro x ω hx hn hω
  obtain ⟨y, ω1, rfl⟩ : ∃ y ω1, ω = y :: ω1 := by
    cases ω with
    | nil => simp at hn
    | cons y ω1 => exact ⟨y, ω1, rfl⟩
  rw [List.length_cons] at hn
  obtain ⟨ν, ω0, e1, e2, e3⟩ : ∃ ν ω0 : List Nat, ω1 = ν ++ ω0 ∧ ν.length = Δ.length + 1 ∧ ω0.length = Γ0.length := ⟨ω1.take (Δ.length + 1), ω1.drop (Δ.length + 1), (List.take_append_drop _ ω1).symm, by rw [List.length_take]; omega, by rw [List.length_drop]; omega⟩
  subst e1
  have e := nz_lft (t0 := t0) (n1 := n1) (s2 := s2) (h := h) ν ω0 _ C [y] (Nat.le_refl _) (by rw [e3]; exact oC)
  rw [e2, e3] at e
  show nz t0 n1 s2 h ([y] ++ (ν ++ ω0)) (lft Γ0.length (Δ.length + 1) C) ≤ _
  rw [e]
  refine f x ([y] ++ ω0) hx (fun j hj => ?_) (by rw [List.length_append, List.length_singleton, e3, Nat.add_comm]; exact oC)
  rw [List.length_append, List.length_singleton] at hj
  show vw (y :: ω0) j ≤ x
  rw [vw_cons]
  by_cases ej : j = ω0.length
  · rw [if_pos ej]
    have := hω (ν ++ ω0).length (by rw [List.length_cons]; omega)
    rw [vw_cons, if_pos rfl] at this
    exact this
  · rw [if_neg ej]
    have := hω j (by rw [List.length_cons, List.length_append]; omega)
    rw [vw_cons, if_neg (by rw [List.length_append]; omega), vw_app_lo ν ω0 j (by omega)] at this
    exact this
