/-! FORMS IN A PLACE: of parts, of instances. -/
def FMn (t0 : Nat) (n1 : Nat → Nat) (s2 : Nat) (h : Nat → Nat) (x0 n : Nat) (t : Ty) (l a : Nat) : Prop := ∀ (x : Nat) (ω : List Nat), x0 ≤ x → ω.length = n → (∀ j, j < ω.length → vw ω j ≤ x) → nz t0 n1 s2 h ω t ≤ a + l * x
section PmKq
variable {t0 s2 x0 n : Nat} {n1 h : Nat → Nat} {t a b : Ty} {l l1 l2 c c1 c2 : Nat}
theorem FM.at (f : FM t0 n1 s2 h x0 t l c) (o : ok n t = true) : FMn t0 n1 s2 h x0 n t l c := fun x ω hx hn hω => f x ω hx hω (by rw [hn]; exact o)
theorem FMn.mono (f : FMn t0 n1 s2 h x0 n t l c) (h1 : l ≤ l1) (h2 : c ≤ c1) : FMn t0 n1 s2 h x0 n t l1 c1 := by
  intro x ω hx hn hω
  have := f x ω hx hn hω
  have := Nat.mul_le_mul_right x h1
  omega
theorem FMn.fun1 (f : FMn t0 n1 s2 h x0 n (tFun a b) l c) : FMn t0 n1 s2 h x0 n a l c ∧ FMn t0 n1 s2 h x0 n b l c := by
  refine ⟨fun x ω hx hn hω => ?_, fun x ω hx hn hω => ?_⟩
  · have := f x ω hx hn hω
    rw [nz_fun] at this; omega
  · have := f x ω hx hn hω
    rw [nz_fun] at this; omega
theorem FMn.rec1 {m : Nat} {x y z : Ty} (f : FMn t0 n1 s2 h x0 n (tRec m x y z) l c) : FMn t0 n1 s2 h x0 n x l c ∧ FMn t0 n1 s2 h x0 n y l c ∧ FMn t0 n1 s2 h x0 n z l c := by
  refine ⟨fun v ω hx hn hω => ?_, fun v ω hx hn hω => ?_, fun v ω hx hn hω => ?_⟩
  · have := f v ω hx hn hω
    rw [nz_rec] at this; omega
  · have := f v ω hx hn hω
    rw [nz_rec] at this; omega
  · have := f v ω hx hn hω
    rw [nz_rec] at this; omega
/-- an instance: the leaves become the argument -/
theorem FMn_sbt {Q : Ty} (oQ : ok n Q = true) (ob : ok (n + 1) b = true) (f : FMn t0 n1 s2 h x0 (n + 1) b l c) (g : FMn t0 n1 s2 h x0 n Q l1 c1) : FMn t0 n1 s2 h x0 n (sbt n Q 0 b) (l * max 1 l1) (c + l * c1) := by
  intro x ω hx hn hω
  have q1 := g x ω hx hn hω
  have e := nz_sbt (t0 := t0) (n1 := n1) (s2 := s2) (h := h) Q ω (by rw [hn]; exact oQ) _ b [] (Nat.le_refl _) (by rw [hn]; exact ob)
  rw [List.nil_append, List.nil_append, hn, List.length_nil] at e
  rw [e]
  have m1 : x ≤ max 1 l1 * x := by
    have := Nat.mul_le_mul_right x (Nat.le_max_left 1 l1)
    omega
  have m2 : l1 * x ≤ max 1 l1 * x := Nat.mul_le_mul_right x (Nat.le_max_right 1 l1)
  have q2 := f (c1 + max 1 l1 * x) (nz t0 n1 s2 h ω Q :: ω) (by omega) (by rw [List.length_cons, hn]) (fun j hj => by
    rw [vw_cons]
    by_cases ej : j = ω.length
    · rw [if_pos ej]; omega
    · rw [if_neg ej]
      have := hω j (by rw [List.length_cons] at hj; omega)
      omega)
  have e1 : l * (c1 + max 1 l1 * x) = l * c1 + l * max 1 l1 * x := by rw [Nat.mul_add, Nat.mul_assoc]
  omega
theorem FMn_var {k : Nat} (hk : k < n) : FMn t0 n1 s2 h x0 n (tVar k) 1 0 := by
  intro x ω _ hn hω
  rw [nz_var]
  have := hω k (by omega)
  omega
/-- what is lifted has the same form -/
theorem FM_lft {k j : Nat} (f : FMn t0 n1 s2 h x0 k t l c) (o : ok k t = true) : FMn t0 n1 s2 h x0 (k + j) (lft k j t) l c := by
  intro x ω hx hn hω
  obtain ⟨ν, ω0, e1, e2, e3⟩ : ∃ ν ω0 : List Nat, ω = ν ++ ω0 ∧ ν.length = j ∧ ω0.length = k := ⟨ω.take j, ω.drop j, (List.take_append_drop j ω).symm, by rw [List.length_take]; omega, by rw [List.length_drop]; omega⟩
  subst e1
  have e := nz_lft (t0 := t0) (n1 := n1) (s2 := s2) (h := h) ν ω0 _ t [] (Nat.le_refl _) (by rw [e3]; exact o)
  rw [List.nil_append, List.nil_append, e2, e3] at e
  rw [e]
  refine f x ω0 hx e3 (fun i hi => ?_)
  have := hω i (by rw [List.length_append]; omega)
  rw [vw_app_lo ν ω0 i hi] at this
  exact this
end PmKq
