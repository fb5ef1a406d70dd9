/-! FORMS IN A PLACE: of parts, of instances. -/
def FMn (t0 : Nat) (n1 : Nat → Nat) (s2 : Nat) (h : Nat → Nat) (x0 n : Nat) (t : Ty) (l a : Nat) : Prop := ∀ (x : Nat) (ω : List Nat), x0 ≤ x → ω.length = n → (∀ j, j < ω.length → vw ω j ≤ x) → nz t0 n1 s2 h ω t ≤ a + l * x
section PmKq
variable {t0 s2 x0 n : Nat} {n1 h : Nat → Nat} {t a b : Ty} {l l1 l2 c c1 c2 : Nat}
theorem FM.at (f : FM t0 n1 s2 h x0 t l c) (o : ok n t = true) : FMn t0 n1 s2 h x0 n t l c := fun x ω hx hn hω => f x ω hx hω (by rw [hn]; exact o)
theorem FMn.mono (f : FMn t0 n1 s2 h x0 n t l c) (h1 : l ≤ l1) (h2 : c ≤ c1) : FMn t0 n1 s2 h x0 n t l1 c1 := by
  intro x ω hx hn hω
  have := f x ω hx hn hω
  have := Nat.mul_le_mul_right x h1
  omega
theorem FMn.fun1 (f : FMn t0 n1 s2 h x0 n (tFun a b) l c) : FMn t0 n1 s2 h x0 n a l c ∧ FMn t0 n1 s2 h x0 n b l c := by
  refine ⟨fun x ω hx hn hω => ?_, fun x ω hx hn hω => ?_⟩
  · have := f x ω hx hn hω
    rw [nz_fun] at this; omega
  · have := f x ω hx hn hω
    rw [nz_fun] at this; omega
theorem FMn.rec1 {m : Nat} {x y z : Ty} (f : FMn t0 n1 s2 h x0 n (tRec m x y z) l c) : FMn t0 n1 s2 h x0 n x l c ∧ FMn t0 n1 s2 h x0 n y l c ∧ FMn t0 n1 s2 h x0 n z l c := by
  refine ⟨fun v ω hx hn hω => ?_, fun v ω hx hn hω => ?_, fun v ω hx hn hω => ?_⟩
  · have := f v ω hx hn hω
    rw [nz_rec] at this; omega
  · have := f v ω hx hn hω
    rw [nz_rec] at this; omega
  · have := f v ω hx hn hω
    rw [nz_rec] at this; omega
end PmKq
