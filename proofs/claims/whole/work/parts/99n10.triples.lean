/-! FORMS OF WHAT IS CUT: how often the variable counts (p), the other leaves (l) and what is left (a), by characters. -/
def FM3 (t0 : Nat) (n1 : Nat → Nat) (s2 : Nat) (h : Nat → Nat) (x0 w r : Nat) (t : Ty) (p l a : Nat) : Prop := (∀ (x : Nat) (ω : List Nat), x0 ≤ x → w ≤ x → r < ω.length → vw ω r ≤ w → (∀ j, j < ω.length → vw ω j ≤ x) → ok ω.length t = true → nz t0 n1 s2 h ω (ct kp2 r t) ≤ a + l * x) ∧ (∀ γ : List Nat, r < γ.length → vw γ r ≤ 1 → (∀ j, j < γ.length → j ≠ r → vw γ j = 0) → ok γ.length t = true → nz 0 (fun _ => 0) 0 (fun y => y) γ t ≤ p)
section PmNc
variable {t0 s2 hv x0 w r : Nat} {n1 h : Nat → Nat} {t a b : Ty} {p p1 p2 l l1 l2 c c1 c2 : Nat}
theorem FM3.mono (f : FM3 t0 n1 s2 h x0 w r t p l c) (h0 : p ≤ p1) (h1 : l ≤ l1) (h2 : c ≤ c1) : FM3 t0 n1 s2 h x0 w r t p1 l1 c1 := by
  refine ⟨fun x ω hx hw hr hp hω o => ?_, fun γ hr hp hγ o => Nat.le_trans (f.2 γ hr hp hγ o) h0⟩
  have := f.1 x ω hx hw hr hp hω o
  have := Nat.mul_le_mul_right x h1
  omega
end PmNc
