/-! ROWS THAT A STEP TAKES. -/
def trw (x : Tsk) : Nat := rwt (omr x.1) x.2.1 + rwt (omr x.1) x.2.2
def rws : List Tsk → Nat
  | [] => 0
  | x :: l => trw x + rws l
theorem rws_app : ∀ a b : List Tsk, rws (a ++ b) = rws a + rws b
  | [], b => by simp [rws]
  | x :: a, b => by
    show trw x + rws (a ++ b) = trw x + rws a + rws b
    rw [rws_app a b]; omega
def rst (s t : Ty) : Nat := if hd t = 0 ∨ (16 ≤ hd s ∧ hd s = hd t) then 0 else if 16 ≤ hd s then 1 else if hd s = 2 ∧ hd t = 2 then 1 else 0
theorem rst_all (A C A' C' : Ty) : rst (tAll A C) (tAll A' C') = 1 := by
  unfold rst
  rw [if_neg (by rw [hd_all, hd_all]; omega), if_neg (by rw [hd_all]; omega), if_pos ⟨hd_all _ _, hd_all _ _⟩]
theorem rst_var {k : Nat} {t : Ty} (h : ¬ (hd t = 0 ∨ 16 + k = hd t)) : rst (tVar k) t = 1 := by
  unfold rst
  rw [if_neg (by rw [hd_var]; omega), if_pos (by rw [hd_var]; omega)]
theorem rst_le (s t : Ty) : rst s t ≤ 1 := by
  unfold rst
  split
  · omega
  · split
    · omega
    · split <;> omega
theorem stl_r {Γ : List Ty} {m k : Nat} {x y : Ty} : rws (stl Γ m k x y) ≤ rwt (omr Γ) x + rwt (omr Γ) y := by
  unfold stl
  split
  · show (rwt (omr Γ) x + rwt (omr Γ) y) + 0 ≤ _
    omega
  · exact Nat.zero_le _

