/-! LONGER CHAINS OF VARIABLES COST A NODE MORE EACH. -/
theorem vlr_add (b : Bool) (e : Nat) {y y1 g : Nat} (q : y ≤ y1 + e * g) : vlr b (1 + e) y ≤ vlr b 1 y1 + e * max 1 g := by
  have m1 := Nat.mul_le_mul_left e (Nat.le_max_left 1 g)
  have m2 := Nat.mul_le_mul_left e (Nat.le_max_right 1 g)
  rw [Nat.mul_one] at m1
  unfold vlr
  split <;> omega
theorem nz_add (b : Bool) (e : Nat) : ∀ (f : Nat) (t : Ty) (ω ω1 ωG : List Nat), (flat t).length ≤ f → ω1.length = ω.length → ωG.length = ω.length → ok ω.length t = true → (∀ j, j < ω.length → vw ω j ≤ vw ω1 j + e * vw ωG j) → nz 0 (fun _ => 1 + (1 + e)) (2 + (1 + e)) (vlr b (1 + e)) ω t ≤ nz 0 (fun _ => 1 + 1) (2 + 1) (vlr b 1) ω1 t + e * nz 0 (fun _ => 1) 1 (fun y => max 1 y) ωG t
  | 0, t, ω, ω1, ωG, hf, l1, lG, o, hw => by have := flat_pos o; omega
  | f + 1, t, ω, ω1, ωG, hf, l1, lG, o, hw => by
    rcases ok_cases o with rfl | ⟨j, hj, rfl⟩ | ⟨a, c, rfl, ha, hb⟩ | ⟨a, c, rfl, ha, hb⟩ | ⟨m, x, y, z, hm, rfl, h0, h1, h2⟩
    · rw [nz_top]; omega
    · rw [nz_var, nz_var, nz_var]; exact hw j hj
    · rw [flat_fun, List.length_cons, List.length_append] at hf
      rw [nz_fun, nz_fun, nz_fun]
      have q1 := nz_add b e f a ω ω1 ωG (by omega) l1 lG ha hw
      have q2 := nz_add b e f c ω ω1 ωG (by omega) l1 lG hb hw
      rw [Nat.mul_add, Nat.mul_add, Nat.mul_one]; omega
    · rw [flat_all, List.length_cons, List.length_append] at hf
      rw [nz_all, nz_all, nz_all]
      have q1 := nz_add b e f a ω ω1 ωG (by omega) l1 lG ha hw
      have q2 := nz_add b e f c (vlr b (1 + e) (nz 0 (fun _ => 1 + (1 + e)) (2 + (1 + e)) (vlr b (1 + e)) ω a) :: ω) (vlr b 1 (nz 0 (fun _ => 1 + 1) (2 + 1) (vlr b 1) ω1 a) :: ω1) (max 1 (nz 0 (fun _ => 1) 1 (fun y => max 1 y) ωG a) :: ωG) (by omega) (by rw [List.length_cons, List.length_cons, l1]) (by rw [List.length_cons, List.length_cons, lG]) (by rw [List.length_cons]; exact hb) (fun j hj => by
        rw [vw_cons, vw_cons, vw_cons, l1, lG]
        by_cases ej : j = ω.length
        · rw [if_pos ej, if_pos ej, if_pos ej]
          exact vlr_add b e q1
        · rw [if_neg ej, if_neg ej, if_neg ej]
          exact hw j (by rw [List.length_cons] at hj; omega))
      rw [Nat.mul_add, Nat.mul_one]; omega
    · rw [flat_rec, List.length_cons, List.length_append, List.length_append] at hf
      have key : ∀ (i : Nat) (p : Ty), (flat p).length ≤ f → okl ω.length m i p → nz 0 (fun _ => 1 + (1 + e)) (2 + (1 + e)) (vlr b (1 + e)) ω p ≤ nz 0 (fun _ => 1 + 1) (2 + 1) (vlr b 1) ω1 p + e * nz 0 (fun _ => 1) 1 (fun y => max 1 y) ωG p := by
        intro i p hp ho
        unfold okl at ho
        by_cases hb : bit m i = true
        · rw [if_pos hb] at ho
          exact nz_add b e f p ω ω1 ωG hp l1 lG ho hw
        · rw [if_neg hb] at ho
          rw [ho, nz_nil]; exact Nat.zero_le _
      rw [nz_rec, nz_rec, nz_rec]
      have q0 := key 0 x (by omega) h0
      have q1 := key 1 y (by omega) h1
      have q2 := key 2 z (by omega) h2
      rw [Nat.mul_add, Nat.mul_add, Nat.mul_add, Nat.mul_one]; omega
/-- the values of the variables around -/
theorem onz_add (b : Bool) (e : Nat) : ∀ (Γ : List Ty), okc Γ → ∀ j, j < Γ.length → vw (onz 0 (fun _ => 1 + (1 + e)) (2 + (1 + e)) (vlr b (1 + e)) Γ) j ≤ vw (onz 0 (fun _ => 1 + 1) (2 + 1) (vlr b 1) Γ) j + e * vw (onz 0 (fun _ => 1) 1 (fun y => max 1 y) Γ) j
  | [], _, j, hj => absurd hj (Nat.not_lt_zero _)
  | a :: Γ, hc, j, hj => by
    have ih := onz_add b e Γ hc.2
    have l0 := onz_len 0 (fun _ => 1 + (1 + e)) (2 + (1 + e)) (vlr b (1 + e)) Γ
    have l1 := onz_len 0 (fun _ => 1 + 1) (2 + 1) (vlr b 1) Γ
    have lG := onz_len 0 (fun _ => 1) 1 (fun y => max 1 y) Γ
    show vw (vlr b (1 + e) (nz 0 (fun _ => 1 + (1 + e)) (2 + (1 + e)) (vlr b (1 + e)) (onz 0 (fun _ => 1 + (1 + e)) (2 + (1 + e)) (vlr b (1 + e)) Γ) a) :: onz 0 (fun _ => 1 + (1 + e)) (2 + (1 + e)) (vlr b (1 + e)) Γ) j ≤ vw (vlr b 1 (nz 0 (fun _ => 1 + 1) (2 + 1) (vlr b 1) (onz 0 (fun _ => 1 + 1) (2 + 1) (vlr b 1) Γ) a) :: onz 0 (fun _ => 1 + 1) (2 + 1) (vlr b 1) Γ) j + e * vw (max 1 (nz 0 (fun _ => 1) 1 (fun y => max 1 y) (onz 0 (fun _ => 1) 1 (fun y => max 1 y) Γ) a) :: onz 0 (fun _ => 1) 1 (fun y => max 1 y) Γ) j
    rw [vw_cons, vw_cons, vw_cons, l0, l1, lG]
    by_cases ej : j = Γ.length
    · rw [if_pos ej, if_pos ej, if_pos ej]
      have q1 := nz_add b e _ a _ (onz 0 (fun _ => 1 + 1) (2 + 1) (vlr b 1) Γ) (onz 0 (fun _ => 1) 1 (fun y => max 1 y) Γ) (Nat.le_refl _) (by rw [l0, l1]) (by rw [l0, lG]) (by rw [l0]; exact hc.1) (fun i hi => ih i (by rw [l0] at hi; exact hi))
      exact vlr_add b e q1
    · rw [if_neg ej, if_neg ej, if_neg ej]
      exact ih j (by simp only [List.length_cons] at hj; omega)
