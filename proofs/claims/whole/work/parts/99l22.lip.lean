/-! HOW MUCH A TYPE'S WORTH GROWS WITH THE WORTH OF A VARIABLE: as often as the variable stands in it, written out. -/
section PmLm
variable {t0 s2 : Nat} {n1 h : Nat → Nat}
theorem nz_lip (hm : ∀ y y', y ≤ y' → h y ≤ h y') (hh : ∀ y δ, h (y + δ) ≤ h y + δ) (δ : Nat) : ∀ (f : Nat) (t : Ty) (ω ω' γ : List Nat), (flat t).length ≤ f → ω'.length = ω.length → γ.length = ω.length → ok ω.length t = true → (∀ j, j < ω.length → vw ω' j ≤ vw ω j + δ * vw γ j) → nz t0 n1 s2 h ω' t ≤ nz t0 n1 s2 h ω t + δ * nz 0 (fun _ => 0) 0 (fun y => y) γ t
  | 0, t, ω, ω', γ, hf, l1, l2, o, hw => by have := flat_pos o; omega
  | f + 1, t, ω, ω', γ, hf, l1, l2, o, hw => by
    rcases ok_cases o with rfl | ⟨j, hj, rfl⟩ | ⟨a, c, rfl, ha, hb⟩ | ⟨a, c, rfl, ha, hb⟩ | ⟨m, x, y, z, hm', rfl, h0, h1, h2⟩
    · rw [nz_top, nz_top]; omega
    · rw [nz_var, nz_var, nz_var]; exact hw j hj
    · rw [flat_fun, List.length_cons, List.length_append] at hf
      rw [nz_fun, nz_fun, nz_fun]
      have q1 := nz_lip hm hh δ f a ω ω' γ (by omega) l1 l2 ha hw
      have q2 := nz_lip hm hh δ f c ω ω' γ (by omega) l1 l2 hb hw
      rw [Nat.mul_add, Nat.mul_add]; omega
    · rw [flat_all, List.length_cons, List.length_append] at hf
      rw [nz_all, nz_all, nz_all]
      have q1 := nz_lip hm hh δ f a ω ω' γ (by omega) l1 l2 ha hw
      have q2 := nz_lip hm hh δ f c (h (nz t0 n1 s2 h ω a) :: ω) (h (nz t0 n1 s2 h ω' a) :: ω') (nz 0 (fun _ => 0) 0 (fun y => y) γ a :: γ) (by omega) (by rw [List.length_cons, List.length_cons, l1]) (by rw [List.length_cons, List.length_cons, l2]) (by rw [List.length_cons]; exact hb) (fun j hj => by
        rw [vw_cons, vw_cons, vw_cons, l1, l2]
        by_cases ej : j = ω.length
        · rw [if_pos ej, if_pos ej, if_pos ej]
          exact Nat.le_trans (hm _ _ q1) (hh _ _)
        · rw [if_neg ej, if_neg ej, if_neg ej]
          exact hw j (by rw [List.length_cons] at hj; omega))
      rw [Nat.mul_add]; omega
    · rw [flat_rec, List.length_cons, List.length_append, List.length_append] at hf
      have key : ∀ (i : Nat) (p : Ty), (flat p).length ≤ f → okl ω.length m i p → nz t0 n1 s2 h ω' p ≤ nz t0 n1 s2 h ω p + δ * nz 0 (fun _ => 0) 0 (fun y => y) γ p := by
        intro i p hp ho
        unfold okl at ho
        by_cases hb : bit m i = true
        · rw [if_pos hb] at ho
          exact nz_lip hm hh δ f p ω ω' γ hp l1 l2 ho hw
        · rw [if_neg hb] at ho
          rw [ho, nz_nil, nz_nil]; exact Nat.zero_le _
      rw [nz_rec, nz_rec, nz_rec]
      have q0 := key 0 x (by omega) h0
      have q1 := key 1 y (by omega) h1
      have q2 := key 2 z (by omega) h2
      rw [Nat.mul_add, Nat.mul_add, Nat.mul_add]; omega
end PmLm
theorem vlr_lip (b : Bool) (e : Nat) : ∀ y δ, vlr b e (y + δ) ≤ vlr b e y + δ := by
  intro y δ
  unfold vlr
  split <;> omega
