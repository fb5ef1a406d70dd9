/-! THE MEASURE AND INSTANCES. -/
section PmKo
variable {t0 s2 : Nat} {n1 h : Nat → Nat}
theorem nz_lft (ν ω : List Nat) : ∀ (f : Nat) (t : Ty) (μ : List Nat), (flat t).length ≤ f → ok (ω.length + μ.length) t = true → nz t0 n1 s2 h (μ ++ (ν ++ ω)) (lft ω.length ν.length t) = nz t0 n1 s2 h (μ ++ ω) t
  | 0, t, μ, hf, o => by have := flat_pos o; omega
  | f + 1, t, μ, hf, o => by
    rcases ok_cases o with rfl | ⟨j, hj, rfl⟩ | ⟨a, c, rfl, ha, hb⟩ | ⟨a, c, rfl, ha, hb⟩ | ⟨m, x, y, z, hm, rfl, h0, h1, h2⟩
    · rw [lft_top, nz_top, nz_top]
    · rw [lft_var]
      by_cases e : ω.length ≤ j
      · rw [if_pos e, nz_var, nz_var]
        exact vw_app_hi μ ν ω j e (by omega)
      · rw [if_neg e, nz_var, nz_var, ← List.append_assoc, vw_app_lo _ ω j (by omega), vw_app_lo _ ω j (by omega)]
    · rw [flat_fun, List.length_cons, List.length_append] at hf
      rw [lft_fun, nz_fun, nz_fun, nz_lft ν ω f a μ (by omega) ha, nz_lft ν ω f c μ (by omega) hb]
    · rw [flat_all, List.length_cons, List.length_append] at hf
      rw [lft_all, nz_all, nz_all, nz_lft ν ω f a μ (by omega) ha]
      have := nz_lft ν ω f c (h (nz t0 n1 s2 h (μ ++ ω) a) :: μ) (by omega) (by rw [List.length_cons]; exact hb)
      rw [List.cons_append, List.cons_append] at this
      rw [this]
    · rw [flat_rec, List.length_cons, List.length_append, List.length_append] at hf
      have key : ∀ (i : Nat) (p : Ty), (flat p).length ≤ f → okl (ω.length + μ.length) m i p → nz t0 n1 s2 h (μ ++ (ν ++ ω)) (lft ω.length ν.length p) = nz t0 n1 s2 h (μ ++ ω) p := by
        intro i p hp ho
        unfold okl at ho
        by_cases hb : bit m i = true
        · rw [if_pos hb] at ho
          exact nz_lft ν ω f p μ hp ho
        · rw [if_neg hb] at ho
          rw [ho]
          have : lft ω.length ν.length .nil = .nil := rfl
          rw [this, nz_nil, nz_nil]
      rw [lft_rec hm, nz_rec, nz_rec, key 0 x (by omega) h0, key 1 y (by omega) h1, key 2 z (by omega) h2]
/-- an instance is worth what the body is worth, the variable being worth what the argument is -/
theorem nz_sbt (A : Ty) (ω : List Nat) (hA : ok ω.length A = true) : ∀ (f : Nat) (t : Ty) (μ : List Nat), (flat t).length ≤ f → ok (ω.length + 1 + μ.length) t = true → nz t0 n1 s2 h (μ ++ ω) (sbt ω.length A μ.length t) = nz t0 n1 s2 h (μ ++ (nz t0 n1 s2 h ω A :: ω)) t
  | 0, t, μ, hf, o => by have := flat_pos o; omega
  | f + 1, t, μ, hf, o => by
    rcases ok_cases o with rfl | ⟨j, hj, rfl⟩ | ⟨a, c, rfl, ha, hb⟩ | ⟨a, c, rfl, ha, hb⟩ | ⟨m, x, y, z, hm, rfl, h0, h1, h2⟩
    · rw [sbt_top, nz_top, nz_top]
    · rw [sbt_var]
      by_cases e : j = ω.length
      · rw [if_pos e]
        have := nz_lft (t0 := t0) (n1 := n1) (s2 := s2) (h := h) μ ω _ A [] (Nat.le_refl _) (by simpa using hA)
        rw [List.nil_append, List.nil_append] at this
        rw [this, nz_var, vw_app_lo _ _ j (by rw [List.length_cons]; omega), vw_cons, if_pos e]
      · rw [if_neg e]
        by_cases e2 : ω.length < j
        · rw [if_pos e2, nz_var, nz_var]
          have := vw_app_hi μ [nz t0 n1 s2 h ω A] ω (j - 1) (by omega) (by omega)
          rw [List.length_singleton, show j - 1 + 1 = j by omega] at this
          exact this.symm
        · rw [if_neg e2, nz_var, nz_var, vw_app_lo _ ω j (by omega), vw_app_lo _ _ j (by rw [List.length_cons]; omega), vw_cons, if_neg e]
    · rw [flat_fun, List.length_cons, List.length_append] at hf
      rw [sbt_fun, nz_fun, nz_fun, nz_sbt A ω hA f a μ (by omega) ha, nz_sbt A ω hA f c μ (by omega) hb]
    · rw [flat_all, List.length_cons, List.length_append] at hf
      rw [sbt_all, nz_all, nz_all, nz_sbt A ω hA f a μ (by omega) ha]
      have := nz_sbt A ω hA f c (h (nz t0 n1 s2 h (μ ++ (nz t0 n1 s2 h ω A :: ω)) a) :: μ) (by omega) (by rw [List.length_cons]; exact hb)
      rw [List.cons_append, List.cons_append, List.length_cons] at this
      rw [this]
    · rw [flat_rec, List.length_cons, List.length_append, List.length_append] at hf
      have key : ∀ (i : Nat) (p : Ty), (flat p).length ≤ f → okl (ω.length + 1 + μ.length) m i p → nz t0 n1 s2 h (μ ++ ω) (sbt ω.length A μ.length p) = nz t0 n1 s2 h (μ ++ (nz t0 n1 s2 h ω A :: ω)) p := by
        intro i p hp ho
        unfold okl at ho
        by_cases hb : bit m i = true
        · rw [if_pos hb] at ho
          exact nz_sbt A ω hA f p μ hp ho
        · rw [if_neg hb] at ho
          rw [ho, sbt_nil, nz_nil, nz_nil]
      rw [sbt_rec, nz_rec, nz_rec, key 0 x (by omega) h0, key 1 y (by omega) h1, key 2 z (by omega) h2]
end PmKo
