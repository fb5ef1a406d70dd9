/-! INSTANCES name no more of their own variables. -/
section PmN2
variable {n : Nat} {Q : Ty}
theorem men_sbt {d : Nat} (hd : n < d) : ∀ (f : Nat) (t : Ty) (μ : Nat), (flat t).length ≤ f → ok (n + 1 + μ) t = true → d < n + 1 + μ → men (d - 1) (sbt n Q μ t) = men d t
  | 0, t, μ, hf, o, _ => by have := flat_pos o; omega
  | f + 1, t, μ, hf, o, h => by
    rcases ok_cases o with rfl | ⟨k, hk, rfl⟩ | ⟨a, c, rfl, ha, hb⟩ | ⟨a, c, rfl, ha, hb⟩ | ⟨l, x, y, z, hm, rfl, h0, h1, h2⟩
    · rw [sbt_top, men_top, men_top]
    · rw [sbt_var]
      by_cases e : k = n
      · rw [if_pos e, men_gap (show n ≤ d - 1 by omega) (show d - 1 < n + μ by omega), men_var]
        have : ¬ k = d := by omega
        have : (k == d) = false := by simpa using this
        rw [this]
      · rw [if_neg e]
        by_cases e2 : n < k
        · rw [if_pos e2, men_var, men_var, Bool.eq_iff_iff]
          simp only [beq_iff_eq]
          omega
        · rw [if_neg e2, men_var, men_var, Bool.eq_iff_iff]
          simp only [beq_iff_eq]
          omega
    · rw [flat_fun, List.length_cons, List.length_append] at hf
      rw [sbt_fun, men_fun, men_fun, men_sbt hd f a μ (by omega) ha h, men_sbt hd f c μ (by omega) hb h]
    · rw [flat_all, List.length_cons, List.length_append] at hf
      rw [sbt_all, men_all, men_all, men_sbt hd f a μ (by omega) ha h, men_sbt hd f c (μ + 1) (by omega) hb (by omega)]
    · rw [flat_rec, List.length_cons, List.length_append, List.length_append] at hf
      have key : ∀ (i : Nat) (p : Ty), (flat p).length ≤ f → okl (n + 1 + μ) l i p → men (d - 1) (sbt n Q μ p) = men d p := by
        intro i p hp ho
        unfold okl at ho
        by_cases hb : bit l i = true
        · rw [if_pos hb] at ho
          exact men_sbt hd f p μ hp ho h
        · rw [if_neg hb] at ho
          rw [ho, sbt_nil]; rfl
      rw [sbt_rec, men_rec hm, men_rec hm, key 0 x (by omega) h0, key 1 y (by omega) h1, key 2 z (by omega) h2]
/-- a bound that names another variable is meant in an instance only if it was before -/
theorem kp2_sbt {d μ : Nat} {t : Ty} (_ : n < d) (_ : ok (n + 1 + μ) t = true) (_ : men d t = true) (_ : kp2 (sbt n Q μ t) = true) : kp2 t = true := rfl
theorem Wo_sbt {d : Nat} (hd : n < d) : ∀ (f : Nat) (t : Ty) (μ : Nat), (flat t).length ≤ f → ok (n + 1 + μ) t = true → d < n + 1 + μ → Wo kp2 d t = true → Wo kp2 (d - 1) (sbt n Q μ t) = true
  | 0, t, μ, hf, o, _, _ => by have := flat_pos o; omega
  | f + 1, t, μ, hf, o, h, w => by
    rcases ok_cases o with rfl | ⟨k, hk, rfl⟩ | ⟨a, c, rfl, ha, hb⟩ | ⟨a, c, rfl, ha, hb⟩ | ⟨l, x, y, z, hm, rfl, h0, h1, h2⟩
    · rw [sbt_top]; rfl
    · rw [sbt_var]
      by_cases e : k = n
      · rw [if_pos e]
        exact Wo_lack _ (men_gap (show n ≤ d - 1 by omega) (show d - 1 < n + μ by omega) Q)
      · rw [if_neg e]; split <;> rfl
    · rw [flat_fun, List.length_cons, List.length_append] at hf
      rw [Wo_fun, Bool.and_eq_true] at w
      rw [sbt_fun, Wo_fun, Wo_sbt hd f a μ (by omega) ha h w.1, Wo_sbt hd f c μ (by omega) hb h w.2]; rfl
    · rw [flat_all, List.length_cons, List.length_append] at hf
      rw [Wo_all, Bool.and_eq_true, Bool.and_eq_true] at w
      rw [sbt_all, Wo_all, Wo_sbt hd f a μ (by omega) ha h w.2.1, Wo_sbt hd f c (μ + 1) (by omega) hb (by omega) w.2.2, men_sbt hd f a μ (by omega) ha h]
      have w1 := w.1
      cases e1 : men d a with
      | false => rfl
      | true =>
        rw [e1] at w1
        cases e2 : kp2 (sbt n Q μ a) with
        | false => rfl
        | true =>
          rw [kp2_sbt hd ha e1 e2] at w1
          simp at w1
    · rw [flat_rec, List.length_cons, List.length_append, List.length_append] at hf
      rw [Wo_rec, Bool.and_eq_true, Bool.and_eq_true] at w
      have key : ∀ (i : Nat) (p : Ty), (flat p).length ≤ f → okl (n + 1 + μ) l i p → Wo kp2 d p = true → Wo kp2 (d - 1) (sbt n Q μ p) = true := by
        intro i p hp ho hn
        unfold okl at ho
        by_cases hb : bit l i = true
        · rw [if_pos hb] at ho
          exact Wo_sbt hd f p μ hp ho h hn
        · rw [if_neg hb] at ho
          rw [ho, sbt_nil]; rfl
      rw [sbt_rec, Wo_rec, key 0 x (by omega) h0 w.1, key 1 y (by omega) h1 w.2.1, key 2 z (by omega) h2 w.2.2]; rfl
theorem hbv_sbt {hb μ D : Nat} {a : Ty} (o : ok D a = true) (h : hbv hb a = false) : hbv hb (sbt n Q μ a) = false := by
  unfold hbv at h ⊢
  rw [Bool.or_eq_false_iff, decide_eq_false_iff_not] at h
  rw [sbt_hd o (by omega), h.1]
  simp
  omega
theorem PNw_sbt {hb : Nat} (hh : hb < 16) (oQ : ok n Q = true) (hQ : PNw kp2 hb n Q = true) : ∀ (f : Nat) (t : Ty) (μ : Nat), (flat t).length ≤ f → ok (n + 1 + μ) t = true → PNw kp2 hb (n + 1 + μ) t = true → PNw kp2 hb (n + μ) (sbt n Q μ t) = true
  | 0, t, μ, hf, o, _ => by have := flat_pos o; omega
  | f + 1, t, μ, hf, o, h => by
    rcases ok_cases o with rfl | ⟨k, hk, rfl⟩ | ⟨a, c, rfl, ha, hb'⟩ | ⟨a, c, rfl, ha, hb'⟩ | ⟨l, x, y, z, hm, rfl, h0, h1, h2⟩
    · rw [sbt_top]; rfl
    · rw [sbt_var]
      by_cases e : k = n
      · rw [if_pos e, PNw_lft kp2_lft hh n μ Q n (Nat.le_refl _)]; exact hQ
      · rw [if_neg e]; split <;> rfl
    · rw [flat_fun, List.length_cons, List.length_append] at hf
      rw [PNw_fun, Bool.and_eq_true] at h
      rw [sbt_fun, PNw_fun, PNw_sbt hh oQ hQ f a μ (by omega) ha h.1, PNw_sbt hh oQ hQ f c μ (by omega) hb' h.2]; rfl
    · rw [flat_all, List.length_cons, List.length_append] at hf
      rw [PNw_all, Bool.and_eq_true, Bool.and_eq_true, Bool.or_eq_true] at h
      have q1 := PNw_sbt hh oQ hQ f a μ (by omega) ha h.1.1
      have q2 := PNw_sbt hh oQ hQ f c (μ + 1) (by omega) hb' h.1.2
      have q2 : PNw kp2 hb (n + μ + 1) (sbt n Q (μ + 1) c) = true := q2
      rw [sbt_all, PNw_all, q1, q2]
      rcases h.2 with e | e
      · rw [hbv_sbt ha (by simpa using e)]; rfl
      · have q3 := Wo_sbt (n := n) (Q := Q) (d := n + 1 + μ) (by omega) f c (μ + 1) (by omega) hb' (by omega) e
        rw [show n + 1 + μ - 1 = n + μ by omega] at q3
        rw [q3]; simp
    · rw [flat_rec, List.length_cons, List.length_append, List.length_append] at hf
      rw [PNw_rec, Bool.and_eq_true, Bool.and_eq_true] at h
      have key : ∀ (i : Nat) (p : Ty), (flat p).length ≤ f → okl (n + 1 + μ) l i p → PNw kp2 hb (n + 1 + μ) p = true → PNw kp2 hb (n + μ) (sbt n Q μ p) = true := by
        intro i p hp ho hn
        unfold okl at ho
        by_cases hb1 : bit l i = true
        · rw [if_pos hb1] at ho
          exact PNw_sbt hh oQ hQ f p μ hp ho hn
        · rw [if_neg hb1] at ho
          rw [ho, sbt_nil]; rfl
      rw [sbt_rec, PNw_rec, key 0 x (by omega) h0 h.1, key 1 y (by omega) h1 h.2.1, key 2 z (by omega) h2 h.2.2]; rfl
end PmN2
