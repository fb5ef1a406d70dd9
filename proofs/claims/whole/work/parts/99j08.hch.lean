/-! HEIGHTS BY CHARACTERS. -/
/-- the characters of the bounds around, with their binders -/
def cch : List Ty → Nat
  | [] => 0
  | b :: Γ => (tch b + 4) + cch Γ
theorem rch_two {m : Nat} (h : m ≠ 0) (hm : m < 8) : 3 ≤ rch m := by
  have key : ∀ m, m < 8 → m ≠ 0 → 3 ≤ rch m := by decide
  exact key m hm h
theorem tch_pos {d : Nat} {t : Ty} (h : ok d t = true) : 1 ≤ tch t := by
  rcases ok_cases h with rfl | ⟨k, hk, rfl⟩ | ⟨a, b, rfl, -, -⟩ | ⟨a, b, rfl, -, -⟩ | ⟨m, x, y, z, hm, rfl, -, -, -⟩
  · exact Nat.le_refl _
  · exact Nat.le_refl _
  · rw [tch_fun]; omega
  · rw [tch_all]; omega
  · rw [tch_rec]
    unfold rch
    split <;> omega
theorem hgt_tch : ∀ (n : Nat) (t : Ty) (ω : List Nat) (v : Nat), (flat t).length ≤ n → ok ω.length t = true → (∀ k, k < ω.length → vw ω k ≤ v) → 5 * hgt ω t ≤ 2 * tch t + 3 + 5 * v
  | 0, t, ω, v, hn, h, _ => by have := flat_pos h; omega
  | n + 1, t, ω, v, hn, h, hv => by
    rcases ok_cases h with rfl | ⟨k, hk, rfl⟩ | ⟨a, b, rfl, ha, hb⟩ | ⟨a, b, rfl, ha, hb⟩ | ⟨m, x, y, z, hm, rfl, h0, h1, h2⟩
    · rw [hgt_top, tch_top]; omega
    · have := hv k hk
      rw [hgt_var, tch_var]; omega
    · rw [flat_fun, List.length_cons, List.length_append] at hn
      have i1 := hgt_tch n a ω v (by omega) ha hv
      have i2 := hgt_tch n b ω v (by omega) hb hv
      have p1 := tch_pos ha
      have p2 := tch_pos hb
      rw [hgt_fun, tch_fun]
      omega
    · rw [flat_all, List.length_cons, List.length_append] at hn
      have i1 := hgt_tch n a ω v (by omega) ha hv
      have i2 := hgt_tch n b (hgt ω a :: ω) (max v (hgt ω a)) (by omega) hb (by
        intro k hk
        show (if k = ω.length then hgt ω a else vw ω k) ≤ _
        by_cases e : k = ω.length
        · rw [if_pos e]; omega
        · rw [if_neg e]
          have := hv k (by rw [List.length_cons] at hk; omega)
          omega)
      rw [hgt_all, tch_all]
      omega
    · rw [flat_rec, List.length_cons, List.length_append, List.length_append] at hn
      have key : ∀ (i : Nat) (p : Ty), (flat p).length ≤ n → okl ω.length m i p → 5 * hgt ω p ≤ 2 * tch p + 3 + 5 * v ∧ (m = 0 → i < 3 → hgt ω p = 0) := by
        intro i p hp ho
        unfold okl at ho
        by_cases hb : bit m i = true
        · rw [if_pos hb] at ho
          refine ⟨hgt_tch n p ω v hp ho hv, fun e hi => ?_⟩
          subst e
          rcases (show i = 0 ∨ i = 1 ∨ i = 2 by omega) with rfl | rfl | rfl <;> exact absurd hb (by decide)
        · rw [if_neg hb] at ho
          rw [ho, hgt_nil]
          exact ⟨by omega, fun _ _ => rfl⟩
      have i0 := key 0 x (by omega) h0
      have i1 := key 1 y (by omega) h1
      have i2 := key 2 z (by omega) h2
      rw [hgt_rec, tch_rec]
      by_cases m0 : m = 0
      · have j0 := i0.2 m0 (by decide)
        have j1 := i1.2 m0 (by decide)
        have j2 := i2.2 m0 (by decide)
        have r0 : rch m = 2 := by rw [m0]; rfl
        rw [j0, j1, j2, r0]
        omega
      · have r3 := rch_two m0 hm
        omega
theorem oh_tch : ∀ {Γ : List Ty}, okc Γ → ∀ k, k < Γ.length → 5 * vw (oh Γ) k + 5 ≤ 2 * cch Γ
  | [], _, _, h => absurd h (Nat.not_lt_zero _)
  | b :: Γ, hc, k, hk => by
    have hl : (oh Γ).length = Γ.length := oh_len Γ
    show 5 * (if k = (oh Γ).length then hgt (oh Γ) b else vw (oh Γ) k) + 5 ≤ 2 * ((tch b + 4) + cch Γ)
    rw [hl]
    by_cases h : k = Γ.length
    · rw [if_pos h]
      have i := hgt_tch (flat b).length b (oh Γ) (2 * cch Γ / 5) (Nat.le_refl _) (by rw [hl]; exact hc.1) (fun j hj => by
        have := oh_tch hc.2 j (by rw [hl] at hj; exact hj)
        omega)
      omega
    · rw [if_neg h]
      have := oh_tch hc.2 k (by simp only [List.length_cons] at hk; omega)
      omega
/-- types of at most sixteen nodes, and few binders around -/
theorem hgt_ctx {Γ : List Ty} {t : Ty} (hc : okc Γ) (h : ok Γ.length t = true) (hl : (flat t).length ≤ 16) (hx : cch Γ ≤ 56) : hgt (oh Γ) t ≤ 38 := by
  have := hgt_len 16 t (oh Γ) 21 hl (by rw [oh_len]; exact h) (fun k hk => by
    have := oh_tch hc k (by rw [oh_len] at hk; exact hk)
    omega)
  omega
