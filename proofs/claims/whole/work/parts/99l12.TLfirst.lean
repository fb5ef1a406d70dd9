/-! THE LIMITS FOR TERMS WITHOUT ALIASES, where the shorter one of two terms instances no scheme of the context. -/
/-- what is instanced has three characters, or is a name -/
theorem inst_room {f : Nat} {x : Ty} {Γ : List Ty} {Δ : List (Nat × Ty × Nat)} {S : Ty} (w : TWf f Γ.length (Δ.map (fun a => a.1)) x) (hS : tyF f x Γ Δ = .inr S) (h2 : hd (expo Γ Γ.length S) = 2) : 3 ≤ mch x + dch Δ := by
  cases f with
  | zero => exact w.elim
  | succ f =>
    by_cases c5 : nKd x = 5
    · obtain ⟨a, ha⟩ := dlk_some (w.2.1 c5)
      have : tch a.1 + 4 ≤ dch Δ := dch_mem (dlk_mem ha)
      omega
    obtain ⟨⟨⟨k5, k12⟩, w0, -⟩, -, w6, w7, w8, w9, w10, w11, -⟩ := w
    have em := mch_is w0
    rw [if_neg c5] at em
    by_cases c6 : nKd x = 6 ∨ nKd x = 8
    · rw [if_pos c6] at em; omega
    rw [if_neg c6] at em
    by_cases c9 : nKd x = 9
    · rw [if_pos c9] at em
      have q1 := tch_pos (w9 c9).2.1
      have q2 := short_c (w9 c9).1
      omega
    rw [if_neg c9] at em
    by_cases c10 : nKd x = 10
    · rw [if_pos c10] at em
      by_cases c0 : nMk x = 0
      · exfalso
        unfold tyF at hS
        rw [if_neg c5, if_neg (by omega), if_neg (by omega), if_neg (by omega), if_neg c9, if_pos c10] at hS
        obtain ⟨A1, -, h1⟩ := tbd_in hS
        obtain ⟨A2, -, h1⟩ := tbd_in h1
        obtain ⟨A3, -, h1⟩ := tbd_in h1
        obtain ⟨e, -⟩ := szt_in h1
        rw [c0] at e
        rw [← e, expo_lo (by rw [hd_rec]; omega), hd_rec] at h2
        omega
      · rw [if_neg c0] at em
        have key : ∀ m, m < 8 → m ≠ 0 → 1 ≤ nlb m := by decide
        have := key (nMk x) (w10 c10).1 c0
        omega
    rw [if_neg c10] at em
    by_cases c11 : nKd x = 11
    · have := short_c (w11 c11).2
      omega
    · have q := w7 (by omega)
      have q1 := short_c q.1
      have q2 := short_c q.2
      omega
