/-! WHAT THE TYPE OF A TERM IS WORTH, BY CHARACTERS: a table by the characters of the binders around and of the term. -/
def pg (P : List (List Nat)) (c m : Nat) : Nat := (P.getD c []).getD (m - 1) 0
/-- the tables are closed, while the binders' characters and twice the term's are at most N -/
def psc (N : Nat) (P Q : List (List Nat)) (F : FrT) (X : List Nat) (fn s2 r0 r1 r2 r3 : Nat) : Bool :=
  (List.range (N - 1)).all (fun c =>
    (List.range ((N - c) / 2)).all (fun i => let m := i + 1
      decide (X.getD c 0 ≤ pg P c m) && (decide (r0 ≤ pg P c m) || decide (m < 2)) &&
      (decide (N < c + 2 * (m + 1)) || decide (pg P c m ≤ pg P c (m + 1))) &&
      (decide (N < c + 2 * (m + 4)) || decide (r1 + pg P c m ≤ pg P c (m + 4))) &&
      (decide (m < 3) || decide (N < c + 2 * (m + 2)) || decide (pg Q c m ≤ pg P c (m + 2))) &&
      (decide (m < 2) || decide (N < c + 2 * (m + 7)) || decide (r2 + pg Q c m ≤ pg P c (m + 7))) &&
      (List.range ((N - c) / 2 - m)).all (fun j => let k := j + 1
        decide (pg P c m + pg P c k ≤ pg Q c (m + k)) &&
        (decide (m < 2) || decide (N < c + 2 * (m + k + 10)) || decide (r3 + (pg Q c m + pg P c k) ≤ pg P c (m + k + 10))) &&
        (decide (N < c + 2 * (m + k + 4)) || (decide (s2 + pg P (c + m + 4) k ≤ pg P c (m + k + 4)) && (frg F m).all (fun p => decide (fn + (p.2 + p.1 * X.getD c 0 + pg P (c + m + 4) k) ≤ pg P c (m + k + 4))))) &&
        (decide (m < 2) || decide (N < c + 2 * (m + k + 1)) || decide (pg P (c + m + 4) k ≤ pg P c (m + k + 1))))))
section PmL4
variable {N fn s2 r0 r1 r2 r3 : Nat} {P Q : List (List Nat)} {F : FrT} {X : List Nat}
theorem psc_m (h : psc N P Q F X fn s2 r0 r1 r2 r3 = true) {c m : Nat} (m1 : 1 ≤ m) (hb : c + 2 * m ≤ N) : X.getD c 0 ≤ pg P c m ∧ (2 ≤ m → r0 ≤ pg P c m) ∧ (c + 2 * (m + 1) ≤ N → pg P c m ≤ pg P c (m + 1)) ∧ (c + 2 * (m + 4) ≤ N → r1 + pg P c m ≤ pg P c (m + 4)) ∧ (3 ≤ m → c + 2 * (m + 2) ≤ N → pg Q c m ≤ pg P c (m + 2)) ∧ (2 ≤ m → c + 2 * (m + 7) ≤ N → r2 + pg Q c m ≤ pg P c (m + 7)) := by
  unfold psc at h
  have q := rng_all (rng_all h (i := c) (by omega)) (i := m - 1) (by omega)
  rw [show m - 1 + 1 = m by omega] at q
  simp only [Bool.and_eq_true, Bool.or_eq_true, decide_eq_true_eq] at q
  obtain ⟨⟨⟨⟨⟨⟨q1, q2⟩, q3⟩, q4⟩, q5⟩, q6⟩, -⟩ := q
  exact ⟨q1, fun e => by omega, fun e => by omega, fun e => by omega, fun e1 e2 => by omega, fun e1 e2 => by omega⟩
theorem psc_k (h : psc N P Q F X fn s2 r0 r1 r2 r3 = true) {c m k : Nat} (m1 : 1 ≤ m) (k1 : 1 ≤ k) (hb : c + 2 * (m + k) ≤ N) : pg P c m + pg P c k ≤ pg Q c (m + k) ∧ (2 ≤ m → c + 2 * (m + k + 10) ≤ N → r3 + (pg Q c m + pg P c k) ≤ pg P c (m + k + 10)) ∧ (c + 2 * (m + k + 4) ≤ N → s2 + pg P (c + m + 4) k ≤ pg P c (m + k + 4) ∧ ∀ p ∈ frg F m, fn + (p.2 + p.1 * X.getD c 0 + pg P (c + m + 4) k) ≤ pg P c (m + k + 4)) ∧ (2 ≤ m → c + 2 * (m + k + 1) ≤ N → pg P (c + m + 4) k ≤ pg P c (m + k + 1)) := by
  unfold psc at h
  have q := rng_all (rng_all h (i := c) (by omega)) (i := m - 1) (by omega)
  rw [show m - 1 + 1 = m by omega] at q
  rw [Bool.and_eq_true] at q
  have q := rng_all q.2 (i := k - 1) (by omega)
  rw [show k - 1 + 1 = k by omega] at q
  simp only [Bool.and_eq_true, Bool.or_eq_true, decide_eq_true_eq] at q
  obtain ⟨⟨⟨q1, q2⟩, q3⟩, q4⟩ := q
  refine ⟨q1, fun e1 e2 => by omega, fun e => ?_, fun e1 e2 => by omega⟩
  rcases q3 with q3 | ⟨q3, q5⟩
  · omega
  · refine ⟨q3, fun p hp => ?_⟩
    have := List.all_eq_true.mp q5 p hp
    simpa using this
theorem psc_up (h : psc N P Q F X fn s2 r0 r1 r2 r3 = true) {c m : Nat} (m1 : 1 ≤ m) : ∀ {k : Nat}, m ≤ k → c + 2 * k ≤ N → pg P c m ≤ pg P c k
  | 0, h1, _ => by omega
  | k + 1, h1, h2 => by
    by_cases e : m = k + 1
    · rw [e]; exact Nat.le_refl _
    · have q1 := psc_up h (c := c) (m := m) m1 (k := k) (by omega) (by omega)
      have q2 := (psc_m h (c := c) (m := k) (by omega) (by omega)).2.2.1 h2
      omega
end PmL4
theorem mch_pos {f D : Nat} {sc : List Nat} {t : Ty} (h : TWf (f + 1) D sc t) : 1 ≤ mch t := by
  obtain ⟨⟨⟨k5, k12⟩, w0, -⟩, -⟩ := h
  rw [mch_is w0]
  split
  · exact Nat.le_refl _
  split
  · omega
  split
  · omega
  split
  · split <;> omega
  · omega
theorem mch_two {f D : Nat} {sc : List Nat} {t : Ty} (h : TWf (f + 1) D sc t) (k5 : nKd t ≠ 5) : 2 ≤ mch t := by
  obtain ⟨⟨⟨-, k12⟩, w0, -⟩, -, w6, w7, w8, w9, w10, w11, -⟩ := h
  have em := mch_is w0
  rw [if_neg k5] at em
  by_cases c6 : nKd t = 6 ∨ nKd t = 8
  · rw [if_pos c6] at em; omega
  rw [if_neg c6] at em
  by_cases c9 : nKd t = 9
  · rw [if_pos c9] at em
    have := tch_pos (w9 c9).2.1
    omega
  rw [if_neg c9] at em
  by_cases c10 : nKd t = 10
  · rw [if_pos c10] at em
    by_cases c0 : nMk t = 0
    · rw [if_pos c0] at em; omega
    · rw [if_neg c0] at em
      have key : ∀ m, m < 8 → m ≠ 0 → 1 ≤ nlb m := by decide
      have := key (nMk t) (w10 c10).1 c0
      omega
  rw [if_neg c10] at em
  omega
