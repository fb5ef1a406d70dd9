/-! BUDGETS WITH CHOSEN INSTANCES: a term of m characters is worth n instances (E each, and p for each unit of the arguments, that take s characters) and the table for the rest. -/
def pg0 (P : List (List Nat)) (c m : Nat) : Nat := if m = 0 then 0 else pg P c m
def BF (P : List (List Nat)) (E p : Nat) (Z : Nat → Nat) (c m v : Nat) : Prop := ∃ n s, s ≤ m ∧ 3 * n ≤ s ∧ 5 * n ≤ m + 2 ∧ (n = 0 → s = 0) ∧ (1 ≤ n → m - s ≠ 1) ∧ v ≤ n * E + p * Z s + pg0 P c (m - s)
/-- what is asked of the arguments' table -/
def ZOk (Z : Nat → Nat) : Prop := Z 0 = 0 ∧ (∀ s, Z s ≤ Z (s + 1)) ∧ ∀ s t, Z s + Z t ≤ Z (s + t)
/-- what is asked of the table besides -/
def PXk (N : Nat) (P : List (List Nat)) (F : FrT) (X : List Nat) (fn s2 r1 : Nat) : Bool := (List.range (N - 7)).all (fun c => decide (N < c + 8) || ((decide (c < 2) || decide (r1 ≤ pg P c 4)) && (List.range ((N - c) / 2 - 4)).all (fun A => decide (s2 ≤ pg P c (A + 5)) && (frg F (A + 1)).all (fun q => decide (fn + (q.2 + q.1 * X.getD c 0) ≤ pg P c (A + 5))))))
section PmO2
variable {N fn s2 r0 r1 r2 r3 E p c m v m1 m2 v1 v2 : Nat} {P Q : List (List Nat)} {F : FrT} {X : List Nat} {Z : Nat → Nat}
theorem PX_4 (h : PXk N P F X fn s2 r1 = true) (hc : c + 8 ≤ N) (c2 : 2 ≤ c) : r1 ≤ pg P c 4 := by
  unfold PXk at h
  have q := rng_all h (i := c) (by omega)
  rw [Bool.or_eq_true, decide_eq_true_iff, Bool.and_eq_true, Bool.or_eq_true, decide_eq_true_iff, decide_eq_true_iff] at q
  rcases q with q | q
  · omega
  · rcases q.1 with q | q
    · omega
    · exact q
theorem PX_A (h : PXk N P F X fn s2 r1 = true) {A : Nat} (hA : 1 ≤ A) (hc : c + 2 * (A + 4) ≤ N) : s2 ≤ pg P c (A + 4) ∧ ∀ q ∈ frg F A, fn + (q.2 + q.1 * X.getD c 0) ≤ pg P c (A + 4) := by
  unfold PXk at h
  have q := rng_all h (i := c) (by omega)
  rw [Bool.or_eq_true, decide_eq_true_iff, Bool.and_eq_true] at q
  rcases q with q | q
  · omega
  · have q := rng_all q.2 (i := A - 1) (by omega)
    rw [show A - 1 + 5 = A + 4 by omega, show A - 1 + 1 = A by omega, Bool.and_eq_true, decide_eq_true_iff] at q
    refine ⟨q.1, fun w hw => ?_⟩
    have := List.all_eq_true.mp q.2 w hw
    simpa using this
theorem pg0_pos (hm : 1 ≤ m) : pg0 P c m = pg P c m := if_neg (by omega)
theorem pg0_up (h : psc N P Q F X fn s2 r0 r1 r2 r3 = true) {k : Nat} (hk : m ≤ k) (hb : c + 2 * k ≤ N) : pg0 P c m ≤ pg0 P c k := by
  by_cases e : m = 0
  · rw [e]; exact Nat.zero_le _
  · rw [pg0_pos (by omega), pg0_pos (by omega)]
    exact psc_up h (by omega) hk hb
theorem ZOk.le (h : ZOk Z) : ∀ {s t : Nat}, s ≤ t → Z s ≤ Z t
  | s, 0, e => by rw [show s = 0 by omega]; exact Nat.le_refl _
  | s, t + 1, e => by
    by_cases c : s = t + 1
    · rw [c]; exact Nat.le_refl _
    · have := ZOk.le h (show s ≤ t by omega)
      have := h.2.1 t
      omega
theorem BF.mono (h : BF P E p Z c m v) (hv : v1 ≤ v) : BF P E p Z c m v1 := by
  obtain ⟨n, s, a1, a2, a3, a4, a5, a6⟩ := h
  exact ⟨n, s, a1, a2, a3, a4, a5, Nat.le_trans hv a6⟩
theorem BF.base (hz : ZOk Z) (hm : 1 ≤ m) (hv : v ≤ pg P c m) : BF P E p Z c m v := ⟨0, 0, by omega, by omega, by omega, fun _ => rfl, fun h => by omega, by rw [hz.1, Nat.sub_zero, pg0_pos hm]; omega⟩
/-- an instance -/
theorem BF.inst (hz : ZOk Z) {s z : Nat} (h3 : 3 ≤ s) (hs : s ≤ m) (hZ : z ≤ Z s) (hv : v ≤ E + p * z) : BF P E p Z c m v := by
  have q := Nat.mul_le_mul_left p hZ
  by_cases e : m - s = 1
  · refine ⟨1, s + 1, by omega, by omega, by omega, fun h => by omega, fun _ => by omega, ?_⟩
    have := Nat.mul_le_mul_left p (hz.2.1 s)
    omega
  · exact ⟨1, s, hs, by omega, by omega, fun h => by omega, fun _ => e, by omega⟩
theorem BF.up (h : psc N P Q F X fn s2 r0 r1 r2 r3 = true) (hz : ZOk Z) (b : BF P E p Z c m v) {k : Nat} (hk : m ≤ k) (hb : c + 2 * k ≤ N) : BF P E p Z c k v := by
  obtain ⟨n, s, a1, a2, a3, a4, a5, a6⟩ := b
  by_cases e : 1 ≤ n ∧ k - s = 1
  · refine ⟨n, s + 1, by omega, by omega, by omega, fun h => by omega, fun _ => by omega, ?_⟩
    have q := Nat.mul_le_mul_left p (hz.2.1 s)
    have e2 : m - s = 0 := by
      have := a5 e.1
      omega
    rw [e2] at a6
    have e3 : pg0 P c 0 = 0 := rfl
    rw [e3] at a6
    omega
  · refine ⟨n, s, by omega, a2, by omega, a4, fun h1 h2 => e ⟨h1, h2⟩, ?_⟩
    have q := pg0_up h (c := c) (m := m - s) (k := k - s) (by omega) (by omega)
    omega
/-- two terms side by side -/
theorem BF.two (h : psc N P Q F X fn s2 r0 r1 r2 r3 = true) (hz : ZOk Z) (b1 : BF P E p Z c m1 v1) (b2 : BF P E p Z c m2 v2) (h3 : 3 ≤ m1 + m2) (g1 : 1 ≤ m1) (g2 : 1 ≤ m2) (hb : c + 2 * (m1 + m2 + 2) ≤ N) : BF P E p Z c (m1 + m2 + 2) (v1 + v2) := by
  obtain ⟨n, s, a1, a2, a3, a4, a5, a6⟩ := b1
  obtain ⟨n', s', a1', a2', a3', a4', a5', a6'⟩ := b2
  have zz := Nat.mul_le_mul_left p (hz.2.2 s s')
  rw [Nat.mul_add] at zz
  have en : (n + n') * E = n * E + n' * E := Nat.add_mul _ _ _
  refine ⟨n + n', s + s', by omega, by omega, by omega, fun e => by rw [a4 (by omega), a4' (by omega)], fun _ => by omega, ?_⟩
  have key : pg0 P c (m1 - s) + pg0 P c (m2 - s') ≤ pg0 P c (m1 + m2 + 2 - (s + s')) := by
    by_cases e1 : m1 - s = 0
    · rw [e1]
      have := pg0_up h (c := c) (m := m2 - s') (k := m1 + m2 + 2 - (s + s')) (by omega) (by omega)
      have e3 : pg0 P c 0 = 0 := rfl
      omega
    by_cases e2 : m2 - s' = 0
    · rw [e2]
      have := pg0_up h (c := c) (m := m1 - s) (k := m1 + m2 + 2 - (s + s')) (by omega) (by omega)
      have e3 : pg0 P c 0 = 0 := rfl
      omega
    have r3' : 3 ≤ (m1 - s) + (m2 - s') := by
      by_cases e3 : n = 0
      · have := a4 e3
        by_cases e4 : n' = 0
        · have := a4' e4; omega
        · have := a5' (by omega); omega
      · have := a5 (by omega); omega
    rw [pg0_pos (by omega), pg0_pos (by omega), pg0_pos (by omega)]
    have q1 := (psc_k h (c := c) (m := m1 - s) (k := m2 - s') (by omega) (by omega) (by omega)).1
    have q2 := (psc_m h (c := c) (m := (m1 - s) + (m2 - s')) (by omega) (by omega)).2.2.2.2.1 r3' (by omega)
    have q3 := psc_up h (c := c) (m := (m1 - s) + (m2 - s') + 2) (k := m1 + m2 + 2 - (s + s')) (by omega) (by omega) (by omega)
    omega
  omega
/-- a field -/
theorem BF.rec1 (h : psc N P Q F X fn s2 r0 r1 r2 r3 = true) (hx : PXk N P F X fn s2 r1 = true) (b : BF P E p Z c m v) (hb : c + 2 * (m + 4) ≤ N) {r : Nat} (hr : r ≤ r1) (c2 : 2 ≤ c) : BF P E p Z c (m + 4) (r + v) := by
  obtain ⟨n, s, a1, a2, a3, a4, a5, a6⟩ := b
  refine ⟨n, s, by omega, a2, by omega, a4, fun h1 => by have := a5 h1; omega, ?_⟩
  have key : r1 + pg0 P c (m - s) ≤ pg0 P c (m + 4 - s) := by
    rw [pg0_pos (P := P) (c := c) (m := m + 4 - s) (by omega)]
    by_cases e : m - s = 0
    · rw [e]
      have e3 : pg0 P c 0 = 0 := rfl
      rw [e3, show m + 4 - s = 4 by omega]
      have := PX_4 hx (c := c) (by omega) c2
      omega
    · rw [pg0_pos (by omega)]
      have := (psc_m h (c := c) (m := m - s) (by omega) (by omega)).2.2.2.1 (by omega)
      rw [show m + 4 - s = m - s + 4 by omega]
      exact this
  omega
/-- a function -/
theorem BF.lam (h : psc N P Q F X fn s2 r0 r1 r2 r3 = true) (hx : PXk N P F X fn s2 r1 = true) {A : Nat} (hA : 1 ≤ A) (b : BF P E p Z (c + A + 4) m v) (hb : c + 2 * (m + A + 4) ≤ N) {q : Nat × Nat} (hq : q ∈ frg F A) : BF P E p Z c (m + A + 4) (fn + (q.2 + q.1 * X.getD c 0) + v) := by
  obtain ⟨n, s, a1, a2, a3, a4, a5, a6⟩ := b
  refine ⟨n, s, by omega, a2, by omega, a4, fun h1 => by omega, ?_⟩
  have key : fn + (q.2 + q.1 * X.getD c 0) + pg0 P (c + A + 4) (m - s) ≤ pg0 P c (m + A + 4 - s) := by
    rw [pg0_pos (P := P) (c := c) (m := m + A + 4 - s) (by omega)]
    by_cases e : m - s = 0
    · rw [e]
      have e3 : pg0 P (c + A + 4) 0 = 0 := rfl
      rw [e3, show m + A + 4 - s = A + 4 by omega]
      exact (PX_A hx hA (by omega)).2 q hq
    · rw [pg0_pos (by omega)]
      have := ((psc_k h (c := c) (m := A) (k := m - s) hA (by omega) (by omega)).2.2.1 (by omega)).2 q hq
      rw [show m + A + 4 - s = A + (m - s) + 4 by omega]
      omega
  omega
/-- a term for every type -/
theorem BF.all (h : psc N P Q F X fn s2 r0 r1 r2 r3 = true) (hx : PXk N P F X fn s2 r1 = true) {A : Nat} (hA : 1 ≤ A) (b : BF P E p Z (c + A + 4) m v) (hb : c + 2 * (m + A + 4) ≤ N) : BF P E p Z c (m + A + 4) (s2 + v) := by
  obtain ⟨n, s, a1, a2, a3, a4, a5, a6⟩ := b
  refine ⟨n, s, by omega, a2, by omega, a4, fun h1 => by omega, ?_⟩
  have key : s2 + pg0 P (c + A + 4) (m - s) ≤ pg0 P c (m + A + 4 - s) := by
    rw [pg0_pos (P := P) (c := c) (m := m + A + 4 - s) (by omega)]
    by_cases e : m - s = 0
    · rw [e]
      have e3 : pg0 P (c + A + 4) 0 = 0 := rfl
      rw [e3, show m + A + 4 - s = A + 4 by omega]
      exact (PX_A hx hA (by omega)).1
    · rw [pg0_pos (by omega)]
      have := ((psc_k h (c := c) (m := A) (k := m - s) hA (by omega) (by omega)).2.2.1 (by omega)).1
      rw [show m + A + 4 - s = A + (m - s) + 4 by omega]
      omega
  omega
end PmO2
