/-! WHAT A TYPE IS WORTH IN A CONTEXT THAT IS CUT, BY CHARACTERS, with chosen instances. -/
section PmO3
variable {N t0 fn s2 hv r0 r1 r2 r3 x0 E p c m v m1 m2 m3 v1 v2 v3 : Nat} {n1 h : Nat → Nat} {P Q : List (List Nat)} {F G : FrT} {X : List Nat} {Z : Nat → Nat}
/-- two fields, three fields -/
theorem BF.rec2 (h : psc N P Q F X fn s2 r0 r1 r2 r3 = true) (hx : PXk N P F X fn s2 r1 = true) (hz : ZOk Z) (h21 : r2 ≤ r1) (b1 : BF P E p Z c m1 v1) (b2 : BF P E p Z c m2 v2) (hb : c + 2 * (m1 + m2 + 7) ≤ N) {r : Nat} (hr : r ≤ r2) (c2 : 2 ≤ c) : BF P E p Z c (m1 + m2 + 7) (r + (v1 + v2)) := by
  obtain ⟨n, s, a1, a2, a3, a4, a5, a6⟩ := b1
  obtain ⟨n', s', a1', a2', a3', a4', a5', a6'⟩ := b2
  have zz := Nat.mul_le_mul_left p (hz.2.2 s s')
  rw [Nat.mul_add] at zz
  have en : (n + n') * E = n * E + n' * E := Nat.add_mul _ _ _
  refine ⟨n + n', s + s', by omega, by omega, by omega, fun e => by rw [a4 (by omega), a4' (by omega)], fun _ => by omega, ?_⟩
  have z0 : pg0 P c 0 = 0 := rfl
  have one : ∀ k, c + 2 * (k + 4) ≤ N → r1 + pg0 P c k ≤ pg0 P c (k + 4) := by
    intro k hk
    rw [pg0_pos (P := P) (c := c) (m := k + 4) (by omega)]
    by_cases e : k = 0
    · rw [e, z0]
      have := PX_4 hx (c := c) (by omega) c2
      show r1 + 0 ≤ pg P c 4
      omega
    · rw [pg0_pos (by omega)]
      exact (psc_m h (c := c) (m := k) (by omega) (by omega)).2.2.2.1 hk
  have key : r2 + (pg0 P c (m1 - s) + pg0 P c (m2 - s')) ≤ pg0 P c (m1 + m2 + 7 - (s + s')) := by
    by_cases e1 : m1 - s = 0
    · have q1 := one (m2 - s') (by omega)
      have q2 := pg0_up h (c := c) (m := m2 - s' + 4) (k := m1 + m2 + 7 - (s + s')) (by omega) (by omega)
      rw [e1, z0]; omega
    by_cases e2 : m2 - s' = 0
    · have q1 := one (m1 - s) (by omega)
      have q2 := pg0_up h (c := c) (m := m1 - s + 4) (k := m1 + m2 + 7 - (s + s')) (by omega) (by omega)
      rw [e2, z0]; omega
    rw [pg0_pos (by omega), pg0_pos (by omega), pg0_pos (by omega)]
    have q1 := (psc_k h (c := c) (m := m1 - s) (k := m2 - s') (by omega) (by omega) (by omega)).1
    have q2 := (psc_m h (c := c) (m := (m1 - s) + (m2 - s')) (by omega) (by omega)).2.2.2.2.2 (by omega) (by omega)
    have q3 := psc_up h (c := c) (m := (m1 - s) + (m2 - s') + 7) (k := m1 + m2 + 7 - (s + s')) (by omega) (by omega) (by omega)
    omega
  omega
theorem BF.rec3 (h : psc N P Q F X fn s2 r0 r1 r2 r3 = true) (hx : PXk N P F X fn s2 r1 = true) (hz : ZOk Z) (h21 : r2 ≤ r1) (h32 : r3 ≤ r2) (b1 : BF P E p Z c m1 v1) (b2 : BF P E p Z c m2 v2) (b3 : BF P E p Z c m3 v3) (hb : c + 2 * (m1 + m2 + m3 + 10) ≤ N) {r : Nat} (hr : r ≤ r3) (c2 : 2 ≤ c) : BF P E p Z c (m1 + m2 + m3 + 10) (r + (v1 + (v2 + v3))) := by
  obtain ⟨n, s, a1, a2, a3, a4, a5, a6⟩ := b1
  obtain ⟨n', s', a1', a2', a3', a4', a5', a6'⟩ := b2
  obtain ⟨n'', s'', a1'', a2'', a3'', a4'', a5'', a6''⟩ := b3
  have zz := Nat.mul_le_mul_left p (hz.2.2 s s')
  have zz' := Nat.mul_le_mul_left p (hz.2.2 (s + s') s'')
  rw [Nat.mul_add] at zz zz'
  have en : (n + n' + n'') * E = n * E + n' * E + n'' * E := by rw [Nat.add_mul, Nat.add_mul]
  refine ⟨n + n' + n'', s + s' + s'', by omega, by omega, by omega, fun e => by rw [a4 (by omega), a4' (by omega), a4'' (by omega)], fun _ => by omega, ?_⟩
  have z0 : pg0 P c 0 = 0 := rfl
  have one : ∀ k, c + 2 * (k + 4) ≤ N → r1 + pg0 P c k ≤ pg0 P c (k + 4) := by
    intro k hk
    rw [pg0_pos (P := P) (c := c) (m := k + 4) (by omega)]
    by_cases e : k = 0
    · rw [e, z0]
      have := PX_4 hx (c := c) (by omega) c2
      show r1 + 0 ≤ pg P c 4
      omega
    · rw [pg0_pos (by omega)]
      exact (psc_m h (c := c) (m := k) (by omega) (by omega)).2.2.2.1 hk
  have two : ∀ k l, c + 2 * (k + l + 7) ≤ N → r2 + (pg0 P c k + pg0 P c l) ≤ pg0 P c (k + l + 7) := by
    intro k l hk
    by_cases e1 : k = 0
    · have q1 := one l (by omega)
      have q2 := pg0_up h (c := c) (m := l + 4) (k := k + l + 7) (by omega) (by omega)
      rw [e1, z0] at *; omega
    by_cases e2 : l = 0
    · have q1 := one k (by omega)
      have q2 := pg0_up h (c := c) (m := k + 4) (k := k + l + 7) (by omega) (by omega)
      rw [e2, z0] at *; omega
    rw [pg0_pos (by omega), pg0_pos (by omega), pg0_pos (by omega)]
    have q1 := (psc_k h (c := c) (m := k) (k := l) (by omega) (by omega) (by omega)).1
    have q2 := (psc_m h (c := c) (m := k + l) (by omega) (by omega)).2.2.2.2.2 (by omega) hk
    omega
  have key : r3 + (pg0 P c (m1 - s) + (pg0 P c (m2 - s') + pg0 P c (m3 - s''))) ≤ pg0 P c (m1 + m2 + m3 + 10 - (s + s' + s'')) := by
    by_cases e1 : m1 - s = 0
    · have q1 := two (m2 - s') (m3 - s'') (by omega)
      have q2 := pg0_up h (c := c) (m := (m2 - s') + (m3 - s'') + 7) (k := m1 + m2 + m3 + 10 - (s + s' + s'')) (by omega) (by omega)
      rw [e1, z0]; omega
    by_cases e2 : m2 - s' = 0
    · have q1 := two (m1 - s) (m3 - s'') (by omega)
      have q2 := pg0_up h (c := c) (m := (m1 - s) + (m3 - s'') + 7) (k := m1 + m2 + m3 + 10 - (s + s' + s'')) (by omega) (by omega)
      rw [e2, z0]; omega
    by_cases e3 : m3 - s'' = 0
    · have q1 := two (m1 - s) (m2 - s') (by omega)
      have q2 := pg0_up h (c := c) (m := (m1 - s) + (m2 - s') + 7) (k := m1 + m2 + m3 + 10 - (s + s' + s'')) (by omega) (by omega)
      rw [e3, z0]; omega
    rw [pg0_pos (by omega), pg0_pos (by omega), pg0_pos (by omega), pg0_pos (by omega)]
    have q0 := (psc_k h (c := c) (m := m1 - s) (k := m2 - s') (by omega) (by omega) (by omega)).1
    have q1 := (psc_k h (c := c) (m := (m1 - s) + (m2 - s')) (k := m3 - s'') (by omega) (by omega) (by omega)).2.1 (by omega) (by omega)
    have q2 := psc_up h (c := c) (m := (m1 - s) + (m2 - s') + (m3 - s'') + 10) (k := m1 + m2 + m3 + 10 - (s + s' + s'')) (by omega) (by omega) (by omega)
    omega
  omega
end PmO3
