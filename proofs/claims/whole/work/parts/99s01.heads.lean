/-! BUDGETS WITH HEADS COUNTED EXACTLY: a head of s characters (the instance, its argument, its name) is worth hd s. -/
def HDs (hd : Nat → Nat) (n s V : Nat) : Prop := ∃ l : List Nat, l.length = n ∧ l.sum = s ∧ (∀ x ∈ l, 3 ≤ x) ∧ V = (l.map hd).sum
theorem HDs.nil (hd : Nat → Nat) : HDs hd 0 0 0 := ⟨[], rfl, rfl, fun x hx => (by cases hx), rfl⟩
theorem HDs.one (hd : Nat → Nat) {s : Nat} (h : 3 ≤ s) : HDs hd 1 s (hd s) := ⟨[s], rfl, by simp, fun x hx => by rw [List.mem_singleton.mp hx]; exact h, by simp⟩
theorem HDs.add {hd : Nat → Nat} {n s V n' s' V' : Nat} (a : HDs hd n s V) (b : HDs hd n' s' V') : HDs hd (n + n') (s + s') (V + V') := by
  obtain ⟨l, a1, a2, a3, a4⟩ := a
  obtain ⟨k, b1, b2, b3, b4⟩ := b
  refine ⟨l ++ k, by rw [List.length_append, a1, b1], by rw [List.sum_append, a2, b2], fun x hx => ?_, by rw [List.map_append, List.sum_append, a4, b4]⟩
  rcases List.mem_append.mp hx with c | c
  · exact a3 x c
  · exact b3 x c
/-- the heads take s characters, binders b, the table the rest -/
def BGh (P : List (List Nat)) (hd : Nat → Nat) (b c m v : Nat) : Prop := ∃ n s V, HDs hd n s V ∧ s + b ≤ m ∧ 3 * n ≤ s ∧ 5 * n ≤ m + 2 ∧ (n = 0 → s = 0) ∧ (1 ≤ n → m - s ≠ 1) ∧ v ≤ V + pg0 P c (m - s)
section PmS1
variable {N fn s2 r0 r1 r2 r3 b b1 b2 b3 c m v m1 m2 m3 v1 v2 v3 : Nat} {P Q : List (List Nat)} {F : FrT} {X : List Nat} {hd : Nat → Nat}
theorem BGh.mono (h : BGh P hd b c m v) (hv : v1 ≤ v) : BGh P hd b c m v1 := by
  obtain ⟨n, s, V, H, a1, a2, a3, a4, a5, a6⟩ := h
  exact ⟨n, s, V, H, a1, a2, a3, a4, a5, Nat.le_trans hv a6⟩
theorem BGh.base (hm : 1 ≤ m) (hbm : b ≤ m) (hv : v ≤ pg P c m) : BGh P hd b c m v := ⟨0, 0, 0, HDs.nil hd, by omega, by omega, by omega, fun _ => rfl, fun h => by omega, by rw [Nat.sub_zero, pg0_pos hm]; omega⟩
theorem BGh.less (h : BGh P hd b c m v) (hb : b1 ≤ b) : BGh P hd b1 c m v := by
  obtain ⟨n, s, V, H, a1, a2, a3, a4, a5, a6⟩ := h
  exact ⟨n, s, V, H, by omega, a2, a3, a4, a5, a6⟩
/-- an instance -/
theorem BGh.inst {s : Nat} (h3 : 3 ≤ s) (hs : s + b ≤ m) (hr : m - s ≠ 1) (hv : v ≤ hd s) : BGh P hd b c m v := ⟨1, s, hd s, HDs.one hd h3, hs, by omega, by omega, fun h => by omega, fun _ => hr, by omega⟩
theorem BGh.up (h : psc N P Q F X fn s2 r0 r1 r2 r3 = true) (b' : BGh P hd b c m v) {k : Nat} (hk : k = m ∨ m + 2 ≤ k) (hb : c + 2 * k ≤ N) : BGh P hd b c k v := by
  obtain ⟨n, s, V, H, a1, a2, a3, a4, a5, a6⟩ := b'
  refine ⟨n, s, V, H, by omega, a2, by omega, a4, fun h1 => by have := a5 h1; omega, ?_⟩
  have q := pg0_up h (c := c) (m := m - s) (k := k - s) (by omega) (by omega)
  omega
/-- two terms side by side -/
theorem BGh.two (h : psc N P Q F X fn s2 r0 r1 r2 r3 = true) (g1' : BGh P hd b1 c m1 v1) (g2' : BGh P hd b2 c m2 v2) (h3 : 3 ≤ m1 + m2) (g1 : 1 ≤ m1) (g2 : 1 ≤ m2) (hb : c + 2 * (m1 + m2 + 2) ≤ N) : BGh P hd (b1 + b2) c (m1 + m2 + 2) (v1 + v2) := by
  obtain ⟨n, s, V, H, a1, a2, a3, a4, a5, a6⟩ := g1'
  obtain ⟨n', s', V', H', a1', a2', a3', a4', a5', a6'⟩ := g2'
  refine ⟨n + n', s + s', V + V', H.add H', by omega, by omega, by omega, fun e => by rw [a4 (by omega), a4' (by omega)], fun _ => by omega, ?_⟩
  have key : pg0 P c (m1 - s) + pg0 P c (m2 - s') ≤ pg0 P c (m1 + m2 + 2 - (s + s')) := by
    by_cases e1 : m1 - s = 0
    · rw [e1]
      have := pg0_up h (c := c) (m := m2 - s') (k := m1 + m2 + 2 - (s + s')) (by omega) (by omega)
      have e3 : pg0 P c 0 = 0 := rfl
      omega
    by_cases e2 : m2 - s' = 0
    · rw [e2]
      have := pg0_up h (c := c) (m := m1 - s) (k := m1 + m2 + 2 - (s + s')) (by omega) (by omega)
      have e3 : pg0 P c 0 = 0 := rfl
      omega
    have r3' : 3 ≤ (m1 - s) + (m2 - s') := by
      by_cases e3 : n = 0
      · have := a4 e3
        by_cases e4 : n' = 0
        · have := a4' e4; omega
        · have := a5' (by omega); omega
      · have := a5 (by omega); omega
    rw [pg0_pos (by omega), pg0_pos (by omega), pg0_pos (by omega)]
    have q1 := (psc_k h (c := c) (m := m1 - s) (k := m2 - s') (by omega) (by omega) (by omega)).1
    have q2 := (psc_m h (c := c) (m := (m1 - s) + (m2 - s')) (by omega) (by omega)).2.2.2.2.1 r3' (by omega)
    have q3 := psc_up h (c := c) (m := (m1 - s) + (m2 - s') + 2) (k := m1 + m2 + 2 - (s + s')) (by omega) (by omega) (by omega)
    omega
  omega
/-- a field -/
theorem BGh.rec1 (h : psc N P Q F X fn s2 r0 r1 r2 r3 = true) (hx : PXk N P F X fn s2 r1 = true) (g' : BGh P hd b c m v) (hb : c + 2 * (m + 4) ≤ N) {r : Nat} (hr : r ≤ r1) (c2 : 2 ≤ c) : BGh P hd b c (m + 4) (r + v) := by
  obtain ⟨n, s, V, H, a1, a2, a3, a4, a5, a6⟩ := g'
  refine ⟨n, s, V, H, by omega, a2, by omega, a4, fun h1 => by have := a5 h1; omega, ?_⟩
  have key : r1 + pg0 P c (m - s) ≤ pg0 P c (m + 4 - s) := by
    rw [pg0_pos (P := P) (c := c) (m := m + 4 - s) (by omega)]
    by_cases e : m - s = 0
    · rw [e]
      have e3 : pg0 P c 0 = 0 := rfl
      rw [e3, show m + 4 - s = 4 by omega]
      have := PX_4 hx (c := c) (by omega) c2
      omega
    · rw [pg0_pos (by omega)]
      have := (psc_m h (c := c) (m := m - s) (by omega) (by omega)).2.2.2.1 (by omega)
      rw [show m + 4 - s = m - s + 4 by omega]
      exact this
  omega
/-- a function -/
theorem BGh.lam (h : psc N P Q F X fn s2 r0 r1 r2 r3 = true) (hx : PXk N P F X fn s2 r1 = true) {A : Nat} (hA : 1 ≤ A) (g' : BGh P hd b (c + A + 4) m v) (hb : c + 2 * (m + A + 4) ≤ N) {q : Nat × Nat} (hq : q ∈ frg F A) : BGh P hd b c (m + A + 4) (fn + (q.2 + q.1 * X.getD c 0) + v) := by
  obtain ⟨n, s, V, H, a1, a2, a3, a4, a5, a6⟩ := g'
  refine ⟨n, s, V, H, by omega, a2, by omega, a4, fun h1 => by omega, ?_⟩
  have key : fn + (q.2 + q.1 * X.getD c 0) + pg0 P (c + A + 4) (m - s) ≤ pg0 P c (m + A + 4 - s) := by
    rw [pg0_pos (P := P) (c := c) (m := m + A + 4 - s) (by omega)]
    by_cases e : m - s = 0
    · rw [e]
      have e3 : pg0 P (c + A + 4) 0 = 0 := rfl
      rw [e3, show m + A + 4 - s = A + 4 by omega]
      exact (PX_A hx hA (by omega)).2 q hq
    · rw [pg0_pos (by omega)]
      have := ((psc_k h (c := c) (m := A) (k := m - s) hA (by omega) (by omega)).2.2.1 (by omega)).2 q hq
      rw [show m + A + 4 - s = A + (m - s) + 4 by omega]
      omega
  omega
/-- a term for every type -/
theorem BGh.all (h : psc N P Q F X fn s2 r0 r1 r2 r3 = true) (hx : PXk N P F X fn s2 r1 = true) {A : Nat} (hA : 1 ≤ A) (g' : BGh P hd b (c + A + 4) m v) (hb : c + 2 * (m + A + 4) ≤ N) : BGh P hd (b + (A + 4)) c (m + A + 4) (s2 + v) := by
  obtain ⟨n, s, V, H, a1, a2, a3, a4, a5, a6⟩ := g'
  refine ⟨n, s, V, H, by omega, a2, by omega, a4, fun h1 => by omega, ?_⟩
  have key : s2 + pg0 P (c + A + 4) (m - s) ≤ pg0 P c (m + A + 4 - s) := by
    rw [pg0_pos (P := P) (c := c) (m := m + A + 4 - s) (by omega)]
    by_cases e : m - s = 0
    · rw [e]
      have e3 : pg0 P (c + A + 4) 0 = 0 := rfl
      rw [e3, show m + A + 4 - s = A + 4 by omega]
      exact (PX_A hx hA (by omega)).1
    · rw [pg0_pos (by omega)]
      have := ((psc_k h (c := c) (m := A) (k := m - s) hA (by omega) (by omega)).2.2.1 (by omega)).1
      rw [show m + A + 4 - s = A + (m - s) + 4 by omega]
      omega
  omega
theorem BGh.rec2 (h : psc N P Q F X fn s2 r0 r1 r2 r3 = true) (hx : PXk N P F X fn s2 r1 = true) (h21 : r2 ≤ r1) (g1' : BGh P hd b1 c m1 v1) (g2' : BGh P hd b2 c m2 v2) (hb : c + 2 * (m1 + m2 + 7) ≤ N) {r : Nat} (hr : r ≤ r2) (c2 : 2 ≤ c) : BGh P hd (b1 + b2) c (m1 + m2 + 7) (r + (v1 + v2)) := by
  obtain ⟨n, s, V, H, a1, a2, a3, a4, a5, a6⟩ := g1'
  obtain ⟨n', s', V', H', a1', a2', a3', a4', a5', a6'⟩ := g2'
  refine ⟨n + n', s + s', V + V', H.add H', by omega, by omega, by omega, fun e => by rw [a4 (by omega), a4' (by omega)], fun _ => by omega, ?_⟩
  have z0 : pg0 P c 0 = 0 := rfl
  have one : ∀ k, c + 2 * (k + 4) ≤ N → r1 + pg0 P c k ≤ pg0 P c (k + 4) := by
    intro k hk
    rw [pg0_pos (P := P) (c := c) (m := k + 4) (by omega)]
    by_cases e : k = 0
    · rw [e, z0]
      have := PX_4 hx (c := c) (by omega) c2
      show r1 + 0 ≤ pg P c 4
      omega
    · rw [pg0_pos (by omega)]
      exact (psc_m h (c := c) (m := k) (by omega) (by omega)).2.2.2.1 hk
  have key : r2 + (pg0 P c (m1 - s) + pg0 P c (m2 - s')) ≤ pg0 P c (m1 + m2 + 7 - (s + s')) := by
    by_cases e1 : m1 - s = 0
    · have q1 := one (m2 - s') (by omega)
      have q2 := pg0_up h (c := c) (m := m2 - s' + 4) (k := m1 + m2 + 7 - (s + s')) (by omega) (by omega)
      rw [e1, z0]; omega
    by_cases e2 : m2 - s' = 0
    · have q1 := one (m1 - s) (by omega)
      have q2 := pg0_up h (c := c) (m := m1 - s + 4) (k := m1 + m2 + 7 - (s + s')) (by omega) (by omega)
      rw [e2, z0]; omega
    rw [pg0_pos (by omega), pg0_pos (by omega), pg0_pos (by omega)]
    have q1 := (psc_k h (c := c) (m := m1 - s) (k := m2 - s') (by omega) (by omega) (by omega)).1
    have q2 := (psc_m h (c := c) (m := (m1 - s) + (m2 - s')) (by omega) (by omega)).2.2.2.2.2 (by omega) (by omega)
    have q3 := psc_up h (c := c) (m := (m1 - s) + (m2 - s') + 7) (k := m1 + m2 + 7 - (s + s')) (by omega) (by omega) (by omega)
    omega
  omega
theorem BGh.rec3 (h : psc N P Q F X fn s2 r0 r1 r2 r3 = true) (hx : PXk N P F X fn s2 r1 = true) (h21 : r2 ≤ r1) (h32 : r3 ≤ r2) (g1' : BGh P hd b1 c m1 v1) (g2' : BGh P hd b2 c m2 v2) (g3' : BGh P hd b3 c m3 v3) (hb : c + 2 * (m1 + m2 + m3 + 10) ≤ N) {r : Nat} (hr : r ≤ r3) (c2 : 2 ≤ c) : BGh P hd (b1 + b2 + b3) c (m1 + m2 + m3 + 10) (r + (v1 + (v2 + v3))) := by
  obtain ⟨n, s, V, H, a1, a2, a3, a4, a5, a6⟩ := g1'
  obtain ⟨n', s', V', H', a1', a2', a3', a4', a5', a6'⟩ := g2'
  obtain ⟨n'', s'', V'', H'', a1'', a2'', a3'', a4'', a5'', a6''⟩ := g3'
  refine ⟨n + n' + n'', s + s' + s'', V + V' + V'', (H.add H').add H'', by omega, by omega, by omega, fun e => by rw [a4 (by omega), a4' (by omega), a4'' (by omega)], fun _ => by omega, ?_⟩
  have z0 : pg0 P c 0 = 0 := rfl
  have one : ∀ k, c + 2 * (k + 4) ≤ N → r1 + pg0 P c k ≤ pg0 P c (k + 4) := by
    intro k hk
    rw [pg0_pos (P := P) (c := c) (m := k + 4) (by omega)]
    by_cases e : k = 0
    · rw [e, z0]
      have := PX_4 hx (c := c) (by omega) c2
      show r1 + 0 ≤ pg P c 4
      omega
    · rw [pg0_pos (by omega)]
      exact (psc_m h (c := c) (m := k) (by omega) (by omega)).2.2.2.1 hk
  have two : ∀ k l, c + 2 * (k + l + 7) ≤ N → r2 + (pg0 P c k + pg0 P c l) ≤ pg0 P c (k + l + 7) := by
    intro k l hk
    by_cases e1 : k = 0
    · have q1 := one l (by omega)
      have q2 := pg0_up h (c := c) (m := l + 4) (k := k + l + 7) (by omega) (by omega)
      rw [e1, z0] at *; omega
    by_cases e2 : l = 0
    · have q1 := one k (by omega)
      have q2 := pg0_up h (c := c) (m := k + 4) (k := k + l + 7) (by omega) (by omega)
      rw [e2, z0] at *; omega
    rw [pg0_pos (by omega), pg0_pos (by omega), pg0_pos (by omega)]
    have q1 := (psc_k h (c := c) (m := k) (k := l) (by omega) (by omega) (by omega)).1
    have q2 := (psc_m h (c := c) (m := k + l) (by omega) (by omega)).2.2.2.2.2 (by omega) hk
    omega
  have key : r3 + (pg0 P c (m1 - s) + (pg0 P c (m2 - s') + pg0 P c (m3 - s''))) ≤ pg0 P c (m1 + m2 + m3 + 10 - (s + s' + s'')) := by
    by_cases e1 : m1 - s = 0
    · have q1 := two (m2 - s') (m3 - s'') (by omega)
      have q2 := pg0_up h (c := c) (m := (m2 - s') + (m3 - s'') + 7) (k := m1 + m2 + m3 + 10 - (s + s' + s'')) (by omega) (by omega)
      rw [e1, z0]; omega
    by_cases e2 : m2 - s' = 0
    · have q1 := two (m1 - s) (m3 - s'') (by omega)
      have q2 := pg0_up h (c := c) (m := (m1 - s) + (m3 - s'') + 7) (k := m1 + m2 + m3 + 10 - (s + s' + s'')) (by omega) (by omega)
      rw [e2, z0]; omega
    by_cases e3 : m3 - s'' = 0
    · have q1 := two (m1 - s) (m2 - s') (by omega)
      have q2 := pg0_up h (c := c) (m := (m1 - s) + (m2 - s') + 7) (k := m1 + m2 + m3 + 10 - (s + s' + s'')) (by omega) (by omega)
      rw [e3, z0]; omega
    rw [pg0_pos (by omega), pg0_pos (by omega), pg0_pos (by omega), pg0_pos (by omega)]
    have q0 := (psc_k h (c := c) (m := m1 - s) (k := m2 - s') (by omega) (by omega) (by omega)).1
    have q1 := (psc_k h (c := c) (m := (m1 - s) + (m2 - s')) (k := m3 - s'') (by omega) (by omega) (by omega)).2.1 (by omega) (by omega)
    have q2 := psc_up h (c := c) (m := (m1 - s) + (m2 - s') + (m3 - s'') + 10) (k := m1 + m2 + m3 + 10 - (s + s' + s'')) (by omega) (by omega) (by omega)
    omega
  omega
/-- a longer argument -/
theorem BGh.arg (h : psc N P Q F X fn s2 r0 r1 r2 r3 = true) {q : Nat} (hq : 2 ≤ q) (g' : BGh P hd b (c + q + 4) m v) (hb : c + 2 * (m + q + 1) ≤ N) : BGh P hd b c (m + q + 1) v := by
  obtain ⟨n, s, V, H, a1, a2, a3, a4, a5, a6⟩ := g'
  refine ⟨n, s, V, H, by omega, a2, by omega, a4, fun h1 => by omega, ?_⟩
  have key : pg0 P (c + q + 4) (m - s) ≤ pg0 P c (m + q + 1 - s) := by
    by_cases e : m - s = 0
    · rw [e]; exact Nat.zero_le _
    · rw [pg0_pos (by omega), pg0_pos (by omega)]
      have := (psc_k h (c := c) (m := q) (k := m - s) (by omega) (by omega) (by omega)).2.2.2 hq (by omega)
      rw [show m + q + 1 - s = q + (m - s) + 1 by omega]
      exact this
  omega
end PmS1
