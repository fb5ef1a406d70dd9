/-! BUDGETS WITH HEADS COUNTED EXACTLY: the number. -/
/-- every list of n heads with s characters is worth at most R, V besides -/
def hck (hd : Nat → Nat) (R : Nat) : Nat → Nat → Nat → Bool
  | 0, _, V => Nat.ble V R
  | n + 1, s, V => (List.range (s + 1)).all (fun x => Nat.blt x 3 || hck hd R n (s - x) (V + hd x))
theorem hck_le {hd : Nat → Nat} {R : Nat} : ∀ (l : List Nat) (V : Nat), (∀ x ∈ l, 3 ≤ x) → hck hd R l.length l.sum V = true → V + (l.map hd).sum ≤ R
  | [], V, _, h => by
    have h : Nat.ble V R = true := h
    have := Nat.le_of_ble_eq_true h
    simpa using this
  | x :: l, V, hx, h => by
    have h : (List.range ((x :: l).sum + 1)).all (fun y => Nat.blt y 3 || hck hd R l.length ((x :: l).sum - y) (V + hd y)) = true := h
    rw [List.sum_cons] at h
    have q := List.all_eq_true.mp h x (List.mem_range.mpr (by omega))
    have x3 := hx x (List.mem_cons_self ..)
    have q2 : hck hd R l.length l.sum (V + hd x) = true := by
      rw [show x + l.sum - x = l.sum by omega, Bool.or_eq_true] at q
      rcases q with q | q
      · have q : Nat.ble (x + 1) 3 = true := q
        have := Nat.le_of_ble_eq_true q
        omega
      · exact q
    have ih := hck_le l (V + hd x) (fun y hy => hx y (List.mem_cons_of_mem _ hy)) q2
    rw [List.map_cons, List.sum_cons]
    omega
/-- the budget is at most R; binders take b characters -/
def natH (P : List (List Nat)) (hd : Nat → Nat) (b c m R : Nat) : Bool := Nat.ble (pg0 P c m) R && (List.range 4).all (fun n => Nat.beq n 0 || (List.range (m + 1)).all (fun s => Nat.blt m (s + b) || (Nat.blt s (3 * n) || (Nat.blt (m + 2) (5 * n) || (Nat.beq (m - s) 1 || hck hd R n s (pg0 P c (m - s)))))))
theorem natH_le {P : List (List Nat)} {hd : Nat → Nat} {b c m R v : Nat} (h : natH P hd b c m R = true) (hm : m ≤ 17) (g : BGh P hd b c m v) : v ≤ R := by
  obtain ⟨n, s, V, ⟨l, l1, l2, l3, l4⟩, a1, a2, a3, a4, a5, a6⟩ := g
  unfold natH at h
  rw [Bool.and_eq_true] at h
  obtain ⟨h1, h2⟩ := h
  by_cases e : n = 0
  · have e2 := a4 e
    have e3 := Nat.le_of_ble_eq_true h1
    have e4 : l = [] := List.eq_nil_of_length_eq_zero (by omega)
    rw [e4] at l4
    have l4 : V = 0 := l4
    rw [e2, Nat.sub_zero, l4] at a6
    omega
  · have q := List.all_eq_true.mp h2 n (List.mem_range.mpr (by omega))
    have nb : ∀ {x y : Nat}, y ≤ x → Nat.blt x y = true → False := by
      intro x y hxy hb
      have hb : Nat.ble (x + 1) y = true := hb
      have := Nat.le_of_ble_eq_true hb
      omega
    rw [Bool.or_eq_true] at q
    rcases q with q | q
    · exact absurd (Nat.eq_of_beq_eq_true q) e
    have q := List.all_eq_true.mp q s (List.mem_range.mpr (by omega))
    rw [Bool.or_eq_true, Bool.or_eq_true, Bool.or_eq_true, Bool.or_eq_true] at q
    rcases q with q | q | q | q | q
    · exact (nb a1 q).elim
    · exact (nb a2 q).elim
    · exact (nb a3 q).elim
    · exact absurd (Nat.eq_of_beq_eq_true q) (a5 (by omega))
    · rw [← l1, ← l2] at q
      have q2 := hck_le l _ l3 q
      rw [l2] at q2
      omega
