/-! BY NATURE, the place of the greatest value given. -/
/-- rows of the table go up -/
def frm (F : FrT) : Bool := (List.range 56).all (fun r => (frg F r).all (fun e => dom e.1 e.2 (frg F (r + 1))))
theorem frm_le {F : FrT} (h : frm F = true) {r : Nat} : ∀ {q : Nat} {e : Nat × Nat}, r ≤ q → q ≤ 56 → e ∈ frg F r → ∃ e' ∈ frg F q, e.1 ≤ e'.1 ∧ e.2 ≤ e'.2
  | 0, e, h1, _, he => by
    have : r = 0 := by omega
    subst this
    exact ⟨e, he, Nat.le_refl _, Nat.le_refl _⟩
  | q + 1, e, h1, h2, he => by
    by_cases c : r = q + 1
    · subst c
      exact ⟨e, he, Nat.le_refl _, Nat.le_refl _⟩
    · obtain ⟨e', he', g1, g2⟩ := frm_le h (q := q) (by omega) (by omega) he
      unfold frm at h
      obtain ⟨e2, he2, k1, k2⟩ := dom_ex (List.all_eq_true.mp (rng_all h (i := q) (by omega)) e' he')
      exact ⟨e2, he2, by omega, by omega⟩
theorem Zx_top {x R : Nat} : ∀ (l : List (Nat × Nat)), (∀ u ∈ l, u.2 + u.1 * x ≤ R) → l.foldr (fun u a => max (u.2 + u.1 * x) a) 0 ≤ R
  | [], _ => Nat.zero_le _
  | a :: l, h => by
    rw [List.foldr_cons]
    have h1 := h a (List.mem_cons_self ..)
    have h2 := Zx_top l (fun u hu => h u (List.mem_cons_of_mem _ hu))
    omega
theorem Zx_ms {F : FrT} (h : frm F = true) {x s s' : Nat} (hs : s ≤ s') (h2 : s' ≤ 58) : Zx F x s ≤ Zx F x s' := by
  unfold Zx
  refine Zx_top _ (fun u hu => ?_)
  obtain ⟨u', hu', g1, g2⟩ := frm_le h (show s - 2 ≤ s' - 2 by omega) (by omega) hu
  have := Nat.mul_le_mul_right x g1
  exact Nat.le_trans (by omega) (Zx_mem _ u' hu')
theorem fr1_m : frm fr1 = true := by decide +kernel
theorem frq_m : frm frq = true := by decide +kernel
def eby (F : FrT) (hv y m E0 p wB ob z : Nat) : Nat := max (max (E0 + p * max z wB) (y + ob * z)) (Zx F (max (max z y) (hv + max 1 (Zx F y (m - 5)))) (m - 5))
theorem eby_mono {F : FrT} {hv y m E0 p wB ob : Nat} (z z' : Nat) (h : z ≤ z') : eby F hv y m E0 p wB ob z ≤ eby F hv y m E0 p wB ob z' := by
  have h1 := Zx_mono (F := F) (show max (max z y) (hv + max 1 (Zx F y (m - 5))) ≤ max (max z' y) (hv + max 1 (Zx F y (m - 5))) by omega) (m - 5)
  have h2 := Nat.mul_le_mul_left p (show max z wB ≤ max z' wB by omega)
  have h3 := Nat.mul_le_mul_left ob h
  unfold eby
  omega
/-- every list of n heads with s characters in all is worth at most R, V besides -/
def hcl (hd : Nat → Nat) (R : Nat) : Nat → Nat → Nat → Bool
  | 0, _, V => Nat.ble V R
  | 1, s, V => Nat.blt s 3 || Nat.ble (V + hd s) R
  | n + 2, s, V => (List.range (s + 1)).all (fun x => Nat.blt x 3 || (Nat.blt (s - x) 3 || hcl hd R (n + 1) (s - x) (V + hd x)))
theorem blt_no {x y : Nat} (h : y ≤ x) (hb : Nat.blt x y = true) : False := by
  have hb : Nat.ble (x + 1) y = true := hb
  have := Nat.le_of_ble_eq_true hb
  omega
theorem hcl_le {hd : Nat → Nat} {R : Nat} : ∀ (l : List Nat) (V : Nat), (∀ x ∈ l, 3 ≤ x) → hcl hd R l.length l.sum V = true → V + (l.map hd).sum ≤ R
  | [], V, _, h => by
    have h : Nat.ble V R = true := h
    have := Nat.le_of_ble_eq_true h
    simpa using this
  | [x], V, hx, h => by
    have x3 := hx x (List.mem_singleton.mpr rfl)
    have h : (Nat.blt (x + 0) 3 || Nat.ble (V + hd (x + 0)) R) = true := h
    rw [Nat.add_zero, Bool.or_eq_true] at h
    rcases h with h | h
    · exact (blt_no x3 h).elim
    · have := Nat.le_of_ble_eq_true h
      simpa using this
  | x :: y :: l, V, hx, h => by
    have x3 := hx x (List.mem_cons_self ..)
    have y3 := hx y (List.mem_cons_of_mem _ (List.mem_cons_self ..))
    have h : (List.range ((x :: y :: l).sum + 1)).all (fun z => Nat.blt z 3 || (Nat.blt ((x :: y :: l).sum - z) 3 || hcl hd R (y :: l).length ((x :: y :: l).sum - z) (V + hd z))) = true := h
    rw [List.sum_cons] at h
    have hs : y ≤ (y :: l).sum := by rw [List.sum_cons]; omega
    have q := List.all_eq_true.mp h x (List.mem_range.mpr (by omega))
    rw [show x + (y :: l).sum - x = (y :: l).sum by omega, Bool.or_eq_true, Bool.or_eq_true] at q
    rcases q with q | q | q
    · exact (blt_no x3 q).elim
    · exact (blt_no (by omega) q).elim
    · have ih := hcl_le (y :: l) (V + hd x) (fun z hz => hx z (List.mem_cons_of_mem _ hz)) q
      rw [List.map_cons, List.sum_cons]
      omega
/-- the budget is at most R -/
def natL (P : List (List Nat)) (hd : Nat → Nat) (c m R : Nat) : Bool := Nat.ble (pg0 P c m) R && (List.range 4).all (fun n => Nat.beq n 0 || (Nat.blt (m + 2) (5 * n) || (List.range (m + 1)).all (fun s => Nat.blt s (3 * n) || (Nat.beq (m - s) 1 || hcl hd R n s (pg0 P c (m - s))))))
theorem natL_le {P : List (List Nat)} {hd : Nat → Nat} {b c m R v : Nat} (h : natL P hd c m R = true) (hm : m ≤ 17) (g : BGh P hd b c m v) : v ≤ R := by
  obtain ⟨n, s, V, ⟨l, l1, l2, l3, l4⟩, a1, a2, a3, a4, a5, a6⟩ := g
  unfold natL at h
  rw [Bool.and_eq_true] at h
  obtain ⟨h1, h2⟩ := h
  by_cases e : n = 0
  · have e2 := a4 e
    have e3 := Nat.le_of_ble_eq_true h1
    have e4 : l = [] := List.eq_nil_of_length_eq_zero (by omega)
    rw [e4] at l4
    have l4 : V = 0 := l4
    rw [e2, Nat.sub_zero, l4] at a6
    omega
  · have q := List.all_eq_true.mp h2 n (List.mem_range.mpr (by omega))
    rw [Bool.or_eq_true] at q
    rcases q with q | q
    · exact absurd (Nat.eq_of_beq_eq_true q) e
    rw [Bool.or_eq_true] at q
    rcases q with q | q
    · exact (blt_no a3 q).elim
    have q := List.all_eq_true.mp q s (List.mem_range.mpr (by omega))
    rw [Bool.or_eq_true, Bool.or_eq_true] at q
    rcases q with q | q | q
    · exact (blt_no a2 q).elim
    · exact absurd (Nat.eq_of_beq_eq_true q) (a5 (by omega))
    · rw [← l1, ← l2] at q
      have q2 := hcl_le l _ l3 q
      rw [l2] at q2
      omega
def smY1 (P : List (List Nat)) (F : FrT) (X : List Nat) (hv E0 p wB ob y cv cd m Bd : Nat) : Bool := Nat.ble y (X.getD cv 0) && (Nat.ble (cv + cd + 2 * m) 58 && natL P (hdg (max y (Zx F y (m - 3))) (eby F hv y m E0 p wB ob) (Zx F y)) (cv + cd) m Bd)
