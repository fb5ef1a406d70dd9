/-! THE ZONE, by nature: any term without a choice under an operation. -/
theorem lnd_get {un : Bool} {L : LnT} {F W : FrT} {hv fn s2 r0 r1 r2 r3 wB Bd a b m0 m1 c m : Nat} (h : lnd un L F W hv fn s2 r0 r1 r2 r3 wB Bd a b m0 m1 = true) (ha : a ≤ c) (hb : c < b) (h0 : m0 ≤ m) (h1 : m < m1) (hc : c + 2 * m ≤ 58) {s : Nat × Nat × Nat × Nat × Nat × Nat} (hs : s ∈ lng L c) : (5 ≤ 58 - 2 * m - c → dpD un F W 0 hv fn s2 r0 r1 r2 r3 s.2.2.1 s.2.2.2.1 wB s.2.2.2.2.1 s.2.2.2.2.2 s.1 (58 - 2 * m - c) m ≤ Bd) ∧ dpD un F W 5 hv fn s2 r0 r1 r2 r3 s.2.2.1 s.2.2.2.1 wB s.2.2.2.2.1 s.2.2.2.2.2 s.1 0 m ≤ Bd := by
  unfold lnd at h
  have q := rng_all h (i := c) hb
  rw [Bool.or_eq_true] at q
  rcases q with q | q
  · exact (blt_no ha q).elim
  have q := rng_all (List.all_eq_true.mp q s hs) (i := m) h1
  rw [Bool.or_eq_true, Bool.or_eq_true] at q
  rcases q with q | q | q
  · exact (blt_no h0 q).elim
  · exact (blt_no hc q).elim
  rw [Bool.and_eq_true, Bool.or_eq_true] at q
  refine ⟨fun h5 => ?_, Nat.le_of_ble_eq_true q.2⟩
  rcases q.1 with e | e
  · exact (blt_no h5 e).elim
  · exact Nat.le_of_ble_eq_true e
theorem lnz_e1 {W : FrT} (h : fg1s W = true) {r : Nat} (hr : r ≤ 38) {e : Nat × Nat} (he : e ∈ frg W r) : 1 ≤ e.1 := by
  unfold fg1s at h
  have q := rng_all h (i := r) (by omega)
  rw [Bool.and_eq_true] at q
  exact Nat.le_of_ble_eq_true (List.all_eq_true.mp q.2 e he)
section PmX8
variable {f : Nat} {t C : Ty} {Γ0 Δ1 : List Ty} {Δ : List (Nat × Ty × Nat)} {o : Bool}
theorem dch_five : ∀ {Δ : List (Nat × Ty × Nat)} {Γ : List Ty}, TE Γ Δ → Δ ≠ [] → 5 ≤ dch Δ
  | [], _, _, e => absurd rfl e
  | a :: Δ, Γ, he, _ => by
    have := tch_pos (he.2.2 a (List.mem_cons_self ..)).2.1
    show 5 ≤ (tch a.2.1 + 4) + dch Δ
    omega
end PmX8
