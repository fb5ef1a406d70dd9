/-! CONTEXTS WITHOUT A SCHEME: the checks. -/
def z0R (e : Bool) (ob a b m0 m1 : Nat) : Bool := (List.range b).all (fun c => Nat.blt c a || (List.range m1).all (fun m => Nat.blt m m0 || (Nat.blt 58 (c + 2 * m) || (Nat.ble 1 (fx1.getD c 0) && (if e then Nat.ble (dpD true fr1 fg1 5 1 2 3 2 2 2 2 0 0 0 ob 0 (fx1.getD c 0) 0 m) 887 else (Nat.blt (58 - 2 * m - c) 5 || Nat.ble (dpD true fr1 fg1 0 1 2 3 2 2 2 2 0 0 0 ob 0 (fx1.getD c 0) (58 - 2 * m - c) m) 887))))))
theorem z0R_get {e : Bool} {ob a b m0 m1 c m : Nat} (h : z0R e ob a b m0 m1 = true) (ha : a ≤ c) (hb : c < b) (h0 : m0 ≤ m) (h1 : m < m1) (hc : c + 2 * m ≤ 58) : T0R true e ob (58 - 2 * m - c) m (fx1.getD c 0) := by
  unfold z0R at h
  have q := rng_all h (i := c) hb
  rw [Bool.or_eq_true] at q
  rcases q with q | q
  · exact (blt_no ha q).elim
  have q := rng_all q (i := m) h1
  rw [Bool.or_eq_true, Bool.or_eq_true, Bool.and_eq_true] at q
  rcases q with q | q | q
  · exact (blt_no h0 q).elim
  · exact (blt_no hc q).elim
  refine ⟨Nat.le_of_ble_eq_true q.1, ?_⟩
  cases e with
  | true => exact ⟨(fun e => by cases e), fun _ => Nat.le_of_ble_eq_true q.2⟩
  | false =>
    refine ⟨fun _ h5 => ?_, (fun e => by cases e)⟩
    have q2 := q.2
    rw [if_neg (by decide), Bool.or_eq_true] at q2
    rcases q2 with q2 | q2
    · exact (blt_no h5 q2).elim
    · exact Nat.le_of_ble_eq_true q2
def z0G (e : Bool) (ob a b m0 m1 : Nat) : Bool := (List.range b).all (fun c => Nat.blt c a || (List.range m1).all (fun m => Nat.blt m m0 || (Nat.blt 58 (c + 2 * m) || (Nat.ble 1 (fxq.getD c 0) && (if e then Nat.ble (dpD true frq fgq 5 0 1 1 1 3 2 1 0 0 0 ob 0 (fxq.getD c 0) 0 m) 597 else (Nat.blt (58 - 2 * m - c) 5 || Nat.ble (dpD true frq fgq 0 0 1 1 1 3 2 1 0 0 0 ob 0 (fxq.getD c 0) (58 - 2 * m - c) m) 597))))))
theorem z0G_get {e : Bool} {ob a b m0 m1 c m : Nat} (h : z0G e ob a b m0 m1 = true) (ha : a ≤ c) (hb : c < b) (h0 : m0 ≤ m) (h1 : m < m1) (hc : c + 2 * m ≤ 58) : T0G true e ob (58 - 2 * m - c) m (fxq.getD c 0) := by
  unfold z0G at h
  have q := rng_all h (i := c) hb
  rw [Bool.or_eq_true] at q
  rcases q with q | q
  · exact (blt_no ha q).elim
  have q := rng_all q (i := m) h1
  rw [Bool.or_eq_true, Bool.or_eq_true, Bool.and_eq_true] at q
  rcases q with q | q | q
  · exact (blt_no h0 q).elim
  · exact (blt_no hc q).elim
  refine ⟨Nat.le_of_ble_eq_true q.1, ?_⟩
  cases e with
  | true => exact ⟨(fun e => by cases e), fun _ => Nat.le_of_ble_eq_true q.2⟩
  | false =>
    refine ⟨fun _ h5 => ?_, (fun e => by cases e)⟩
    have q2 := q.2
    rw [if_neg (by decide), Bool.or_eq_true] at q2
    rcases q2 with q2 | q2
    · exact (blt_no h5 q2).elim
    · exact Nat.le_of_ble_eq_true q2
