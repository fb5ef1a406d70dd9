/-! TABLES FOR WHAT IS WORTH BY NATURE. -/
/-- the tables of arguments -/
def Zr0 (s : Nat) : Nat := 2 * (s / 4) + (2 * (s / 7) + (3 * (s / 13) + (s / 17 + (5 * (s / 18) + 5 * (s / 22)))))
def Zg0 (s : Nat) : Nat := s / 3 + (2 * (s / 6) + (2 * (s / 9) + (2 * (s / 15) + (3 * (s / 21) + 2 * (s / 22)))))
def Zr (x s : Nat) : Nat := Zr0 s + s / 3 * x
def Zg (x s : Nat) : Nat := Zg0 s + s / 3 * x
theorem dsa (d s t : Nat) (hd : 0 < d) : s / d + t / d ≤ (s + t) / d := by
  rw [Nat.le_div_iff_mul_le hd, Nat.add_mul]
  have a := Nat.div_mul_le_self s d
  have b := Nat.div_mul_le_self t d
  exact Nat.add_le_add a b
theorem lin6 {a1 a2 a3 a4 a5 a6 b1 b2 b3 b4 b5 b6 c1 c2 c3 c4 c5 c6 k1 k2 k3 k4 k5 k6 : Nat} (h1 : a1 + b1 ≤ c1) (h2 : a2 + b2 ≤ c2) (h3 : a3 + b3 ≤ c3) (h4 : a4 + b4 ≤ c4) (h5 : a5 + b5 ≤ c5) (h6 : a6 + b6 ≤ c6) : (k1 * a1 + (k2 * a2 + (k3 * a3 + (k4 * a4 + (k5 * a5 + k6 * a6))))) + (k1 * b1 + (k2 * b2 + (k3 * b3 + (k4 * b4 + (k5 * b5 + k6 * b6))))) ≤ k1 * c1 + (k2 * c2 + (k3 * c3 + (k4 * c4 + (k5 * c5 + k6 * c6)))) := by
  have m1 := Nat.mul_le_mul_left k1 h1
  have m2 := Nat.mul_le_mul_left k2 h2
  have m3 := Nat.mul_le_mul_left k3 h3
  have m4 := Nat.mul_le_mul_left k4 h4
  have m5 := Nat.mul_le_mul_left k5 h5
  have m6 := Nat.mul_le_mul_left k6 h6
  rw [Nat.mul_add] at m1 m2 m3 m4 m5 m6
  omega
theorem Zr0_sa (s t : Nat) : Zr0 s + Zr0 t ≤ Zr0 (s + t) := by
  have := lin6 (k1 := 2) (k2 := 2) (k3 := 3) (k4 := 1) (k5 := 5) (k6 := 5) (dsa 4 s t (by decide)) (dsa 7 s t (by decide)) (dsa 13 s t (by decide)) (dsa 17 s t (by decide)) (dsa 18 s t (by decide)) (dsa 22 s t (by decide))
  rw [Nat.one_mul, Nat.one_mul, Nat.one_mul] at this
  exact this
theorem Zg0_sa (s t : Nat) : Zg0 s + Zg0 t ≤ Zg0 (s + t) := by
  have := lin6 (k1 := 1) (k2 := 2) (k3 := 2) (k4 := 2) (k5 := 3) (k6 := 2) (dsa 3 s t (by decide)) (dsa 6 s t (by decide)) (dsa 9 s t (by decide)) (dsa 15 s t (by decide)) (dsa 21 s t (by decide)) (dsa 22 s t (by decide))
  rw [Nat.one_mul, Nat.one_mul, Nat.one_mul] at this
  exact this
theorem ZOk_of {f : Nat → Nat} (f0 : f 0 = 0) (fs : ∀ s t, f s + f t ≤ f (s + t)) (x : Nat) : ZOk (fun s => f s + s / 3 * x) := by
  have sa : ∀ s t, (f s + s / 3 * x) + (f t + t / 3 * x) ≤ f (s + t) + (s + t) / 3 * x := by
    intro s t
    have a := fs s t
    have b := Nat.mul_le_mul_right x (dsa 3 s t (by decide))
    rw [Nat.add_mul] at b
    generalize (s + t) / 3 * x = u at b ⊢
    generalize s / 3 * x = v at b ⊢
    generalize t / 3 * x = w at b ⊢
    omega
  refine ⟨?_, fun s => ?_, sa⟩
  · show f 0 + 0 / 3 * x = 0
    rw [f0, Nat.zero_div, Nat.zero_mul]
  · exact Nat.le_trans (Nat.le_add_right _ _) (sa s 1)
theorem Zr_ok (x : Nat) : ZOk (Zr x) := ZOk_of (f := Zr0) rfl Zr0_sa x
theorem Zg_ok (x : Nat) : ZOk (Zg x) := ZOk_of (f := Zg0) rfl Zg0_sa x
def zrck (F : FrT) (Zf : Nat → Nat) : Bool := (List.range 21).all (fun i => (frg F (i + 1)).all (fun w => Nat.ble w.2 (Zf (i + 3)) && Nat.ble w.1 ((i + 3) / 3)))
theorem zr_ck : zrck fr1 Zr0 = true := by decide +kernel
theorem zg_ck : zrck frq Zg0 = true := by decide +kernel
theorem zr_le {q x : Nat} (h1 : 1 ≤ q) (h2 : q ≤ 21) : ∀ w ∈ frg fr1 q, w.2 + w.1 * x ≤ Zr x (q + 2) := by
  intro w hw
  have q0 := zr_ck
  unfold zrck at q0
  have q1 := rng_all q0 (i := q - 1) (by omega)
  clear q0
  rw [show q - 1 + 1 = q by omega, show q - 1 + 3 = q + 2 by omega] at q1
  have q2 := List.all_eq_true.mp q1 w hw
  rw [Bool.and_eq_true] at q2
  have a := Nat.le_of_ble_eq_true q2.1
  have b := Nat.mul_le_mul_right x (Nat.le_of_ble_eq_true q2.2)
  show w.2 + w.1 * x ≤ Zr0 (q + 2) + (q + 2) / 3 * x
  exact Nat.add_le_add a b
theorem zg_le {q x : Nat} (h1 : 1 ≤ q) (h2 : q ≤ 21) : ∀ w ∈ frg frq q, w.2 + w.1 * x ≤ Zg x (q + 2) := by
  intro w hw
  have q0 := zg_ck
  unfold zrck at q0
  have q1 := rng_all q0 (i := q - 1) (by omega)
  clear q0
  rw [show q - 1 + 1 = q by omega, show q - 1 + 3 = q + 2 by omega] at q1
  have q2 := List.all_eq_true.mp q1 w hw
  rw [Bool.and_eq_true] at q2
  have a := Nat.le_of_ble_eq_true q2.1
  have b := Nat.mul_le_mul_right x (Nat.le_of_ble_eq_true q2.2)
  show w.2 + w.1 * x ≤ Zg0 (q + 2) + (q + 2) / 3 * x
  exact Nat.add_le_add a b
/-- the budget is at most B -/
def natB (P : List (List Nat)) (Z : Nat → Nat) (C m E0 p B : Nat) : Bool := (List.range (m / 5 + 2)).all (fun n => (List.range (m + 1)).all (fun s => Nat.ble (s + 1) (3 * n) || (Nat.ble (m + 3) (5 * n) || Nat.ble (n * E0 + p * Z s + pg0 P C (m - s)) B)))
theorem natB_le {P : List (List Nat)} {Z : Nat → Nat} {C m E0 p B v : Nat} (h : natB P Z C m E0 p B = true) (b : BF P E0 p Z C m v) : v ≤ B := by
  obtain ⟨n, s, a1, a2, a3, -, -, a6⟩ := b
  unfold natB at h
  have q := rng_all (rng_all h (i := n) (by omega)) (i := s) (by omega)
  rw [Bool.or_eq_true, Bool.or_eq_true] at q
  rcases q with q | q | q
  · have := Nat.le_of_ble_eq_true q; omega
  · have := Nat.le_of_ble_eq_true q; omega
  · exact Nat.le_trans a6 (Nat.le_of_ble_eq_true q)
/-- leaves by characters -/
def lmx (F : FrT) (k : Nat) : Nat := (List.range (k + 1)).foldl (fun m i => (frg F i).foldl (fun m w => max m w.1) m) 0
theorem foldl_max_ge : ∀ (l : List (Nat × Nat)) (m : Nat), m ≤ l.foldl (fun m w => max m w.1) m ∧ ∀ w ∈ l, w.1 ≤ l.foldl (fun m w => max m w.1) m
  | [], m => ⟨Nat.le_refl _, fun w hw => by cases hw⟩
  | a :: l, m => by
    obtain ⟨h1, h2⟩ := foldl_max_ge l (max m a.1)
    refine ⟨Nat.le_trans (Nat.le_max_left _ _) h1, fun w hw => ?_⟩
    rcases List.mem_cons.mp hw with e | e
    · rw [e]; exact Nat.le_trans (Nat.le_max_right _ _) h1
    · exact h2 w e
theorem lmx_step (F : FrT) (k : Nat) : lmx F (k + 1) = (frg F (k + 1)).foldl (fun m w => max m w.1) (lmx F k) := by
  unfold lmx
  rw [List.range_succ, List.foldl_append]
  rfl
theorem lmx_mono (F : FrT) : ∀ {j k : Nat}, j ≤ k → lmx F j ≤ lmx F k
  | j, 0, e => by rw [show j = 0 by omega]; exact Nat.le_refl _
  | j, k + 1, e => by
    by_cases c : j = k + 1
    · rw [c]; exact Nat.le_refl _
    · have := lmx_mono F (show j ≤ k by omega)
      rw [lmx_step]
      exact Nat.le_trans this (foldl_max_ge _ _).1
theorem lmx_ge (F : FrT) {k : Nat} (hk : 1 ≤ k) : ∀ w ∈ frg F k, w.1 ≤ lmx F k := by
  intro w hw
  obtain ⟨j, rfl⟩ : ∃ j, k = j + 1 := ⟨k - 1, by omega⟩
  rw [lmx_step]
  exact (foldl_max_ge _ _).2 w hw
theorem flv_lmx {t : Ty} {d k : Nat} (o : ok d t = true) (ht : tch t ≤ k) (hk : k ≤ 56) : flv t ≤ lmx fr1 k := by
  obtain ⟨w, hw, l1, -⟩ := fr_lfa (t0 := 0) (n1 := fun _ => 1 + 1) (tbs1 true).1 (tbs1 true).2.2.2.1 (tbs1 true).2.2.2.2.1 _ t d (Nat.le_refl _) o (by omega)
  exact Nat.le_trans l1 (Nat.le_trans (lmx_ge fr1 (tch_pos o) w hw) (lmx_mono fr1 ht))
