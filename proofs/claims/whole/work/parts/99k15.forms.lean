/-! FORMS: a type is worth at most a + l * x when every variable is worth at most x; tables of (l, a) by characters. -/
def FM (t0 : Nat) (n1 : Nat → Nat) (s2 : Nat) (h : Nat → Nat) (x0 : Nat) (t : Ty) (l a : Nat) : Prop := ∀ (x : Nat) (ω : List Nat), x0 ≤ x → (∀ j, j < ω.length → vw ω j ≤ x) → ok ω.length t = true → nz t0 n1 s2 h ω t ≤ a + l * x
section PmKh
variable {t0 s2 hv x0 : Nat} {n1 h : Nat → Nat} {t a b : Ty} {l l1 l2 c c1 c2 : Nat}
theorem FM.mono (f : FM t0 n1 s2 h x0 t l c) (h1 : l ≤ l1) (h2 : c ≤ c1) : FM t0 n1 s2 h x0 t l1 c1 := by
  intro x ω hx hω o
  have := f x ω hx hω o
  have := Nat.mul_le_mul_right x h1
  omega
theorem FM_top : FM t0 n1 s2 h x0 tTop 0 t0 := by
  intro x ω _ _ _
  rw [nz_top]; omega
theorem FM_var (k : Nat) : FM t0 n1 s2 h x0 (tVar k) 1 0 := by
  intro x ω _ hω o
  rw [nz_var]
  have hk : k < ω.length := by simp [tVar, ok] at o; omega
  have := hω k hk
  omega
theorem FM_fun (f : FM t0 n1 s2 h x0 a l1 c1) (g : FM t0 n1 s2 h x0 b l2 c2) : FM t0 n1 s2 h x0 (tFun a b) (l1 + l2) (n1 1 + c1 + c2) := by
  intro x ω hx hω o
  have o := ok_fun.mp o
  have q1 := f x ω hx hω o.1
  have q2 := g x ω hx hω o.2
  rw [nz_fun, Nat.add_mul]; omega
theorem FM_all (H : ∀ y x, x0 ≤ x → h y ≤ hv + max y x) (f : FM t0 n1 s2 h x0 a l1 c1) (g : FM t0 n1 s2 h x0 b l2 c2) : FM t0 n1 s2 h x0 (tAll a b) (l2 * max 1 l1) (s2 + c2 + l2 * (hv + c1)) := by
  intro x ω hx hω o
  have o := ok_all.mp o
  have q1 := f x ω hx hω o.1
  rw [nz_all]
  have m1 : x ≤ max 1 l1 * x := by
    have := Nat.mul_le_mul_right x (Nat.le_max_left 1 l1)
    omega
  have m2 : l1 * x ≤ max 1 l1 * x := Nat.mul_le_mul_right x (Nat.le_max_right 1 l1)
  have q3 : h (nz t0 n1 s2 h ω a) ≤ (hv + c1) + max 1 l1 * x := by
    have := H (nz t0 n1 s2 h ω a) x hx
    omega
  have q2 := g ((hv + c1) + max 1 l1 * x) (h (nz t0 n1 s2 h ω a) :: ω) (by omega) (fun j hj => by
    rw [vw_cons]
    by_cases e : j = ω.length
    · rw [if_pos e]; exact q3
    · rw [if_neg e]
      have := hω j (by rw [List.length_cons] at hj; omega)
      omega) o.2
  have e1 : l2 * ((hv + c1) + max 1 l1 * x) = l2 * (hv + c1) + l2 * max 1 l1 * x := by rw [Nat.mul_add, Nat.mul_assoc]
  omega
theorem FM_rec {m : Nat} (hm : m < 8) {x y z : Ty} {l0 l1 l2 c0 c1 c2 : Nat} (f0 : bit m 0 = true → FM t0 n1 s2 h x0 x l0 c0) (f1 : bit m 1 = true → FM t0 n1 s2 h x0 y l1 c1) (f2 : bit m 2 = true → FM t0 n1 s2 h x0 z l2 c2) : FM t0 n1 s2 h x0 (tRec m x y z) (l0 + (l1 + l2)) (n1 (8 + m) + (c0 + (c1 + c2))) := by
  intro v ω hx hω o
  obtain ⟨o0, o1, o2⟩ := (ok_rec hm).mp o
  have key : ∀ (i l c : Nat) (p : Ty), okl ω.length m i p → (bit m i = true → FM t0 n1 s2 h x0 p l c) → nz t0 n1 s2 h ω p ≤ c + l * v := by
    intro i l c p ho f
    unfold okl at ho
    by_cases hb : bit m i = true
    · rw [if_pos hb] at ho
      exact f hb v ω hx hω ho
    · rw [if_neg hb] at ho
      rw [ho, nz_nil]; exact Nat.zero_le _
  have q0 := key 0 l0 c0 x o0 f0
  have q1 := key 1 l1 c1 y o1 f1
  have q2 := key 2 l2 c2 z o2 f2
  rw [nz_rec, Nat.add_mul, Nat.add_mul]; omega
end PmKh
abbrev FrT : Type := List (List (Nat × Nat))
def frg (F : FrT) (k : Nat) : List (Nat × Nat) := F.getD k []
def dom (l a : Nat) (L : List (Nat × Nat)) : Bool := L.any (fun p => decide (l ≤ p.1) && decide (a ≤ p.2))
theorem dom_ex {l a : Nat} {L : List (Nat × Nat)} (h : dom l a L = true) : ∃ p ∈ L, l ≤ p.1 ∧ a ≤ p.2 := by
  unfold dom at h
  rw [List.any_eq_true] at h
  obtain ⟨p, hp, h⟩ := h
  rw [Bool.and_eq_true, decide_eq_true_iff, decide_eq_true_iff] at h
  exact ⟨p, hp, h⟩
/-- the tables are closed: F by characters, G for two fields -/
def frc (F G : FrT) (t0 fn s2 hv r0 r1 r2 r3 : Nat) : Bool :=
  (List.range 56).all (fun i => dom 0 t0 (frg F (i + 1)) && (dom 1 0 (frg F (i + 1)) && (decide (i = 0) || dom 0 r0 (frg F (i + 1))))) &&
  ((List.range 53).all (fun i => (frg F (i + 1)).all (fun p => dom p.1 (r1 + p.2) (frg F (i + 4)))) &&
  ((List.range 51).all (fun i => (frg G (i + 1)).all (fun p => dom p.1 (r2 + p.2) (frg F (i + 6)))) &&
  (List.range 56).all (fun i => (List.range (55 - i)).all (fun j =>
    ((frg F (i + 1)).all (fun p => (frg F (j + 1)).all (fun q => dom (p.1 + q.1) (p.2 + q.2) (frg G (i + j + 2))))) &&
    ((decide (51 < i + j) || (frg F (i + 1)).all (fun p => (frg F (j + 1)).all (fun q => dom (p.1 + q.1) (fn + p.2 + q.2) (frg F (i + j + 5))))) &&
    ((decide (50 < i + j) || (frg F (i + 1)).all (fun p => (frg F (j + 1)).all (fun q => dom (q.1 * max 1 p.1) (s2 + q.2 + q.1 * (hv + p.2)) (frg F (i + j + 6))))) &&
    (decide (47 < i + j) || (frg G (i + 1)).all (fun p => (frg F (j + 1)).all (fun q => dom (p.1 + q.1) (r3 + (p.2 + q.2)) (frg F (i + j + 9)))))))))))
/-- the heaviest variable by the characters of the bounds -/
def fxc (F : FrT) (X : List Nat) (hv x0 : Nat) : Bool :=
  decide (x0 ≤ X.getD 0 0) && (List.range 56).all (fun c => decide (X.getD c 0 ≤ X.getD (c + 1) 0) && (List.range (c - 3)).all (fun k => (frg F (k + 1)).all (fun p => decide (hv + p.2 + p.1 * X.getD (c + 1 - 4 - (k + 1)) 0 ≤ X.getD (c + 1) 0))))
