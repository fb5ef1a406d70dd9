/-! TERMS, THEIR HEADS COUNTED EXACTLY. -/
/-- characters of the types' binders in a term, n operations waiting -/
def bqk : Nat → Ty → Nat → Nat
  | 0, _, _ => 0
  | f + 1, t, n => if nKd t = 5 then 0 else if nKd t = 6 then bqk f (nY t) (n - 1) else if nKd t = 7 ∨ nKd t = 11 then bqk f (nX t) (n + 1) else if nKd t = 8 then bqk f (nY t) (n - 1) + (tch (nX t) + 4) else if nKd t = 9 then bqk f (nX t) (n + 1) else if nKd t = 10 then (if n = 0 then (if bit (nMk t) 0 = true then bqk f (nX t) 0 else 0) + (if bit (nMk t) 1 = true then bqk f (nY t) 0 else 0) + (if bit (nMk t) 2 = true then bqk f (nZ t) 0 else 0) else 0) else bqk f (nX t) 0 + bqk f (nY t) 0
/-- arguments and bounds in a term -/
def AQh (t0 : Nat) (n1 : Nat → Nat) (s2 : Nat) (h : Nat → Nat) (E : Stk → Nat) (Z : Nat → Nat) : Nat → Ty → Stk → List Nat → Prop
  | 0, _, _, _ => True
  | f + 1, t, π, ω =>
    (nKd t = 6 → (π = [] → AQh t0 n1 s2 h E Z f (nY t) [] ω) ∧ ∀ ρ, π = none :: ρ → AQh t0 n1 s2 h E Z f (nY t) ρ ω) ∧
    (nKd t = 7 ∨ nKd t = 11 → AQh t0 n1 s2 h E Z f (nX t) (none :: π) ω) ∧
    (nKd t = 8 → (∀ ρ, ρ ≠ [] → vz t0 n1 s2 h E (nX t) ρ ω ≤ E ρ) ∧ (π = [] → AQh t0 n1 s2 h E Z f (nY t) [] (h (nz t0 n1 s2 h ω (nX t)) :: ω)) ∧ ∀ z ρ, π = some z :: ρ → AQh t0 n1 s2 h E Z f (nY t) ρ (hzx h z (nz t0 n1 s2 h ω (nX t)) :: ω)) ∧
    (nKd t = 9 → ((∀ ρ, ρ ≠ [] → vz t0 n1 s2 h E (nY t) ρ ω ≤ E ρ) ∧ nz t0 n1 s2 h ω (nY t) ≤ Z (tch (nY t) + 2)) ∧ AQh t0 n1 s2 h E Z f (nX t) (some (nz t0 n1 s2 h ω (nY t)) :: π) ω) ∧
    (nKd t = 10 → ∀ g, g < 3 → bit (nMk t) g = true → (π = [] → AQh t0 n1 s2 h E Z f (nP t g) [] ω) ∧ ∀ ρ, π = none :: ρ → AQh t0 n1 s2 h E Z f (nP t g) ρ ω) ∧
    (nKd t = 12 → AQh t0 n1 s2 h E Z f (nX t) π ω ∧ AQh t0 n1 s2 h E Z f (nY t) π ω)
section PmS2
variable {N t0 fn s2 hv r0 r1 r2 r3 x0 X7 : Nat} {n1 h : Nat → Nat} {E : Stk → Nat} {P Q : List (List Nat)} {F G : FrT} {X : List Nat} {Z hd : Nat → Nat}
/-- a record -/
theorem BGh_rec (T : TBs N t0 fn s2 hv r0 r1 r2 r3 x0 n1 h P Q F G X) (hx : PXk N P F X fn s2 r1 = true) (h21 : r2 ≤ r1) (h32 : r3 ≤ r2) {k c a b d va vb vd ba bb bd : Nat} (k8 : k < 8) (c2 : 2 ≤ c) (k0 : bit k 0 = true → BGh P hd ba c a va) (k1 : bit k 1 = true → BGh P hd bb c b vb) (k2 : bit k 2 = true → BGh P hd bd c d vd) (z0 : bit k 0 = false → a = 0) (z1 : bit k 1 = false → b = 0) (z2 : bit k 2 = false → d = 0) (hb : c + 2 * ((if k = 0 then 2 else 1 + 3 * nlb k) + (a + (b + d))) ≤ N) : BGh P hd ((if bit k 0 = true then ba else 0) + (if bit k 1 = true then bb else 0) + (if bit k 2 = true then bd else 0)) c ((if k = 0 then 2 else 1 + 3 * nlb k) + (a + (b + d))) (n1 (8 + k) + ((if bit k 0 = true then va else 0) + ((if bit k 1 = true then vb else 0) + (if bit k 2 = true then vd else 0)))) := by
  have hmr := T.2.2.2.2.1 k k8
  have hp := T.2.2.2.2.2.1
  rcases (show k = 0 ∨ k = 1 ∨ k = 2 ∨ k = 3 ∨ k = 4 ∨ k = 5 ∨ k = 6 ∨ k = 7 by omega) with e | e | e | e | e | e | e | e
  · subst e
    have f0 : bit 0 0 = false := by decide
    have f1 : bit 0 1 = false := by decide
    have f2 : bit 0 2 = false := by decide
    have e0 := z0 f0
    have e1 := z1 f1
    have e2 := z2 f2
    clear k0 k1 k2 z0 z1 z2
    subst e0
    subst e1
    subst e2
    have hmr : n1 8 ≤ r0 := hmr
    rw [if_pos rfl] at hb ⊢
    rw [f0, f1, f2]
    simp only [Bool.false_eq_true, if_true, if_false, reduceIte, Nat.add_zero, Nat.zero_add] at hb ⊢
    have q1 := (psc_m hp (c := c) (m := 2) (by decide) (by omega)).2.1 (by decide)
    exact BGh.base (by omega) (by omega) (by omega)
  · subst e
    have f0 : bit 1 0 = true := by decide
    have f1 : bit 1 1 = false := by decide
    have f2 : bit 1 2 = false := by decide
    have g0 := k0 f0
    have e1 := z1 f1
    have e2 := z2 f2
    clear k0 k1 k2 z0 z1 z2
    subst e1
    subst e2
    have hmr : n1 (8 + 1) ≤ r1 := hmr
    rw [if_neg (show ¬ (1 : Nat) = 0 by decide)] at hb ⊢
    rw [f0, f1, f2]
    simp only [Bool.false_eq_true, if_true, if_false, reduceIte, Nat.add_zero, Nat.zero_add] at hb ⊢
    have en : nlb 1 = 1 := by decide
    rw [en] at hb ⊢
    exact (BGh.rec1 hp hx g0 (by omega) hmr c2).up hp (Or.inl (by omega)) (by omega)
  · subst e
    have f0 : bit 2 0 = false := by decide
    have f1 : bit 2 1 = true := by decide
    have f2 : bit 2 2 = false := by decide
    have e0 := z0 f0
    have g1 := k1 f1
    have e2 := z2 f2
    clear k0 k1 k2 z0 z1 z2
    subst e0
    subst e2
    have hmr : n1 (8 + 2) ≤ r1 := hmr
    rw [if_neg (show ¬ (2 : Nat) = 0 by decide)] at hb ⊢
    rw [f0, f1, f2]
    simp only [Bool.false_eq_true, if_true, if_false, reduceIte, Nat.add_zero, Nat.zero_add] at hb ⊢
    have en : nlb 2 = 1 := by decide
    rw [en] at hb ⊢
    exact (BGh.rec1 hp hx g1 (by omega) hmr c2).up hp (Or.inl (by omega)) (by omega)
  · subst e
    have f0 : bit 3 0 = true := by decide
    have f1 : bit 3 1 = true := by decide
    have f2 : bit 3 2 = false := by decide
    have g0 := k0 f0
    have g1 := k1 f1
    have e2 := z2 f2
    clear k0 k1 k2 z0 z1 z2
    subst e2
    have hmr : n1 (8 + 3) ≤ r2 := hmr
    rw [if_neg (show ¬ (3 : Nat) = 0 by decide)] at hb ⊢
    rw [f0, f1, f2]
    simp only [Bool.false_eq_true, if_true, if_false, reduceIte, Nat.add_zero, Nat.zero_add] at hb ⊢
    have en : nlb 3 = 2 := by decide
    rw [en] at hb ⊢
    exact (BGh.rec2 hp hx h21 g0 g1 (by omega) hmr c2).up hp (Or.inl (by omega)) (by omega)
  · subst e
    have f0 : bit 4 0 = false := by decide
    have f1 : bit 4 1 = false := by decide
    have f2 : bit 4 2 = true := by decide
    have e0 := z0 f0
    have e1 := z1 f1
    have g2 := k2 f2
    clear k0 k1 k2 z0 z1 z2
    subst e0
    subst e1
    have hmr : n1 (8 + 4) ≤ r1 := hmr
    rw [if_neg (show ¬ (4 : Nat) = 0 by decide)] at hb ⊢
    rw [f0, f1, f2]
    simp only [Bool.false_eq_true, if_true, if_false, reduceIte, Nat.add_zero, Nat.zero_add] at hb ⊢
    have en : nlb 4 = 1 := by decide
    rw [en] at hb ⊢
    exact (BGh.rec1 hp hx g2 (by omega) hmr c2).up hp (Or.inl (by omega)) (by omega)
  · subst e
    have f0 : bit 5 0 = true := by decide
    have f1 : bit 5 1 = false := by decide
    have f2 : bit 5 2 = true := by decide
    have g0 := k0 f0
    have e1 := z1 f1
    have g2 := k2 f2
    clear k0 k1 k2 z0 z1 z2
    subst e1
    have hmr : n1 (8 + 5) ≤ r2 := hmr
    rw [if_neg (show ¬ (5 : Nat) = 0 by decide)] at hb ⊢
    rw [f0, f1, f2]
    simp only [Bool.false_eq_true, if_true, if_false, reduceIte, Nat.add_zero, Nat.zero_add] at hb ⊢
    have en : nlb 5 = 2 := by decide
    rw [en] at hb ⊢
    exact (BGh.rec2 hp hx h21 g0 g2 (by omega) hmr c2).up hp (Or.inl (by omega)) (by omega)
  · subst e
    have f0 : bit 6 0 = false := by decide
    have f1 : bit 6 1 = true := by decide
    have f2 : bit 6 2 = true := by decide
    have e0 := z0 f0
    have g1 := k1 f1
    have g2 := k2 f2
    clear k0 k1 k2 z0 z1 z2
    subst e0
    have hmr : n1 (8 + 6) ≤ r2 := hmr
    rw [if_neg (show ¬ (6 : Nat) = 0 by decide)] at hb ⊢
    rw [f0, f1, f2]
    simp only [Bool.false_eq_true, if_true, if_false, reduceIte, Nat.add_zero, Nat.zero_add] at hb ⊢
    have en : nlb 6 = 2 := by decide
    rw [en] at hb ⊢
    exact (BGh.rec2 hp hx h21 g1 g2 (by omega) hmr c2).up hp (Or.inl (by omega)) (by omega)
  · subst e
    have f0 : bit 7 0 = true := by decide
    have f1 : bit 7 1 = true := by decide
    have f2 : bit 7 2 = true := by decide
    have g0 := k0 f0
    have g1 := k1 f1
    have g2 := k2 f2
    clear k0 k1 k2 z0 z1 z2
    have hmr : n1 (8 + 7) ≤ r3 := hmr
    rw [if_neg (show ¬ (7 : Nat) = 0 by decide)] at hb ⊢
    rw [f0, f1, f2]
    simp only [Bool.false_eq_true, if_true, if_false, reduceIte, Nat.add_zero, Nat.zero_add] at hb ⊢
    have en : nlb 7 = 3 := by decide
    rw [en] at hb ⊢
    exact (BGh.rec3 hp hx h21 h32 g0 g1 g2 (by omega) hmr c2).up hp (Or.inl (by omega)) (by omega)
end PmS2
