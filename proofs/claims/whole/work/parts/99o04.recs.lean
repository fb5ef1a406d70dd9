/-! RECORDS, with chosen instances. -/
section PmO4a
variable {N t0 fn s2 hv r0 r1 r2 r3 x0 E p : Nat} {n1 h : Nat → Nat} {P Q : List (List Nat)} {F G : FrT} {X : List Nat} {Z : Nat → Nat}
/-- a record -/
theorem BF_rec (T : TBs N t0 fn s2 hv r0 r1 r2 r3 x0 n1 h P Q F G X) (hx : PXk N P F X fn s2 r1 = true) (h21 : r2 ≤ r1) (h32 : r3 ≤ r2) (hz : ZOk Z) {k c a b d va vb vd : Nat} (k8 : k < 8) (c2 : 2 ≤ c) (k0 : bit k 0 = true → BF P E p Z c a va) (k1 : bit k 1 = true → BF P E p Z c b vb) (k2 : bit k 2 = true → BF P E p Z c d vd) (hb : c + 2 * ((if k = 0 then 2 else 1 + 3 * nlb k) + (a + (b + d))) ≤ N) : BF P E p Z c ((if k = 0 then 2 else 1 + 3 * nlb k) + (a + (b + d))) (n1 (8 + k) + ((if bit k 0 = true then va else 0) + ((if bit k 1 = true then vb else 0) + (if bit k 2 = true then vd else 0)))) := by
  have hmr := T.2.2.2.2.1 k k8
  have hp := T.2.2.2.2.2.1
  rcases (show k = 0 ∨ k = 1 ∨ k = 2 ∨ k = 3 ∨ k = 4 ∨ k = 5 ∨ k = 6 ∨ k = 7 by omega) with e | e | e | e | e | e | e | e
  · subst e
    rw [if_pos rfl] at hb ⊢
    rw [if_neg (by decide), if_neg (by decide), if_neg (by decide)]
    have hmr : n1 (8 + 0) ≤ r0 := hmr
    have q1 := (psc_m hp (c := c) (m := 2) (by decide) (by omega)).2.1 (by decide)
    have q2 := psc_up hp (c := c) (m := 2) (by decide) (k := 2 + (a + (b + d))) (by omega) (by omega)
    exact BF.base hz (by omega) (by omega)
  · subst e
    rw [if_neg (by decide), show nlb 1 = 1 by decide] at hb ⊢
    rw [if_pos (by decide), if_neg (by decide), if_neg (by decide)]
    have hmr : n1 (8 + 1) ≤ r1 := hmr
    exact ((BF.rec1 hp hx (k0 (by decide)) (by omega) hmr c2).mono (by omega)).up hp hz (by omega) hb
  · subst e
    rw [if_neg (by decide), show nlb 2 = 1 by decide] at hb ⊢
    rw [if_neg (by decide), if_pos (by decide), if_neg (by decide)]
    have hmr : n1 (8 + 2) ≤ r1 := hmr
    exact ((BF.rec1 hp hx (k1 (by decide)) (by omega) hmr c2).mono (by omega)).up hp hz (by omega) hb
  · subst e
    rw [if_neg (by decide), show nlb 3 = 2 by decide] at hb ⊢
    rw [if_pos (by decide), if_pos (by decide), if_neg (by decide)]
    have hmr : n1 (8 + 3) ≤ r2 := hmr
    exact ((BF.rec2 hp hx hz h21 (k0 (by decide)) (k1 (by decide)) (by omega) hmr c2).mono (by omega)).up hp hz (by omega) hb
  · subst e
    rw [if_neg (by decide), show nlb 4 = 1 by decide] at hb ⊢
    rw [if_neg (by decide), if_neg (by decide), if_pos (by decide)]
    have hmr : n1 (8 + 4) ≤ r1 := hmr
    exact ((BF.rec1 hp hx (k2 (by decide)) (by omega) hmr c2).mono (by omega)).up hp hz (by omega) hb
  · subst e
    rw [if_neg (by decide), show nlb 5 = 2 by decide] at hb ⊢
    rw [if_pos (by decide), if_neg (by decide), if_pos (by decide)]
    have hmr : n1 (8 + 5) ≤ r2 := hmr
    exact ((BF.rec2 hp hx hz h21 (k0 (by decide)) (k2 (by decide)) (by omega) hmr c2).mono (by omega)).up hp hz (by omega) hb
  · subst e
    rw [if_neg (by decide), show nlb 6 = 2 by decide] at hb ⊢
    rw [if_neg (by decide), if_pos (by decide), if_pos (by decide)]
    have hmr : n1 (8 + 6) ≤ r2 := hmr
    exact ((BF.rec2 hp hx hz h21 (k1 (by decide)) (k2 (by decide)) (by omega) hmr c2).mono (by omega)).up hp hz (by omega) hb
  · subst e
    rw [if_neg (by decide), show nlb 7 = 3 by decide] at hb ⊢
    rw [if_pos (by decide), if_pos (by decide), if_pos (by decide)]
    have hmr : n1 (8 + 7) ≤ r3 := hmr
    exact ((BF.rec3 hp hx hz h21 h32 (k0 (by decide)) (k1 (by decide)) (k2 (by decide)) (by omega) hmr c2).mono (by omega)).up hp hz (by omega) hb
end PmO4a
