/-! ARGUMENTS UNDER A TERM'S OWN BINDERS: values by the growth table. -/
section PmWn
variable {N t0 fn s2 hv r0 r1 r2 r3 x0 y : Nat} {n1 h : Nat → Nat} {E : Stk → Nat} {P Q : List (List Nat)} {F G W : FrT} {X : List Nat} {Z : Nat → Nat}
theorem gr_step (hn : NC t0 n1 s2 h) (T : TBs N t0 fn s2 hv r0 r1 r2 r3 x0 n1 h P Q F G X) (hg : fgc F W hv = true) (hy : x0 ≤ y) {r : Nat} {e : Nat × Nat} (he : e ∈ frg W r) (e1 : 1 ≤ e.1) {A : Ty} {ω : List Nat} (oa : ok ω.length A = true) (hw : ∀ j, j < ω.length → vw ω j ≤ e.2 + e.1 * y) (hk : r + tch A + 4 ≤ 38) : ∃ w ∈ frg W (r + tch A + 4), 1 ≤ w.1 ∧ e.2 + e.1 * y ≤ w.2 + w.1 * y ∧ h (nz t0 n1 s2 h ω A) ≤ w.2 + w.1 * y ∧ nz t0 n1 s2 h ω A ≤ w.2 + w.1 * y := by
  have ta := tch_pos oa
  have yy : y ≤ e.2 + e.1 * y := by
    have := Nat.mul_le_mul_right y e1
    omega
  obtain ⟨p, hp, q⟩ := val_any T oa (by omega) (Nat.le_trans hy yy) hw
  have H := T.2.2.1 (nz t0 n1 s2 h ω A) (e.2 + e.1 * y) (Nat.le_trans hy yy)
  have key : ∃ u ∈ frg F (tch A), h (nz t0 n1 s2 h ω A) ≤ hv + (u.2 + u.1 * (e.2 + e.1 * y)) := by
    by_cases c : nz t0 n1 s2 h ω A ≤ e.2 + e.1 * y
    · obtain ⟨v, hv', v1, v2⟩ := dom_ex (frc_0 T.1 (k := tch A) ta (by omega)).2.1
      refine ⟨v, hv', ?_⟩
      have := Nat.mul_le_mul_right (e.2 + e.1 * y) v1
      omega
    · exact ⟨p, hp, by omega⟩
  obtain ⟨u, hu, q2⟩ := key
  obtain ⟨w, hw', w1, w2⟩ := fgc_s hg ta (r := r) hk he hu
  have g1 : e.1 ≤ w.1 := Nat.le_trans (Nat.le_max_left _ _) w1
  have g2 : u.1 * e.1 ≤ w.1 := Nat.le_trans (Nat.le_max_right _ _) w1
  have m1 := Nat.mul_le_mul_right y g1
  have m2 := Nat.mul_le_mul_right y g2
  rw [Nat.mul_add, ← Nat.mul_assoc] at q2
  have q3 := hn.2.2.1 (nz t0 n1 s2 h ω A)
  exact ⟨w, hw', by omega, by omega, by omega, by omega⟩
end PmWn
