/-! WHAT INNER BODIES ARE WORTH, by characters; what may take a body's place. -/
section PmUw
variable {N t0 fn s2 hv r0 r1 r2 r3 x0 V : Nat} {n1 hf : Nat → Nat} {P Q : List (List Nat)} {F G : FrT} {X : List Nat} {κ : Ty → Bool}
/-- three characters more, or four and more -/
theorem frg_up (T : TBs N t0 fn s2 hv r0 r1 r2 r3 x0 n1 hf P Q F G X) {i k : Nat} (i1 : 1 ≤ i) (hk : i + 3 ≤ k) (k56 : k ≤ 56) {p : Nat × Nat} (hp : p ∈ frg F i) : ∃ q ∈ frg F k, p.1 ≤ q.1 ∧ p.2 ≤ q.2 := by
  by_cases e : k = i + 3
  · obtain ⟨q, hq, a, b⟩ := dom_ex (frc_1 T.1 i1 (by omega) hp)
    rw [e]
    exact ⟨q, hq, a, by omega⟩
  · obtain ⟨u, hu, -, -⟩ := dom_ex (frc_0 T.1 (k := k - i - 3) (by omega) (by omega)).1
    obtain ⟨q, hq, a, b⟩ := dom_ex ((frc_p T.1 (i := i) (j := k - i - 3) i1 (by omega) (by omega)).2.1 (by omega) p hp u hu)
    rw [show i + (k - i - 3) + 3 = k by omega] at hq
    exact ⟨q, hq, by omega, by omega⟩
/-- every inner scheme whose bound is Top has a body of five characters less than the whole -/
theorem kw_num (T : TBs N t0 fn s2 hv r0 r1 r2 r3 x0 n1 hf P Q F G X) : ∀ (f : Nat) (t : Ty) (ω : List Nat) (y : Nat), (flat t).length ≤ f → ok ω.length t = true → tch t ≤ 56 → x0 ≤ y → hf t0 ≤ y → (∀ j, j < ω.length → vw ω j ≤ y) → (6 ≤ tch t → ∀ p ∈ frg F (tch t - 5), p.2 + p.1 * y ≤ V) → kw 0 V t0 n1 s2 hf κ ω t = true
  | 0, t, ω, y, hf', o, _, _, _, _, _ => by have := flat_pos o; omega
  | f + 1, t, ω, y, hf', o, h56, hy, hy0, hw, hV => by
    have up : ∀ b : Ty, (flat b).length ≤ f → ok ω.length b = true → tch b + 3 ≤ tch t → kw 0 V t0 n1 s2 hf κ ω b = true := by
      intro b hb ob ht
      refine kw_num T f b ω y hb ob (by omega) hy hy0 hw (fun h6 p hp => ?_)
      obtain ⟨q, hq, q1, q2⟩ := frg_up T (i := tch b - 5) (k := tch t - 5) (by omega) (by omega) (by omega) hp
      have := hV (by omega) q hq
      have := Nat.mul_le_mul_right y q1
      omega
    rcases ok_cases o with rfl | ⟨j, hj, rfl⟩ | ⟨a, c, rfl, ha, hb⟩ | ⟨a, c, rfl, ha, hb⟩ | ⟨m, x, z, w, hm', rfl, h0, h1, h2⟩
    · exact kw_top _
    · exact kw_var _ _
    · rw [flat_fun, List.length_cons, List.length_append] at hf'
      have e := tch_fun a c
      rw [kw_fun]
      exact ⟨up a (by omega) ha (by omega), up c (by omega) hb (by omega)⟩
    · rw [flat_all, List.length_cons, List.length_append] at hf'
      have e := tch_all a c
      have pa := tch_pos ha
      have pc := tch_pos hb
      rw [kw_all]
      refine ⟨fun e0 => Or.inr ?_, up a (by omega) ha (by omega), ?_⟩
      · have ea : a = tTop := by
          rcases ok_cases ha with h | ⟨k, hk, h⟩ | ⟨u, v, h, -, -⟩ | ⟨u, v, h, -, -⟩ | ⟨m, u, v, w, hm, h, -, -, -⟩
          · exact h
          · rw [h, hd_var] at e0; omega
          · rw [h, hd_fun] at e0; omega
          · rw [h, hd_all] at e0; omega
          · rw [h, hd_rec] at e0; omega
        subst ea
        have e1 : tch tTop = 1 := tch_top
        obtain ⟨p, hp, q⟩ := val_any T (A := c) (ω := hf (nz t0 n1 s2 hf ω tTop) :: ω) (y := y) (by rw [List.length_cons]; exact hb) (by omega) hy (fun j hj => by
          rw [vw_cons]
          by_cases e2 : j = ω.length
          · rw [if_pos e2, nz_top]; exact hy0
          · rw [if_neg e2]
            rw [List.length_cons] at hj
            exact hw j (by omega))
        refine Nat.le_trans q (hV (by omega) p ?_)
        rw [e, e1, show 4 + (1 + tch c) - 5 = tch c by omega]
        exact hp
      · obtain ⟨p, hp, q⟩ := val_any T (A := a) (ω := ω) (y := y) ha (by omega) hy hw
        have m1 : y ≤ max 1 p.1 * y := Nat.le_mul_of_pos_left _ (by omega)
        have m2 : p.1 * y ≤ max 1 p.1 * y := Nat.mul_le_mul_right y (Nat.le_max_right _ _)
        have H := T.2.2.1 (nz t0 n1 s2 hf ω a) y hy
        refine kw_num T f c _ (hv + p.2 + max 1 p.1 * y) (by omega) (by rw [List.length_cons]; exact hb) (by omega) (by omega) (by omega) (fun j hj => ?_) (fun h6 q' hq' => ?_)
        · rw [vw_cons]
          by_cases e2 : j = ω.length
          · rw [if_pos e2]; omega
          · rw [if_neg e2]
            rw [List.length_cons] at hj
            have := hw j (by omega)
            omega
        · obtain ⟨r, hr, a1, a2⟩ := dom_ex ((frc_p T.1 (i := tch a) (j := tch c - 5) pa (by omega) (by omega)).2.2.1 (by omega) p hp q' hq')
          rw [show tch a + (tch c - 5) + 4 = tch (tAll a c) - 5 by omega] at hr
          have := hV (by omega) r hr
          have b1 := Nat.mul_le_mul_right y a1
          rw [Nat.mul_assoc] at b1
          rw [Nat.mul_add]
          omega
    · rw [flat_rec, List.length_cons, List.length_append, List.length_append] at hf'
      have e := tch_rec m x z w
      have key : ∀ (i : Nat) (p : Ty), (flat p).length ≤ f → okl ω.length m i p → tch p + rch m ≤ tch (tRec m x z w) → kw 0 V t0 n1 s2 hf κ ω p = true := by
        intro i p hp ho hc
        unfold okl at ho
        by_cases hb : bit m i = true
        · rw [if_pos hb] at ho
          have c0 : m ≠ 0 := by
            intro e
            rw [e, bit_iff, Nat.zero_div] at hb
            omega
          have r3 := rch_two c0 hm'
          exact up p hp ho (by omega)
        · rw [if_neg hb] at ho
          rw [ho]; exact kw_nil _
      rw [kw_rec]
      exact ⟨key 0 x (by omega) h0 (by omega), key 1 z (by omega) h1 (by omega), key 2 w (by omega) h2 (by omega)⟩
end PmUw
