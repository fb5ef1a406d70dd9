/-! HOW VALUES GROW BEHIND A PLACE: exact tables by characters. -/
def fg1 : FrT := [[(1, 0)], [(1, 0)], [(1, 0)], [(1, 0)], [(1, 0)], [(1, 1)], [(1, 3)], [(1, 3)], [(1, 3)], [(1, 5), (2, 3)], [(1, 5), (2, 3)], [(1, 7), (2, 3)], [(1, 7), (2, 5)], [(1, 7), (3, 5)], [(1, 9), (2, 8), (3, 5)], [(2, 12), (3, 5)], [(2, 12), (3, 7)], [(1, 13), (2, 12), (4, 7)], [(2, 16), (4, 12)], [(3, 17), (4, 12)], [(2, 20), (3, 17), (4, 12)], [(2, 21), (3, 17), (4, 16), (5, 9)], [(3, 23), (6, 17)], [(2, 24), (3, 23), (4, 22), (6, 17)], [(4, 30), (6, 17)], [(4, 30), (6, 23)], [(2, 32), (4, 30), (9, 23)], [(4, 38), (6, 32), (8, 30), (9, 23)], [(6, 44), (8, 30), (9, 23)], [(4, 46), (6, 44), (8, 30), (9, 29)], [(4, 48), (6, 44), (8, 38), (12, 30)], [(6, 56), (12, 44)], [(9, 59), (12, 44)], [(6, 68), (8, 66), (9, 59), (12, 44)], [(6, 71), (8, 66), (9, 59), (12, 56), (16, 38)], [(9, 77), (18, 59)], [(8, 82), (12, 78), (16, 66), (18, 59)], [(12, 98), (16, 66), (18, 59)], [(12, 98), (18, 77), (20, 47)]]
def fgq : FrT := [[(1, 0)], [(1, 0)], [(1, 0)], [(1, 0)], [(1, 0)], [(1, 1)], [(1, 1)], [(1, 1)], [(1, 4)], [(1, 4), (2, 1)], [(1, 4), (2, 1)], [(1, 7), (2, 2)], [(1, 7), (2, 4)], [(1, 7), (2, 4), (3, 2)], [(1, 10), (2, 5), (3, 2)], [(1, 10), (2, 7), (3, 3)], [(1, 10), (2, 7), (3, 5)], [(1, 13), (2, 10), (3, 5), (4, 3)], [(1, 13), (2, 10), (3, 6), (4, 4)], [(1, 13), (2, 11), (3, 8), (4, 4)], [(2, 16), (3, 8), (4, 6)], [(2, 16), (3, 15), (4, 10), (5, 4)], [(2, 17), (3, 15), (4, 10), (6, 6)], [(2, 22), (3, 16), (4, 12), (6, 6)], [(3, 24), (4, 16), (6, 9)], [(3, 24), (4, 20), (6, 15)], [(2, 28), (3, 25), (4, 22), (6, 15), (9, 9)], [(3, 33), (4, 22), (6, 18), (8, 10), (9, 9)], [(3, 33), (4, 32), (6, 24), (9, 12)], [(4, 34), (5, 25), (6, 24), (8, 20), (9, 18)], [(3, 42), (4, 34), (6, 33), (8, 22), (9, 18), (12, 12)], [(4, 44), (6, 33), (8, 24), (9, 21), (12, 15)], [(4, 46), (5, 40), (6, 36), (8, 32), (9, 27), (12, 16)], [(6, 51), (8, 34), (9, 27), (10, 25), (12, 24)], [(4, 56), (6, 51), (9, 48), (12, 33), (16, 16)], [(4, 58), (5, 55), (6, 54), (9, 48), (12, 33), (18, 21)], [(6, 69), (9, 51), (10, 40), (12, 39), (16, 22), (18, 21)], [(9, 75), (12, 51), (18, 30)], [(9, 75), (12, 64), (18, 48), (20, 20)]]
/-- the table is closed -/
def fgc (F W : FrT) (hv : Nat) : Bool := (List.range 39).all (fun r => (List.range (34 - r)).all (fun i => (frg W r).all (fun e => (frg F (i + 1)).all (fun u => dom (max e.1 (u.1 * e.1)) (max e.2 (hv + (u.2 + u.1 * e.2))) (frg W (r + (i + 1) + 4))))))
theorem fg1_ok : fgc fr1 fg1 1 = true := by decide +kernel
theorem fgq_ok : fgc frq fgq 0 = true := by decide +kernel
theorem fgc_s {F W : FrT} {hv : Nat} (h : fgc F W hv = true) {r k : Nat} (k1 : 1 ≤ k) (hk : r + k + 4 ≤ 38) {e u : Nat × Nat} (he : e ∈ frg W r) (hu : u ∈ frg F k) : ∃ q ∈ frg W (r + k + 4), max e.1 (u.1 * e.1) ≤ q.1 ∧ max e.2 (hv + (u.2 + u.1 * e.2)) ≤ q.2 := by
  unfold fgc at h
  have q1 := List.all_eq_true.mp h r (List.mem_range.mpr (by omega))
  have q2 := List.all_eq_true.mp q1 (k - 1) (List.mem_range.mpr (by omega))
  rw [show k - 1 + 1 = k by omega] at q2
  exact dom_ex (List.all_eq_true.mp (List.all_eq_true.mp q2 e he) u hu)
section PmS8
variable {N t0 fn s2 hv r0 r1 r2 r3 x0 : Nat} {n1 h : Nat → Nat} {P Q : List (List Nat)} {F G W : FrT} {X : List Nat} {Γ0 : List Ty} {β : Ty} {y : Nat}
/-- a text, values at most y -/
theorem val_any (T : TBs N t0 fn s2 hv r0 r1 r2 r3 x0 n1 h P Q F G X) {ω : List Nat} {A : Ty} (o : ok ω.length A = true) (hk : tch A ≤ 56) (hy : x0 ≤ y) (hw : ∀ j, j < ω.length → vw ω j ≤ y) : ∃ p ∈ frg F (tch A), nz t0 n1 s2 h ω A ≤ p.2 + p.1 * y := by
  obtain ⟨hc, hx, H, hf1, hr, -, -, -⟩ := T
  obtain ⟨p, hp, fp⟩ := fr_form (x0 := x0) (h := h) hc H hf1 hr _ A ω.length (Nat.le_refl _) o hk
  exact ⟨p, hp, fp _ ω hy hw o⟩
theorem onz_gr (T : TBs N t0 fn s2 hv r0 r1 r2 r3 x0 n1 h P Q F G X) (hg : fgc F W hv = true) (hW : (1, 0) ∈ frg W 0) (hy : x0 ≤ y) (h0 : ∀ j, j < (β :: Γ0).length → vw (onz t0 n1 s2 h (β :: Γ0)) j ≤ y) : ∀ (Δ : List Ty), okc (cxs Δ Γ0 β) → cch Δ ≤ 38 → ∃ e ∈ frg W (cch Δ), 1 ≤ e.1 ∧ ∀ j, j < (cxs Δ Γ0 β).length → vw (onz t0 n1 s2 h (cxs Δ Γ0 β)) j ≤ e.2 + e.1 * y
  | [], _, _ => ⟨(1, 0), hW, Nat.le_refl _, fun j hj => by
      have := h0 j hj
      show vw (onz t0 n1 s2 h (β :: Γ0)) j ≤ 0 + 1 * y
      omega⟩
  | a :: Δ, hc, hk => by
    have hk : (tch a + 4) + cch Δ ≤ 38 := hk
    obtain ⟨e, he, e1, ih⟩ := onz_gr T hg hW hy h0 Δ hc.2 (by omega)
    have l1 := onz_len t0 n1 s2 h (cxs Δ Γ0 β)
    have oa : ok (onz t0 n1 s2 h (cxs Δ Γ0 β)).length a = true := by rw [l1]; exact hc.1
    have ta := tch_pos oa
    have yy : y ≤ e.2 + e.1 * y := by
      have := Nat.mul_le_mul_right y e1
      omega
    obtain ⟨p, hp, q⟩ := val_any T oa (by omega) (Nat.le_trans hy yy) (fun i hi => ih i (by rw [l1] at hi; exact hi))
    have H := T.2.2.1 (nz t0 n1 s2 h (onz t0 n1 s2 h (cxs Δ Γ0 β)) a) (e.2 + e.1 * y) (Nat.le_trans hy yy)
    have key : ∃ u ∈ frg F (tch a), h (nz t0 n1 s2 h (onz t0 n1 s2 h (cxs Δ Γ0 β)) a) ≤ hv + (u.2 + u.1 * (e.2 + e.1 * y)) := by
      by_cases c : nz t0 n1 s2 h (onz t0 n1 s2 h (cxs Δ Γ0 β)) a ≤ e.2 + e.1 * y
      · obtain ⟨v, hv', v1, v2⟩ := dom_ex (frc_0 T.1 (k := tch a) ta (by omega)).2.1
        refine ⟨v, hv', ?_⟩
        have := Nat.mul_le_mul_right (e.2 + e.1 * y) v1
        omega
      · exact ⟨p, hp, by omega⟩
    obtain ⟨u, hu, q2⟩ := key
    obtain ⟨w, hw, w1, w2⟩ := fgc_s hg ta (r := cch Δ) (by omega) he hu
    have g1 : e.1 ≤ w.1 := Nat.le_trans (Nat.le_max_left _ _) w1
    have g2 : u.1 * e.1 ≤ w.1 := Nat.le_trans (Nat.le_max_right _ _) w1
    have m1 := Nat.mul_le_mul_right y g1
    have m2 := Nat.mul_le_mul_right y g2
    rw [Nat.mul_add, ← Nat.mul_assoc] at q2
    refine ⟨w, ?_, by omega, fun j hj => ?_⟩
    · show w ∈ frg W ((tch a + 4) + cch Δ)
      rw [show (tch a + 4) + cch Δ = cch Δ + tch a + 4 by omega]
      exact hw
    · show vw (h (nz t0 n1 s2 h (onz t0 n1 s2 h (cxs Δ Γ0 β)) a) :: onz t0 n1 s2 h (cxs Δ Γ0 β)) j ≤ _
      rw [vw_cons]
      by_cases c : j = (onz t0 n1 s2 h (cxs Δ Γ0 β)).length
      · rw [if_pos c]; omega
      · rw [if_neg c]
        have hj : j < (a :: cxs Δ Γ0 β).length := hj
        rw [List.length_cons] at hj
        have q3 := ih j (by rw [l1] at c; omega)
        omega
end PmS8
