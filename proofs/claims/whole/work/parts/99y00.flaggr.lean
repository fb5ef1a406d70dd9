/-! HOW VALUES GROW BEHIND A PLACE, where one of the texts holds a scheme with bound Top. -/
def fh1 : FrT := [[], [], [], [], [], [], [], [], [], [], [(1, 6)], [(1, 6)], [(1, 6)], [(1, 8)], [(2, 6), (1, 10)], [(2, 6), (1, 11)], [(2, 6), (1, 11)], [(2, 8), (1, 12)], [(3, 8), (2, 10), (1, 14)], [(3, 8), (2, 15), (1, 18)], [(3, 8), (2, 15), (1, 18)], [(3, 10), (2, 15), (1, 18)], [(4, 10), (3, 12), (2, 19), (1, 22)], [(4, 18), (3, 23), (1, 26)], [(4, 18), (3, 23), (2, 25), (1, 28)], [(4, 18), (3, 23), (2, 25), (1, 28)], [(5, 12), (4, 22), (3, 29), (1, 32)], [(6, 26), (4, 31), (3, 35), (1, 38)], [(6, 26), (4, 36), (3, 38), (2, 39), (1, 42)], [(6, 26), (4, 36), (3, 38), (2, 39), (1, 42)], [(6, 32), (4, 39), (3, 41), (1, 44)], [(9, 32), (8, 34), (6, 38), (5, 39), (4, 47), (1, 50)], [(9, 32), (8, 42), (6, 53), (3, 59), (1, 62)], [(9, 32), (8, 42), (6, 53), (4, 56), (3, 59), (1, 62)], [(9, 38), (8, 42), (6, 53), (4, 56), (3, 59), (1, 62)], [(12, 42), (9, 44), (8, 50), (6, 65), (3, 71), (1, 74)], [(12, 62), (9, 77), (4, 79), (3, 83), (1, 86)], [(12, 62), (9, 77), (8, 78), (6, 83), (4, 84), (3, 89), (1, 92)], [(12, 62), (9, 77), (8, 78), (6, 83), (4, 84), (3, 89), (1, 92)]]
def fhq : FrT := [[], [], [], [], [], [], [], [], [], [], [(1, 2)], [(1, 2)], [(1, 2)], [(1, 5)], [(2, 2), (1, 5)], [(2, 2), (1, 5)], [(2, 3), (1, 8)], [(2, 5), (1, 8)], [(3, 3), (2, 5), (1, 8)], [(3, 3), (2, 6), (1, 11)], [(3, 4), (2, 8), (1, 11)], [(3, 6), (2, 8), (1, 11)], [(4, 4), (3, 6), (2, 11), (1, 14)], [(4, 6), (3, 8), (2, 11), (1, 14)], [(4, 6), (3, 9), (2, 12), (1, 14)], [(4, 8), (3, 9), (2, 17), (1, 18)], [(5, 5), (4, 12), (3, 17), (1, 18)], [(6, 9), (4, 12), (3, 17), (2, 18), (1, 19)], [(6, 9), (4, 14), (3, 18), (2, 23), (1, 24)], [(6, 12), (4, 18), (3, 26), (1, 27)], [(6, 18), (4, 23), (3, 26), (1, 27)], [(9, 12), (6, 18), (4, 24), (3, 27), (2, 29), (1, 30)], [(9, 12), (8, 14), (6, 21), (4, 24), (3, 35), (1, 36)], [(9, 15), (8, 16), (6, 27), (4, 35), (1, 36)], [(9, 21), (8, 24), (6, 27), (5, 29), (4, 36), (2, 37), (1, 38)], [(12, 16), (9, 21), (8, 26), (6, 36), (3, 44), (1, 45)], [(12, 21), (9, 27), (8, 28), (6, 36), (4, 47), (1, 48)], [(12, 21), (9, 30), (8, 36), (6, 39), (5, 44), (4, 48), (2, 49), (1, 50)], [(12, 28), (10, 30), (8, 38), (6, 54), (3, 56), (1, 57)]]
def fhc (XF W V : FrT) (hv : Nat) : Bool := (List.range 39).all (fun r => (List.range (34 - r)).all (fun i => (frg W r).all (fun e => (frg XF (i + 1)).all (fun u => dom (max e.1 (u.1 * e.1)) (max e.2 (hv + (max 1 u.2 + u.1 * e.2))) (frg V (r + (i + 1) + 4))))))
theorem fh1_ok : fgc fr1 fh1 1 = true := by decide +kernel
theorem fhq_ok : fgc frq fhq 0 = true := by decide +kernel
theorem fh1_st : fhc xfa1 fg1 fh1 1 = true := by decide +kernel
theorem fhq_st : fhc xfaq fgq fhq 0 = true := by decide +kernel
theorem fhc_s {F W V : FrT} {hv : Nat} (h : fhc F W V hv = true) {r k : Nat} (k1 : 1 ≤ k) (hk : r + k + 4 ≤ 38) {e u : Nat × Nat} (he : e ∈ frg W r) (hu : u ∈ frg F k) : ∃ q ∈ frg V (r + k + 4), max e.1 (u.1 * e.1) ≤ q.1 ∧ max e.2 (hv + (max 1 u.2 + u.1 * e.2)) ≤ q.2 := by
  unfold fhc at h
  have q1 := List.all_eq_true.mp h r (List.mem_range.mpr (by omega))
  have q2 := List.all_eq_true.mp q1 (k - 1) (List.mem_range.mpr (by omega))
  rw [show k - 1 + 1 = k by omega] at q2
  exact dom_ex (List.all_eq_true.mp (List.all_eq_true.mp q2 e he) u hu)
/-- a scheme with bound Top somewhere -/
theorem nph : ∀ (t : Ty), noh 0 t = false → phf (fun _ => true) t = true := by
  intro t
  induction t using noh.induct with
  | case1 c a b ia ib =>
    intro h
    by_cases c2 : c = 2 <;> by_cases h0 : hd a = 0 <;> cases ea : noh 0 a <;> cases eb : noh 0 b <;> simp_all [noh, phf]
  | case2 a b ia ib =>
    intro h
    cases ea : noh 0 a <;> cases eb : noh 0 b <;> simp_all [noh, phf]
  | case3 t h1 h2 =>
    intro h
    exfalso
    rw [noh] at h
    · cases h
    · exact h1
    · exact h2
section PmWt
variable {N t0 fn s2 hv r0 r1 r2 r3 x0 : Nat} {n1 h : Nat → Nat} {P Q : List (List Nat)} {F G W V XF : FrT} {X : List Nat} {Γ0 : List Ty} {β : Ty} {y : Nat}
/-- one text more -/
theorem gr_st {a : Ty} {Δ : List Ty} {e u w : Nat × Nat} (e1 : 1 ≤ e.1) (ih : ∀ j, j < (cxs Δ Γ0 β).length → vw (onz t0 n1 s2 h (cxs Δ Γ0 β)) j ≤ e.2 + e.1 * y) (q2 : h (nz t0 n1 s2 h (onz t0 n1 s2 h (cxs Δ Γ0 β)) a) ≤ hv + (u.2 + u.1 * (e.2 + e.1 * y))) (hw : w ∈ frg V (cch Δ + tch a + 4)) (w1 : max e.1 (u.1 * e.1) ≤ w.1) (w2 : max e.2 (hv + (u.2 + u.1 * e.2)) ≤ w.2) : ∃ e ∈ frg V (cch (a :: Δ)), 1 ≤ e.1 ∧ ∀ j, j < (cxs (a :: Δ) Γ0 β).length → vw (onz t0 n1 s2 h (cxs (a :: Δ) Γ0 β)) j ≤ e.2 + e.1 * y := by
  have l1 := onz_len t0 n1 s2 h (cxs Δ Γ0 β)
  have g1 : e.1 ≤ w.1 := Nat.le_trans (Nat.le_max_left _ _) w1
  have g2 : u.1 * e.1 ≤ w.1 := Nat.le_trans (Nat.le_max_right _ _) w1
  have m1 := Nat.mul_le_mul_right y g1
  have m2 := Nat.mul_le_mul_right y g2
  rw [Nat.mul_add, ← Nat.mul_assoc] at q2
  refine ⟨w, ?_, by omega, fun j hj => ?_⟩
  · show w ∈ frg V ((tch a + 4) + cch Δ)
    rw [show (tch a + 4) + cch Δ = cch Δ + tch a + 4 by omega]
    exact hw
  · show vw (h (nz t0 n1 s2 h (onz t0 n1 s2 h (cxs Δ Γ0 β)) a) :: onz t0 n1 s2 h (cxs Δ Γ0 β)) j ≤ _
    rw [vw_cons]
    by_cases c : j = (onz t0 n1 s2 h (cxs Δ Γ0 β)).length
    · rw [if_pos c]; omega
    · rw [if_neg c]
      have hj : j < (a :: cxs Δ Γ0 β).length := hj
      rw [List.length_cons] at hj
      have := ih j (by omega)
      omega
theorem onz_grf (T : TBs N t0 fn s2 hv r0 r1 r2 r3 x0 n1 h P Q F G X) (hgW : fgc F W hv = true) (hW : (1, 0) ∈ frg W 0) (hg : fgc F V hv = true) (hst : fhc XF W V hv = true) (H1 : ∀ y, h y ≤ hv + max 1 y) (XFf : ∀ (d : Nat) (b : Ty), ok d b = true → tch b ≤ 40 → phf (fun _ => true) b = true → ∃ p ∈ frg XF (tch b), XFm t0 n1 s2 hv d b p.1 p.2) (hy : x0 ≤ y) (h0 : ∀ j, j < (β :: Γ0).length → vw (onz t0 n1 s2 h (β :: Γ0)) j ≤ y) : ∀ (Δ : List Ty), okc (cxs Δ Γ0 β) → cch Δ ≤ 38 → (∃ b ∈ Δ, phf (fun _ => true) b = true) → ∃ e ∈ frg V (cch Δ), 1 ≤ e.1 ∧ ∀ j, j < (cxs Δ Γ0 β).length → vw (onz t0 n1 s2 h (cxs Δ Γ0 β)) j ≤ e.2 + e.1 * y
  | [], _, _, hp => by
    obtain ⟨b, hb, -⟩ := hp
    cases hb
  | a :: Δ, hc, hk, hp => by
    have hk : (tch a + 4) + cch Δ ≤ 38 := hk
    have l1 := onz_len t0 n1 s2 h (cxs Δ Γ0 β)
    have oa : ok (onz t0 n1 s2 h (cxs Δ Γ0 β)).length a = true := by rw [l1]; exact hc.1
    have ta := tch_pos oa
    by_cases pa : phf (fun _ => true) a = true
    · obtain ⟨e, he, e1, ih⟩ := onz_gr T hgW hW hy h0 Δ hc.2 (by omega)
      obtain ⟨v, hv', x1, x2⟩ := XFf _ a oa (by omega) pa
      obtain ⟨w, hw, w1, w2⟩ := fhc_s hst ta (r := cch Δ) (by omega) he hv'
      have q := nz_xt (t0 := t0) (n1 := n1) (s2 := s2) H1 oa (fun i hi => ih i (by rw [l1] at hi; exact hi))
      have q3 := H1 (nz t0 n1 s2 h (onz t0 n1 s2 h (cxs Δ Γ0 β)) a)
      have q4 := Nat.mul_le_mul_right (e.2 + e.1 * y) x1
      exact gr_st (u := (v.1, max 1 v.2)) e1 ih (by show _ ≤ hv + (max 1 v.2 + v.1 * (e.2 + e.1 * y)); omega) hw w1 w2
    · have hp' : ∃ b ∈ Δ, phf (fun _ => true) b = true := by
        obtain ⟨b, hb, p⟩ := hp
        rcases List.mem_cons.mp hb with e | hb
        · rw [e] at p; exact (pa p).elim
        · exact ⟨b, hb, p⟩
      obtain ⟨e, he, e1, ih⟩ := onz_grf T hgW hW hg hst H1 XFf hy h0 Δ hc.2 (by omega) hp'
      have yy : y ≤ e.2 + e.1 * y := by
        have := Nat.mul_le_mul_right y e1
        omega
      obtain ⟨p, hp, q⟩ := val_any T oa (by omega) (Nat.le_trans hy yy) (fun i hi => ih i (by rw [l1] at hi; exact hi))
      have H := T.2.2.1 (nz t0 n1 s2 h (onz t0 n1 s2 h (cxs Δ Γ0 β)) a) (e.2 + e.1 * y) (Nat.le_trans hy yy)
      have key : ∃ u ∈ frg F (tch a), h (nz t0 n1 s2 h (onz t0 n1 s2 h (cxs Δ Γ0 β)) a) ≤ hv + (u.2 + u.1 * (e.2 + e.1 * y)) := by
        by_cases c : nz t0 n1 s2 h (onz t0 n1 s2 h (cxs Δ Γ0 β)) a ≤ e.2 + e.1 * y
        · obtain ⟨v, hv', v1, v2⟩ := dom_ex (frc_0 T.1 (k := tch a) ta (by omega)).2.1
          refine ⟨v, hv', ?_⟩
          have := Nat.mul_le_mul_right (e.2 + e.1 * y) v1
          omega
        · exact ⟨p, hp, by omega⟩
      obtain ⟨u, hu, q2⟩ := key
      obtain ⟨w, hw, w1, w2⟩ := fgc_s hg ta (r := cch Δ) (by omega) he hu
      exact gr_st e1 ih q2 hw w1 w2
end PmWt
section PmWu
variable {t0 fn s2 hv r0 r1 r2 r3 x0 : Nat} {n1 h : Nat → Nat} {P Q : List (List Nat)} {F G W : FrT} {X : List Nat} {B C : Ty} {Γ0 : List Ty}
/-- the values of a context with one long scheme, and what its body is worth -/
theorem nat_ctxg (T : TBs 58 t0 fn s2 hv r0 r1 r2 r3 x0 n1 h P Q F G X) (H1 : ∀ y, h y ≤ hv + max 1 y) (s21 : 1 ≤ s2) {Δ1 : List Ty} {wB q1 q2 : Nat} {v : Nat × Nat} (hc : okc (cxs Δ1 Γ0 (tAll B C))) (hv1 : xt (Γ0.length + 1) C ≤ v.1) (hv2 : xa t0 n1 s2 hv (Γ0.length + 1) C ≤ v.2) (hwB : h (nz t0 n1 s2 h (onz t0 n1 s2 h Γ0) B) ≤ wB) (hr : cch Γ0 ≤ q1) (hr' : q1 ≤ 56) (hr2 : ∀ y, x0 ≤ y → (∀ j, j < (tAll B C :: Γ0).length → vw (onz t0 n1 s2 h (tAll B C :: Γ0)) j ≤ y) → ∃ e ∈ frg W q2, 1 ≤ e.1 ∧ ∀ j, j < (cxs Δ1 Γ0 (tAll B C)).length → vw (onz t0 n1 s2 h (cxs Δ1 Γ0 (tAll B C))) j ≤ e.2 + e.1 * y) : ∃ p, p ≤ v.1 ∧ ∃ e ∈ frg W q2, x0 ≤ e.2 + e.1 * max (max x0 (X.getD q1 0)) (hv + (s2 + (v.2 + (v.1 - p) * max x0 (X.getD q1 0) + p * wB))) ∧ (∀ j, j < (cxs Δ1 Γ0 (tAll B C)).length → vw (onz t0 n1 s2 h (cxs Δ1 Γ0 (tAll B C))) j ≤ e.2 + e.1 * max (max x0 (X.getD q1 0)) (hv + (s2 + (v.2 + (v.1 - p) * max x0 (X.getD q1 0) + p * wB)))) ∧ ∀ z, nz t0 n1 s2 h (hzx h z (nz t0 n1 s2 h (onz t0 n1 s2 h Γ0) B) :: onz t0 n1 s2 h Γ0) C ≤ v.2 + (v.1 - p) * max x0 (X.getD q1 0) + p * max z wB := by
  obtain ⟨oc0, oA⟩ := okc_low Δ1 hc
  have oB := (ok_all.mp oA).1
  have oC := (ok_all.mp oA).2
  have l0 := onz_len t0 n1 s2 h Γ0
  have hω : ∀ j, j < (onz t0 n1 s2 h Γ0).length → vw (onz t0 n1 s2 h Γ0) j ≤ max x0 (X.getD q1 0) := fun j hj => Nat.le_trans (onz_chars T.1 T.2.1 T.2.2.1 T.2.2.2.1 T.2.2.2.2.1 Γ0 oc0 (Nat.le_trans hr hr') j (by rw [l0] at hj; exact hj)) (Nat.le_trans (fxc_le T.2.1 hr hr') (Nat.le_max_right _ _))
  have x01 : x0 ≤ max x0 (X.getD q1 0) := Nat.le_max_left _ _
  generalize max x0 (X.getD q1 0) = y1 at *
  rw [xt_xo] at hv1
  have vC : ∀ z, nz t0 n1 s2 h (z :: onz t0 n1 s2 h Γ0) C ≤ v.2 + (v.1 - xf (Γ0.length + 1) Γ0.length C) * y1 + xf (Γ0.length + 1) Γ0.length C * z := by
    intro z
    have q := nz_xo (t0 := t0) (n1 := n1) (s2 := s2) H1 (t := C) (ω := onz t0 n1 s2 h Γ0) (z := z) (by rw [l0]; exact oC) hω
    rw [l0] at q
    have q2 := Nat.mul_le_mul_right y1 (show xo Γ0.length C ≤ v.1 - xf (Γ0.length + 1) Γ0.length C by omega)
    omega
  have hp : xf (Γ0.length + 1) Γ0.length C ≤ v.1 := by omega
  refine ⟨xf (Γ0.length + 1) Γ0.length C, hp, ?_⟩
  generalize xf (Γ0.length + 1) Γ0.length C = p at *
  have vA : nz t0 n1 s2 h (onz t0 n1 s2 h Γ0) (tAll B C) ≤ s2 + (v.2 + (v.1 - p) * y1 + p * wB) := by
    rw [nz_all]
    have q := vC (h (nz t0 n1 s2 h (onz t0 n1 s2 h Γ0) B))
    have q2 := Nat.mul_le_mul_left p hwB
    omega
  have vZ : ∀ z, nz t0 n1 s2 h (hzx h z (nz t0 n1 s2 h (onz t0 n1 s2 h Γ0) B) :: onz t0 n1 s2 h Γ0) C ≤ v.2 + (v.1 - p) * y1 + p * max z wB := by
    intro z
    have q := vC (hzx h z (nz t0 n1 s2 h (onz t0 n1 s2 h Γ0) B))
    have q2 : hzx h z (nz t0 n1 s2 h (onz t0 n1 s2 h Γ0) B) ≤ max z wB := by
      unfold hzx
      omega
    have q3 := Nat.mul_le_mul_left p q2
    omega
  have EA1 : 1 ≤ s2 + (v.2 + (v.1 - p) * y1 + p * wB) := by omega
  generalize s2 + (v.2 + (v.1 - p) * y1 + p * wB) = EA at *
  have h0' : ∀ j, j < (tAll B C :: Γ0).length → vw (onz t0 n1 s2 h (tAll B C :: Γ0)) j ≤ max y1 (hv + EA) := by
    intro j hj
    show vw (h (nz t0 n1 s2 h (onz t0 n1 s2 h Γ0) (tAll B C)) :: onz t0 n1 s2 h Γ0) j ≤ _
    rw [vw_cons, l0]
    by_cases e : j = Γ0.length
    · rw [if_pos e]
      have := H1 (nz t0 n1 s2 h (onz t0 n1 s2 h Γ0) (tAll B C))
      omega
    · rw [if_neg e]
      rw [List.length_cons] at hj
      exact Nat.le_trans (hω j (by rw [l0]; omega)) (Nat.le_max_left _ _)
  obtain ⟨e, he', e1, hw⟩ := hr2 _ (Nat.le_trans x01 (Nat.le_max_left _ _)) h0'
  refine ⟨e, he', ?_, hw, vZ⟩
  have := Nat.mul_le_mul_right (max y1 (hv + EA)) e1
  omega
end PmWu
