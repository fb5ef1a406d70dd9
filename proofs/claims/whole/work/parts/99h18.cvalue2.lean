/-! THE CLASS: value. -/
section PmH18
variable {d : Nat} {Q : Option Value → pm_S → Prop} {X cnt vs sc : Nat} {M : pm_M} {Rf : Nat → Nat → Nat} {K L : Nat → Nat} {n s zf zv zr : Nat} {H : Int → Option Ty}
theorem c_value_no {r : Int} {st tot : Nat} (hG : pm_G Rf K L n) (hM : ∀ p i, R32 (M p i)) (h13 : M 1 13 = r) (hr : r = 0 ∨ r = 1) (h14 : r = 1 → M 1 14 = (st : Int)) (h15 : r = 1 → M 43 15 = (tot : Int)) (t6 : st ≤ 60 ∧ tot ≤ 60) (hn : r = 0 ∨ st < tot ∨ M 43 16 = -1) (h : Q (some (.int (zI (-1)))) (zM M, Rf, K, L, n, s)) : pm_Wc (d + 1) 16 [.ref 1] (zM M, Rf, K, L, n, s) Q := by
  refine wc_in (ls0 := [some (.ref 1)]) (by decide) (Nat.le_of_ble_eq_true rfl) rfl rfl ?_
  refine wp_aload_n d16_0 rfl ?_
  refine wz_getI (v := r) d16_1 rfl (hG.o (by decide) rfl) (by decide) (h13) ?_
  refine wz_if_eq (t := 32) d16_4 (by decide) ⟨by omega, by omega⟩ (fun hb => ?_) (fun hb => ?_)
  · skip
    refine wz_iconst d16_32 ?_
    exact wp_ret d16_33 rfl (h)
  · skip
    have r1 : r = 1 := by omega
    refine wp_aload_n d16_7 rfl ?_
    refine wz_getI (v := (st : Int)) d16_8 rfl (hG.o (by decide) rfl) (by decide) (h14 r1) ?_
    refine wp_aload_n d16_11 rfl ?_
    refine wp_getR (q := 43) d16_12 rfl (hG.o (by decide) rfl) (by decide) (hG.r (by decide +kernel)) (by decide) ?_
    refine wz_getI (v := (tot : Int)) d16_15 rfl (hG.o (by decide) rfl) (by decide) (h15 r1) ?_
    refine wz_icmp_lt (t := 32) d16_18 (by decide) ⟨by omega, by omega⟩ ⟨by omega, by omega⟩ (fun hc => ?_) (fun hc => ?_)
    · skip
      refine wz_iconst d16_32 ?_
      exact wp_ret d16_33 rfl (h)
    · skip
      refine wp_aload_n d16_21 rfl ?_
      refine wp_getR (q := 43) d16_22 rfl (hG.o (by decide) rfl) (by decide) (hG.r (by decide +kernel)) (by decide) ?_
      refine wz_getI (v := M 43 16) d16_25 rfl (hG.o (by decide) rfl) (by decide) (rfl) ?_
      refine wz_iconst d16_28 ?_
      refine wz_icmp_ne (t := 34) d16_29 (by decide) (hM 43 16) ⟨by omega, by omega⟩ (fun hb => absurd (by omega) hb) (fun _ => ?_)
      refine wz_iconst d16_32 ?_
      exact wp_ret d16_33 rfl (h)
theorem c_valueR {st tot : Nat} {v : Ty} (h : MR X Rf K L n zf zv zr) (hM : ∀ p i, R32 (M p i)) (h13 : M 1 13 = 1) (h14 : M 1 14 = (st : Int)) (h15 : M 43 15 = (tot : Int)) (t6 : tot ≤ 60) (ht : st = tot) (hh : HPk (cvw M Rf) X cnt vs sc H) (vz : vs ≤ zv) (c6 : cnt ≤ 60) (hv : H (M 43 16) = some v) (h3 : 100 < (vtx v).length → ∀ M' : pm_M, PGF M M' → (∀ p i, R32 (M' p i)) → Q (some (.int (zI (-3)))) (zM M', Rf, K, L, n, s)) (h1 : (vtx v).length ≤ 100 → ∀ M' : pm_M, (∀ (p : Nat) (i : Int), p ≠ 14 → p ≠ 15 → ¬ (p = 13 ∧ (i = 2 ∨ i = 3)) → M' p i = M p i) → SH M' (vtx v) → (∀ p i, R32 (M' p i)) → Q (some (.int (zI ((vtx v).length : Int)))) (zM M', Rf, K, L, n, s)) : pm_Wc (d + 84) 16 [.ref 1] (zM M, Rf, K, L, n, s) Q := by
  have hG := h.1
  have i0 := (hh _ _ hv).1
  have g0 : PGF M (mset M 13 3 0) := fun p i p1 p2 => by
    exact (by unfold mset; rw [if_neg p2])
  have d0 : DR (mset M 13 3 0) [] := ⟨mset_s _ _ _ _, fun i hi => absurd hi (Nat.not_lt_zero _), fun c hc => absurd hc (List.not_mem_nil)⟩
  have rM := hM 43 16
  refine wc_in (ls0 := [some (.ref 1)]) (by decide) (Nat.le_of_ble_eq_true rfl) rfl rfl ?_
  refine wp_aload_n d16_0 rfl ?_
  refine wz_getI (v := 1) d16_1 rfl (hG.o (by decide) rfl) (by decide) (h13) ?_
  refine wz_if_eq (t := 32) d16_4 (by decide) ⟨by omega, by omega⟩ (fun hb => absurd hb (by omega)) (fun _ => ?_)
  refine wp_aload_n d16_7 rfl ?_
  refine wz_getI (v := (st : Int)) d16_8 rfl (hG.o (by decide) rfl) (by decide) (h14) ?_
  refine wp_aload_n d16_11 rfl ?_
  refine wp_getR (q := 43) d16_12 rfl (hG.o (by decide) rfl) (by decide) (hG.r (by decide +kernel)) (by decide) ?_
  refine wz_getI (v := (tot : Int)) d16_15 rfl (hG.o (by decide) rfl) (by decide) (h15) ?_
  refine wz_icmp_lt (t := 32) d16_18 (by decide) ⟨by omega, by omega⟩ ⟨by omega, by omega⟩ (fun hb => absurd hb (by omega)) (fun _ => ?_)
  refine wp_aload_n d16_21 rfl ?_
  refine wp_getR (q := 43) d16_22 rfl (hG.o (by decide) rfl) (by decide) (hG.r (by decide +kernel)) (by decide) ?_
  refine wz_getI (v := M 43 16) d16_25 rfl (hG.o (by decide) rfl) (by decide) (rfl) ?_
  refine wz_iconst d16_28 ?_
  refine wz_icmp_ne (t := 34) d16_29 (by decide) (hM 43 16) ⟨by omega, by omega⟩ (fun _ => ?_) (fun hb => absurd hb (by omega))
  refine wp_aload_n d16_34 rfl ?_
  refine wp_getR (q := 13) d16_35 rfl (hG.o (by decide) rfl) (by decide) (hG.r (by decide +kernel)) (by decide) ?_
  refine wp_virt (as := []) (rest := []) d16_38 rfl rfl rfl (hG.o (by decide) rfl) rfl rfl (Nat.le_of_ble_eq_true rfl) ?_
  refine wc_deep (show d + 1 ≤ d + 83 by omega) ?_
  refine c_pbegin hG ?_
  refine wp_aload_n d16_41 rfl ?_
  refine wp_getR (q := 43) d16_42 rfl (hG.o (by decide) rfl) (by decide) (hG.r (by decide +kernel)) (by decide) ?_
  refine wp_aload_n d16_45 rfl ?_
  refine wp_getR (q := 13) d16_46 rfl (hG.o (by decide) rfl) (by decide) (hG.r (by decide +kernel)) (by decide) ?_
  refine wp_aload_n d16_49 rfl ?_
  refine wp_getR (q := 43) d16_50 rfl (hG.o (by decide) rfl) (by decide) (hG.r (by decide +kernel)) (by decide) ?_
  refine wz_getI (v := M 43 16) d16_53 rfl (hG.o (by decide) rfl) (by decide) (mset_p _ _ _ _ (by decide)) ?_
  refine wz_iconst d16_56 ?_
  refine wp_virt (as := [.int (zI 0), .int (zI (M 43 16)), .ref 13]) (rest := []) d16_57 rfl rfl rfl (hG.o (by decide) rfl) rfl rfl (Nat.le_of_ble_eq_true rfl) ?_
  refine wc_deep (show d + 2 * 40 + 3 ≤ d + 83 by omega) ?_
  refine c_writeV 40 _ X cnt vs sc _ Rf K L n s zf zv zr 0 H [] _ v h (mset_R32 hM ⟨by omega, by omega⟩) (PGF.hpk h g0 hh) vz c6 hv rfl (Nat.zero_le _) d0 (Nat.zero_le _) (fun M1 w1 g1 d1 m1 t1 l1 => ?_)
  have g01 := g0.tr g1
  rw [if_pos (by decide)] at l1
  have t1' := t1.1
  rw [List.nil_append] at t1'
  refine wp_aload_n d16_60 rfl ?_
  refine wp_getR (q := 13) d16_61 rfl (hG.o (by decide) rfl) (by decide) (hG.r (by decide +kernel)) (by decide) ?_
  refine wp_virt (as := []) (rest := []) d16_64 rfl rfl rfl (hG.o (by decide) rfl) rfl rfl (Nat.le_of_ble_eq_true rfl) ?_
  refine wc_deep (show d + 2 ≤ d + 83 by omega) ?_
  refine c_show hG m1 d1 (by omega) (fun hb => ?_) (fun hb M2 e2 s2 m2 => ?_)
  · skip
    exact wp_ret d16_67 rfl (h3 (by rcases t1' with e | ⟨_, e⟩; rw [← e]; omega; exact e) M1 g01 m1)
  · skip
    have e1 : w1 = vtx v := by rcases t1' with e | ⟨e, _⟩; exact e; omega
    rw [e1] at s2 hb
    rw [e1]
    exact wp_ret d16_67 rfl (h1 hb M2 (fun p i p1 p2 p3 => (e2 p i p1 (fun e => p3 ⟨e.1, Or.inl e.2⟩)).trans (g01 p i p2 (fun e => p3 ⟨e.1, Or.inr e.2⟩))) s2 m2)
end PmH18
