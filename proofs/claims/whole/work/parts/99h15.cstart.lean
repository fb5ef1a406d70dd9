/-! THE CLASS: start, step, steps. -/
section PmH15
variable {d : Nat} {Q : Option Value → pm_S → Prop} {X X0 cnt : Nat} {M : pm_M} {Rf : Nat → Nat → Nat} {K L : Nat → Nat} {n s zf zv zr : Nat} {T : Ty}
theorem c_steps {r mm : Int} (hG : pm_G Rf K L n) (h13 : M 1 13 = r) (h14 : M 1 14 = mm) (hr : r = 0 ∨ r = 1) (h0 : r = 0 → Q (some (.int (zI (-1)))) (zM M, Rf, K, L, n, s)) (h1 : r = 1 → Q (some (.int (zI mm))) (zM M, Rf, K, L, n, s)) : pm_Wc (d + 1) 15 [.ref 1] (zM M, Rf, K, L, n, s) Q := by
  refine wc_in (ls0 := [some (.ref 1)]) (by decide) (Nat.le_of_ble_eq_true rfl) rfl rfl ?_
  refine wp_aload_n d15_0 rfl ?_
  refine wz_getI (v := r) d15_1 rfl (hG.o (by decide) rfl) (by decide) (h13) ?_
  refine wz_if_eq (t := 14) d15_4 (by decide) ⟨by omega, by omega⟩ (fun hb => ?_) (fun hb => ?_)
  · skip
    refine wz_iconst d15_14 ?_
    exact wp_ret d15_15 rfl (h0 hb)
  · skip
    refine wp_aload_n d15_7 rfl ?_
    refine wz_getI (v := mm) d15_8 rfl (hG.o (by decide) rfl) (by decide) (h14) ?_
    refine wp_goto (t := 15) d15_11 (by decide) ?_
    exact wp_ret d15_15 rfl (h1 (by omega))
theorem c_step_no {r k : Int} (hG : pm_G Rf K L n) (rk : R32 k) (h13 : M 1 13 = r) (hr : r = 0 ∨ r = 1) (hn : r = 0 ∨ ¬ (1 ≤ k ∧ k ≤ 20)) (h : Q (some (.int (zI (-2)))) (zM M, Rf, K, L, n, s)) : pm_Wc (d + 1) 14 [.ref 1, .int (zI k)] (zM M, Rf, K, L, n, s) Q := by
  refine wc_in (ls0 := [some (.ref 1), some (.int (zI k)), none]) (by decide) (Nat.le_of_ble_eq_true rfl) rfl rfl ?_
  refine wp_aload_n d14_0 rfl ?_
  refine wz_getI (v := r) d14_1 rfl (hG.o (by decide) rfl) (by decide) (h13) ?_
  refine wz_if_eq (t := 18) d14_4 (by decide) ⟨by omega, by omega⟩ (fun hb => ?_) (fun hb => ?_)
  · skip
    refine wz_bipush d14_18 (by decide) ?_
    exact wp_ret d14_20 rfl (h)
  · skip
    refine wp_iload_n d14_7 rfl ?_
    refine wz_iconst d14_8 ?_
    refine wz_icmp_lt (t := 18) d14_9 (by decide) rk ⟨by omega, by omega⟩ (fun hc => ?_) (fun hc => ?_)
    · skip
      refine wz_bipush d14_18 (by decide) ?_
      exact wp_ret d14_20 rfl (h)
    · skip
      refine wp_iload_n d14_12 rfl ?_
      refine wz_bipush d14_13 (by decide) ?_
      refine wz_icmp_le (t := 21) d14_15 (by decide) rk ⟨by omega, by omega⟩ (fun he => ?_) (fun he => ?_)
      · skip
        omega
      · skip
        refine wz_bipush d14_18 (by decide) ?_
        exact wp_ret d14_20 rfl (h)
theorem c_stepR {k : Int} {st tot : Nat} (hG : pm_G Rf K L n) (h13 : M 1 13 = 1) (h14 : M 1 14 = (st : Int)) (h15 : M 43 15 = (tot : Int)) (st1 : st ≤ tot) (t6 : tot ≤ 60) (hk : 1 ≤ k ∧ k ≤ 20) (h : Q (some (.int (zI ((min k.toNat (tot - st) : Nat) : Int)))) (zM (mset M 1 14 ((st + min k.toNat (tot - st) : Nat) : Int)), Rf, K, L, n, s)) : pm_Wc (d + 1) 14 [.ref 1, .int (zI k)] (zM M, Rf, K, L, n, s) Q := by
  refine wc_in (ls0 := [some (.ref 1), some (.int (zI k)), none]) (by decide) (Nat.le_of_ble_eq_true rfl) rfl rfl ?_
  refine wp_aload_n d14_0 rfl ?_
  refine wz_getI (v := 1) d14_1 rfl (hG.o (by decide) rfl) (by decide) (h13) ?_
  refine wz_if_eq (t := 18) d14_4 (by decide) ⟨by omega, by omega⟩ (fun hb => absurd hb (by omega)) (fun _ => ?_)
  refine wp_iload_n d14_7 rfl ?_
  refine wz_iconst d14_8 ?_
  refine wz_icmp_lt (t := 18) d14_9 (by decide) ⟨by omega, by omega⟩ ⟨by omega, by omega⟩ (fun hb => absurd hb (by omega)) (fun _ => ?_)
  refine wp_iload_n d14_12 rfl ?_
  refine wz_bipush d14_13 (by decide) ?_
  refine wz_icmp_le (t := 21) d14_15 (by decide) ⟨by omega, by omega⟩ ⟨by omega, by omega⟩ (fun _ => ?_) (fun hb => absurd (by omega) hb)
  refine wp_iload_n d14_21 rfl ?_
  refine wp_aload_n d14_22 rfl ?_
  refine wp_getR (q := 43) d14_23 rfl (hG.o (by decide) rfl) (by decide) (hG.r (by decide +kernel)) (by decide) ?_
  refine wz_getI (v := (tot : Int)) d14_26 rfl (hG.o (by decide) rfl) (by decide) (h15) ?_
  refine wp_aload_n d14_29 rfl ?_
  refine wz_getI (v := (st : Int)) d14_30 rfl (hG.o (by decide) rfl) (by decide) (h14) ?_
  refine wz_isub d14_33 ?_
  generalize em : min k.toNat (tot - st) = m at h
  refine wp_min (v := zI (m : Int)) d14_34 rfl rfl rfl (by decide) ?_ ?_
  · by_cases he : (tot : Int) - st < k
    · rw [if_pos ((zI_lt (a := (tot : Int) - st) (b := k) ⟨by omega, by omega⟩ ⟨by omega, by omega⟩).mpr he), show (tot : Int) - st = (m : Int) by omega]
    · rw [if_neg (fun e => he ((zI_lt (a := (tot : Int) - st) (b := k) ⟨by omega, by omega⟩ ⟨by omega, by omega⟩).mp e)), show k = (m : Int) by omega]
  refine wp_istore_n d14_37 (Nat.le_of_ble_eq_true rfl) rfl ?_
  refine wp_aload_n d14_38 rfl ?_
  refine wp_dupr d14_39 ?_
  refine wz_getI (v := (st : Int)) d14_40 rfl (hG.o (by decide) rfl) (by decide) (h14) ?_
  refine wp_iload_n d14_43 rfl ?_
  refine wz_iadd d14_44 ?_
  refine wz_putI (i := 14) d14_45 rfl (hG.o (by decide) rfl) rfl (by decide) rfl ?_
  refine wp_iload_n d14_48 rfl ?_
  exact wp_ret d14_49 rfl (h)
theorem c_start_no {o : Option (Sum Nat Ty)} (hG : pm_G Rf K L n) (hM : ∀ p i, R32 (M p i)) (ct : CTm M o) (hr : ∀ A, o ≠ some (.inr A)) (h : Q (some (.int (zI 0))) (zM M, Rf, K, L, n, s)) : pm_Wc (d + 2) 13 [.ref 1] (zM M, Rf, K, L, n, s) Q := by
  refine wc_in (ls0 := [some (.ref 1)]) (by decide) (Nat.le_of_ble_eq_true rfl) rfl rfl ?_
  refine wp_aload_n d13_0 rfl ?_
  refine wp_virt (as := []) (rest := []) d13_1 rfl rfl rfl (hG.o (by decide) rfl) rfl rfl (Nat.le_of_ble_eq_true rfl) ?_
  refine c_termHasType hG hM ct (fun A hA => absurd hA (hr A)) (fun _ => ?_)
  refine wz_if_ne (t := 9) d13_4 (by decide) ⟨by omega, by omega⟩ (fun hb => absurd (by omega) hb) (fun _ => ?_)
  refine wz_iconst d13_7 ?_
  exact wp_ret d13_8 rfl (h)
theorem c_start {A : Ty} (h0 : MR X0 Rf K L n zf zv zr) (hX : X = 16 ∨ X = 23) (hM : ∀ p i, R32 (M p i)) (r9 : Rf 1 9 = X) (ct : CTm M (some (.inr A))) (tm : TMc M X cnt T) (tw : TWf 24 0 [] T) (v20 : vN T ≤ 20) (p60 : pnd T ≤ 60) (hs : ∀ q, Sf q (.inl (T, .nil, []))) (hQ : ∀ (M' : pm_M) (Rf' : Nat → Nat → Nat) (K' L' : Nat → Nat) (n' s' zf' zv' tot : Nat) (c : Cf), MX X M (rset Rf 43 8 X) K L n s zf zv zr M' Rf' K' L' n' s' zf' zv' → FinK M' Rf' X cnt zv' T tot c → Q (some (.int (zI 1))) (zM (mset (mset M' 1 13 1) 1 14 0), Rf', K', L', n', s')) : pm_Wc (d + 7) 13 [.ref 1] (zM M, Rf, K, L, n, s) Q := by
  have hG := h0.1
  have Xp : 1 ≤ X := by omega
  have hXo : pm_At K n X 4 := by rcases hX with rfl | rfl <;> exact hG.o (by decide) rfl
  refine wc_in (ls0 := [some (.ref 1)]) (by decide) (Nat.le_of_ble_eq_true rfl) rfl rfl ?_
  refine wp_aload_n d13_0 rfl ?_
  refine wp_virt (as := []) (rest := []) d13_1 rfl rfl rfl (hG.o (by decide) rfl) rfl rfl (Nat.le_of_ble_eq_true rfl) ?_
  refine wc_deep (show d + 1 ≤ d + 6 by omega) ?_
  refine c_termHasType hG hM ct (fun A hA => ?_) (fun hh => absurd rfl (hh A))
  refine wz_if_ne (t := 9) d13_4 (by decide) ⟨by omega, by omega⟩ (fun _ => ?_) (fun hb => absurd hb (by omega))
  refine wp_aload_n d13_9 rfl ?_
  refine wp_getR (q := 43) d13_10 rfl (hG.o (by decide) rfl) (by decide) (hG.r (by decide +kernel)) (by decide) ?_
  refine wp_aload_n d13_13 rfl ?_
  refine wp_getR (q := X) d13_14 rfl (hG.o (by decide) rfl) (by decide) r9 Xp ?_
  refine wp_virt (as := [.ref X]) (rest := []) d13_17 rfl rfl rfl (hG.o (by decide) rfl) (by simp [pm_vc]) rfl (Nat.le_of_ble_eq_true rfl) ?_
  refine c_run (d := d) h0 hX hM tm tw v20 p60 hs (fun M1 R1 K1 L1 n1 s1 zf1 zv1 tot c mx fk => ?_)
  have hG1 := mx.1.1
  refine wp_aload_n d13_20 rfl ?_
  refine wz_iconst d13_21 ?_
  refine wz_putI (i := 13) d13_22 rfl (hG1.o (by decide) rfl) (by decide) (by decide) rfl ?_
  refine wp_aload_n d13_25 rfl ?_
  refine wz_iconst d13_26 ?_
  refine wz_putI (i := 14) d13_27 rfl (hG1.o (by decide) rfl) rfl (by decide) rfl ?_
  refine wz_iconst d13_30 ?_
  exact wp_ret d13_31 rfl (hQ M1 R1 K1 L1 n1 s1 zf1 zv1 tot c mx fk)
end PmH15
