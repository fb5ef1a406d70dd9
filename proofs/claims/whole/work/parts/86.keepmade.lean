/-! THE CLASS: keepMade. -/
section PmC19
variable {d : Nat} {Q : Option Value → pm_S → Prop} {M : pm_M} {Rf : Nat → Nat → Nat} {K L : Nat → Nat} {n s : Nat}
theorem c_keepMade {z N k : Nat} {cn r : Int} {R : Ty} (hk : k < 4) (hG : pm_G Rf K L n) (hR : RmI Rf K L n z) (hM : ∀ p i, R32 (M p i)) (cz : cn ≤ z) (nt : ndf M Rf cn N R r) (ot : ok 0 R = true) (hN : N ≤ 40) (hl : (flat R).length ≤ 1000000) (h3 : ¬ (flat R).length ≤ 16 → Q (some (.int (zI (-3)))) (zM M, Rf, K, L, n, s)) (h1 : (flat R).length ≤ 16 → ∀ M' : pm_M, (∀ (p : Nat) (i : Int), ¬ (p = 30 + 2 * k ∧ i = 1) → p ≠ 31 + 2 * k → M' p i = M p i) → KTY M' (30 + 2 * k) (31 + 2 * k) R → (∀ p i, R32 (M' p i)) → Q (some (.int (zI ((flat R).length : Int)))) (zM M', Rf, K, L, n, s)) : pm_Wc (d + N + 4) 21 [.ref 1, .int (zI r), .int (zI (k : Int))] (zM M, Rf, K, L, n, s) Q := by
  have hz := hR.2.2.2.2
  have rr := ndf_rng nt
  have sz : M (Rf 6 4) r = ((flat R).length : Int) := by
    match N, nt with
    | N + 1, nt => exact nt.1.2.2.2.1
  have ko := KO_slot hk
  refine wc_in (ls0 := [some (.ref 1), some (.int (zI r)), some (.int (zI (k : Int))), none]) (by decide) (Nat.le_of_ble_eq_true rfl) rfl rfl ?_
  refine wp_aload_n d21_0 rfl ?_
  refine wp_getR (q := 6) d21_1 rfl (hG.o (by decide) rfl) (by decide) (hG.r (by decide +kernel)) (by decide) ?_
  refine wp_getR (q := Rf 6 4) d21_4 rfl (hG.o (by decide) rfl) (by decide) rfl (hR.1 4 (by decide)).1 ?_
  refine wp_iload_n d21_7 rfl ?_
  refine wz_iald (z := z) (v := ((flat R).length : Int)) d21_8 (hR.1 4 (by decide)) rr.1 (by omega) (by omega) sz ?_
  refine wp_istore_n d21_9 (Nat.le_of_ble_eq_true rfl) rfl ?_
  refine wp_iload_n d21_10 rfl ?_
  refine wz_bipush d21_11 (by decide) ?_
  refine wz_icmp_le (t := 19) d21_13 (by decide) ⟨by omega, by omega⟩ ⟨by omega, by omega⟩ (fun hb => ?_) (fun hb => ?_)
  · refine wp_aload_n d21_19 rfl ?_
    refine wp_getR (q := 6) d21_20 rfl (hG.o (by decide) rfl) (by decide) (hG.r (by decide +kernel)) (by decide) ?_
    refine wp_iload_n d21_23 rfl ?_
    refine wp_aload_n d21_24 rfl ?_
    refine wp_getR (q := 3) d21_25 rfl (hG.o (by decide) rfl) (by decide) (hG.r (by decide +kernel)) (by decide) ?_
    refine wp_iload_n d21_28 rfl ?_
    refine wz_aald (z := 4) (q := 30 + 2 * k) d21_29 (hG.a (by decide) rfl rfl) (by omega) (by omega) (by decide) (by rw [Int.toNat_natCast]; exact hG.slot hk) (by omega) ?_
    refine wp_virt (as := [.ref (30 + 2 * k), .int (zI r)]) (rest := []) d21_30 rfl rfl rfl (hG.o (by decide) rfl) (by simp [pm_vc]) rfl (Nat.le_of_ble_eq_true rfl) ?_
    refine c_keep ko hG hR cz hM nt ot (by omega) hN (by omega) (fun M' e1 e2 e3 e4 => ?_)
    refine wp_iload_n d21_33 rfl ?_
    exact wp_ret d21_34 rfl (h1 (by omega) M' e1 ⟨e2, e3, by omega, ot⟩ e4)
  · refine wz_bipush d21_16 (by decide) ?_
    exact wp_ret d21_18 rfl (h3 (by omega))
end PmC19
