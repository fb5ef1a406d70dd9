/-! THE MODEL: cells and rows. -/
section PmM1
variable {d : Nat} {Q : Option Value → pm_S → Prop} {M : pm_M} {Rf : Nat → Nat → Nat} {K L : Nat → Nat} {n s : Nat}
set_option maxRecDepth 20000 in
theorem m_cell {r a : Int} (hG : pm_G Rf K L n) (h0 : 0 ≤ 17 * r + a) (h1 : 17 * r + a < 18700) (h : Q (some (.int (zI (M 73 (17 * r + a))))) (zM M, Rf, K, L, n, s)) : pm_Wc (d + 1) 149 [.ref 56, .int (zI r), .int (zI a)] (zM M, Rf, K, L, n, s) Q := by
  refine wc_in (ls0 := [some (.ref 56), some (.int (zI r)), some (.int (zI a))]) (by decide) (Nat.le_of_ble_eq_true rfl) rfl rfl ?_
  refine wp_aload_n d149_0 rfl ?_
  refine wp_getR (q := 73) d149_1 rfl (hG.o (by decide) rfl) (by decide) (hG.r (by decide +kernel)) (by decide) ?_
  refine wz_bipush d149_4 (by decide) ?_
  refine wp_iload_n d149_6 rfl ?_
  refine wz_imul d149_7 ?_
  refine wp_iload_n d149_8 rfl ?_
  refine wz_iadd d149_9 ?_
  refine wz_iald (z := 18700) (v := M 73 ((17 * r) + a)) d149_10 (hG.a (by decide) rfl rfl) (by omega) (by omega) (by decide) rfl ?_
  exact wp_ret d149_11 rfl h
set_option maxRecDepth 20000 in
theorem m_fresh {u : Int} (hG : pm_G Rf K L n) (hu : M 56 22 = u) (h : Q (some (.int (zI u))) (zM (mset M 56 22 (u + 1)), Rf, K, L, n, s)) : pm_Wc (d + 1) 150 [.ref 56] (zM M, Rf, K, L, n, s) Q := by
  refine wc_in (ls0 := [some (.ref 56)]) (by decide) (Nat.le_of_ble_eq_true rfl) rfl rfl ?_
  refine wp_aload_n d150_0 rfl ?_
  refine wp_dupr d150_1 ?_
  refine wz_getI (v := u) d150_2 rfl (hG.o (by decide) rfl) (by decide) hu ?_
  refine wz_iconst d150_5 ?_
  refine wz_iadd d150_6 ?_
  refine wz_putI (i := 22) d150_7 rfl (hG.o (by decide) rfl) rfl (by decide) rfl ?_
  refine wp_aload_n d150_10 rfl ?_
  refine wz_getI (v := u + 1) d150_11 rfl (hG.o (by decide) rfl) (by decide) (by simp [mset]) ?_
  refine wz_iconst d150_14 ?_
  refine wz_isub d150_15 ?_
  rw [show u + 1 - 1 = u by omega]
  exact wp_ret d150_16 rfl h
theorem lab8 {m : Int} (h0 : 0 ≤ m) (h1 : m < 8) : m = 0 ∨ m = 1 ∨ m = 2 ∨ m = 3 ∨ m = 4 ∨ m = 5 ∨ m = 6 ∨ m = 7 := by omega
set_option maxRecDepth 20000 in
theorem m_labels {m : Int} {σ : pm_S} (h0 : 0 ≤ m) (h1 : m < 8) (h : Q (some (.int (zI (lab m)))) σ) : pm_Wc (d + 1) 151 [.int (zI m)] σ Q := by
  refine wc_in (ls0 := [some (.int (zI m))]) (by decide) (Nat.le_of_ble_eq_true rfl) rfl rfl ?_
  refine wp_iload_n d151_0 rfl ?_
  refine wz_iconst d151_1 ?_
  refine wz_and1 d151_2 (by omega) ?_
  refine wp_iload_n d151_3 rfl ?_
  refine wz_iconst d151_4 ?_
  refine wz_ishrq (q := 2) d151_5 (by omega) (by omega) (by omega) (by omega) (by decide) ?_
  refine wz_iconst d151_6 ?_
  refine wz_and1 d151_7 (by omega) ?_
  refine wz_iadd d151_8 ?_
  refine wp_iload_n d151_9 rfl ?_
  refine wz_iconst d151_10 ?_
  refine wz_ishrq (q := 4) d151_11 (by omega) (by omega) (by omega) (by omega) (by decide) ?_
  refine wz_iconst d151_12 ?_
  refine wz_and1 d151_13 (by omega) ?_
  refine wz_iadd d151_14 ?_
  have e : (((m % 2) + ((m / 2) % 2)) + ((m / 4) % 2) : Int) = (lab m : Int) := by
    rcases lab8 h0 h1 with rfl | rfl | rfl | rfl | rfl | rfl | rfl | rfl <;> decide
  rw [e]
  exact wp_ret d151_15 rfl h
set_option maxRecDepth 20000 in
set_option maxHeartbeats 1000000 in
theorem m_end_loop {r a : Int} (hG : pm_G Rf K L n) (hM : ∀ p i, R32 (M p i)) (r0 : 0 ≤ r) (r1 : r < 1100) : ∀ (l : List Int) (k : Nat) (j : Int) (x5 : Option Value), Row M r j l → pre k l = true → k ≤ 17 → 0 ≤ j → j + l.length ≤ 17 → Q (some (.int (zI (j + l.length)))) (zM M, Rf, K, L, n, s) → pm_Wp none (d + 1) 152 5 [some (.ref 56), some (.int (zI r)), some (.int (zI a)), some (.int (zI (k : Int))), some (.int (zI j)), x5] [] (zM M, Rf, K, L, n, s) Q
  | [], 0, j, x5, _, _, _, j0, _, h => by
    refine wp_iload_n d152_5 rfl ?_
    refine wz_if_le (t := 71) d152_6 (by decide) (⟨by omega, by omega⟩) (fun _ => ?_) (fun hb => absurd (by omega) hb)
    refine wp_iload d152_71 rfl ?_
    rw [show j + (([] : List Int).length : Int) = j by simp] at h
    exact wp_ret d152_73 rfl h
  | [], k + 1, _, _, _, hp, _, _, _, _ => by cases hp
  | c :: l, 0, _, _, _, hp, _, _, _, _ => by cases hp
  | c :: l, k + 1, j, x5, hr, hp, hk, j0, j1, h => by
    have hl : ((c :: l).length : Int) = l.length + 1 := by simp
    rw [hl] at j1 h
    have hp : pre (k + ar c) l = true := hp
    have hc : M 73 (17 * r + j) = c := hr.1
    have rc : R32 c := by rw [← hc]; exact hM _ _
    have hle := pre_len hp
    have ih := m_end_loop (a := a) hG hM r0 r1 l (k + ar c) (j + 1)
    refine wp_iload_n d152_5 rfl ?_
    refine wz_if_le (t := 71) d152_6 (by decide) (⟨by omega, by omega⟩) (fun hb => absurd hb (by omega)) (fun _ => ?_)
    refine wp_aload_n d152_9 rfl ?_
    refine wp_iload_n d152_10 rfl ?_
    refine wp_iload d152_11 rfl ?_
    refine wp_virt (as := [.int (zI (j)), .int (zI (r))]) (rest := []) d152_13 rfl rfl rfl (hG.o (by decide) rfl) rfl rfl (Nat.le_of_ble_eq_true rfl) ?_
    refine m_cell hG (by omega) (by omega) ?_
    rw [hc]
    refine wp_istore d152_16 (Nat.le_of_ble_eq_true rfl) rfl ?_
    refine wp_iload_n d152_18 rfl ?_
    refine wz_iconst d152_19 ?_
    refine wz_isub d152_20 ?_
    refine wp_iload d152_21 rfl ?_
    refine wz_iconst d152_23 ?_
    refine wz_icmp_eq (t := 33) d152_24 (by decide) (rc) (⟨by omega, by omega⟩) (fun hb24 => ?_) (fun hb24 => ?_)
    · skip
      refine wz_iconst d152_33 ?_
      refine wp_goto (t := 63) d152_34 (by decide) ?_
      refine wz_iadd d152_63 ?_
      refine wp_istore_n d152_64 (Nat.le_of_ble_eq_true rfl) rfl ?_
      refine wz_iinc d152_65 rfl rfl ?_
      refine wp_goto (t := 5) d152_68 (by decide) ?_
      have har : ar c = 2 := by first | exact (by subst hb24; rfl) | exact (by subst hb30; rfl)
      have e : (((((k + 1 : Nat) : Int)) - 1) + 2 : Int) = ((k + ar c : Nat) : Int) := by rw [har]; omega
      rw [e]
      exact ih _ hr.2 hp (by omega) (by omega) (by omega) (by rw [show j + 1 + (l.length : Int) = j + (l.length + 1) by omega]; exact h)
    · skip
      refine wp_iload d152_27 rfl ?_
      refine wz_iconst d152_29 ?_
      refine wz_icmp_ne (t := 37) d152_30 (by decide) (rc) (⟨by omega, by omega⟩) (fun hb30 => ?_) (fun hb30 => ?_)
      · skip
        refine wp_iload d152_37 rfl ?_
        refine wz_bipush d152_39 (by decide) ?_
        refine wz_icmp_lt (t := 62) d152_41 (by decide) (rc) (⟨by omega, by omega⟩) (fun hb41 => ?_) (fun hb41 => ?_)
        · skip
          refine wz_iconst d152_62 ?_
          refine wz_iadd d152_63 ?_
          refine wp_istore_n d152_64 (Nat.le_of_ble_eq_true rfl) rfl ?_
          refine wz_iinc d152_65 rfl rfl ?_
          refine wp_goto (t := 5) d152_68 (by decide) ?_
          have har : ar c = 0 := by exact ar_none (by omega) (by omega) (by omega)
          have e : (((((k + 1 : Nat) : Int)) - 1) + 0 : Int) = ((k + ar c : Nat) : Int) := by rw [har]; omega
          rw [e]
          exact ih _ hr.2 hp (by omega) (by omega) (by omega) (by rw [show j + 1 + (l.length : Int) = j + (l.length + 1) by omega]; exact h)
        · skip
          refine wp_iload d152_44 rfl ?_
          refine wz_bipush d152_46 (by decide) ?_
          refine wz_icmp_ge (t := 62) d152_48 (by decide) (rc) (⟨by omega, by omega⟩) (fun hb48 => ?_) (fun hb48 => ?_)
          · skip
            refine wz_iconst d152_62 ?_
            refine wz_iadd d152_63 ?_
            refine wp_istore_n d152_64 (Nat.le_of_ble_eq_true rfl) rfl ?_
            refine wz_iinc d152_65 rfl rfl ?_
            refine wp_goto (t := 5) d152_68 (by decide) ?_
            have har : ar c = 0 := by exact ar_none (by omega) (by omega) (by omega)
            have e : (((((k + 1 : Nat) : Int)) - 1) + 0 : Int) = ((k + ar c : Nat) : Int) := by rw [har]; omega
            rw [e]
            exact ih _ hr.2 hp (by omega) (by omega) (by omega) (by rw [show j + 1 + (l.length : Int) = j + (l.length + 1) by omega]; exact h)
          · skip
            refine wp_iload d152_51 rfl ?_
            refine wz_bipush d152_53 (by decide) ?_
            refine wz_isub d152_55 ?_
            refine wp_stat (as := [.int (zI (c - 8))]) (rest := [.int (zI ((((k + 1 : Nat) : Int)) - 1))]) d152_56 rfl rfl rfl rfl rfl (Nat.le_of_ble_eq_true rfl) ?_
            refine m_labels (by omega) (by omega) ?_
            refine wp_goto (t := 63) d152_59 (by decide) ?_
            refine wz_iadd d152_63 ?_
            refine wp_istore_n d152_64 (Nat.le_of_ble_eq_true rfl) rfl ?_
            refine wz_iinc d152_65 rfl rfl ?_
            refine wp_goto (t := 5) d152_68 (by decide) ?_
            have har : ar c = lab (c - 8) := by exact ar_rec (by omega) (by omega)
            have e : (((((k + 1 : Nat) : Int)) - 1) + ((lab (c - 8) : Int)) : Int) = ((k + ar c : Nat) : Int) := by rw [har]; omega
            rw [e]
            exact ih _ hr.2 hp (by omega) (by omega) (by omega) (by rw [show j + 1 + (l.length : Int) = j + (l.length + 1) by omega]; exact h)
      · skip
        refine wz_iconst d152_33 ?_
        refine wp_goto (t := 63) d152_34 (by decide) ?_
        refine wz_iadd d152_63 ?_
        refine wp_istore_n d152_64 (Nat.le_of_ble_eq_true rfl) rfl ?_
        refine wz_iinc d152_65 rfl rfl ?_
        refine wp_goto (t := 5) d152_68 (by decide) ?_
        have har : ar c = 2 := by first | exact (by subst hb24; rfl) | exact (by subst hb30; rfl)
        have e : (((((k + 1 : Nat) : Int)) - 1) + 2 : Int) = ((k + ar c : Nat) : Int) := by rw [har]; omega
        rw [e]
        exact ih _ hr.2 hp (by omega) (by omega) (by omega) (by rw [show j + 1 + (l.length : Int) = j + (l.length + 1) by omega]; exact h)
set_option maxRecDepth 20000 in
theorem m_end {r a : Int} {l : List Int} (hG : pm_G Rf K L n) (hM : ∀ p i, R32 (M p i)) (r0 : 0 ≤ r) (r1 : r < 1100) (a0 : 0 ≤ a) (a1 : a + l.length ≤ 17) (hr : Row M r a l) (hp : pre 1 l = true) (h : Q (some (.int (zI (a + l.length)))) (zM M, Rf, K, L, n, s)) : pm_Wc (d + 2) 152 [.ref 56, .int (zI r), .int (zI a)] (zM M, Rf, K, L, n, s) Q := by
  refine wc_in (ls0 := [some (.ref 56), some (.int (zI r)), some (.int (zI a)), none, none, none]) (by decide) (Nat.le_of_ble_eq_true rfl) rfl rfl ?_
  refine wz_iconst d152_0 ?_
  refine wp_istore_n d152_1 (Nat.le_of_ble_eq_true rfl) rfl ?_
  refine wp_iload_n d152_2 rfl ?_
  refine wp_istore d152_3 (Nat.le_of_ble_eq_true rfl) rfl ?_
  exact m_end_loop hG hM r0 r1 l 1 a none hr hp (by decide) a0 a1 h
end PmM1
