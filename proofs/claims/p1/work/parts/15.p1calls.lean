/-! CALLS ON FRESH OBJECTS. -/
theorem pm_slot4 {i : Int32} (h1 : 0 ≤ i) (h2 : i < 4) : i = 0 ∨ i = 1 ∨ i = 2 ∨ i = 3 := by
  obtain ⟨j, hj, rfl⟩ := nI_of2 (M := 3) (n := 3) (by decide) (Int32.not_lt.mpr h1) (by
    rw [Int32.le_iff_toInt_le]
    rw [Int32.lt_iff_toInt_lt] at h2
    have e1 : (4 : Int32).toInt = 4 := by decide
    have e2 : (3 : Int32).toInt = 3 := by decide
    omega)
  match j, hj with
  | 0, _ => exact Or.inl rfl
  | 1, _ => exact Or.inr (Or.inl rfl)
  | 2, _ => exact Or.inr (Or.inr (Or.inl rfl))
  | 3, _ => exact Or.inr (Or.inr (Or.inr rfl))
theorem pm_lt4 {v : Int32} (h : v ≤ 3) : v < 4 := by
  rw [Int32.lt_iff_toInt_lt]
  rw [Int32.le_iff_toInt_le] at h
  have e1 : (4 : Int32).toInt = 4 := by decide
  have e2 : (3 : Int32).toInt = 3 := by decide
  omega
section PmP1
variable {d : Nat} {Q : Option Value → pm_S → Prop} {I : Nat → Nat → Int32} {Rf : Nat → Nat → Nat} {K L : Nat → Nat} {n s : Nat}
set_option maxRecDepth 20000 in
theorem xf_isSlot {v : Int32} (h1 : 0 ≤ v → v < 4 → Q (some (.int 1)) (I, Rf, K, L, n, s)) (h0 : ¬ (0 ≤ v ∧ v < 4) → Q (some (.int 0)) (I, Rf, K, L, n, s)) : pm_Wc (d + 1) 17 [.int v] (I, Rf, K, L, n, s) Q := by
  refine wc_in (ls0 := [some (.int v)]) (by decide) (Nat.le_of_ble_eq_true rfl) rfl rfl ?_
  refine wp_iload_n d17_0 rfl ?_
  refine wp_if_lt (t := 13) d17_1 (by decide) (fun hb1 => ?_) (fun hb1 => ?_)
  · skip
    refine wp_iconst (v := 0) d17_13 (by decide) ?_
    exact wp_ret d17_14 (by decide +kernel) (h0 (fun q => by first | exact absurd q.1 (Int32.not_le.mpr (by assumption)) | exact absurd q.1 (by assumption) | exact absurd q.2 (Int32.not_lt.mpr (by assumption)) | exact absurd q.2 (Int32.not_le.mpr (by assumption)) | exact absurd q.2 (by assumption)))
  · skip
    refine wp_iload_n d17_4 rfl ?_
    refine wp_iconst (v := 4) d17_5 (by decide) ?_
    refine wp_icmp_ge (t := 13) d17_6 (by decide) (fun hb6 => ?_) (fun hb6 => ?_)
    · skip
      refine wp_iconst (v := 0) d17_13 (by decide) ?_
      exact wp_ret d17_14 (by decide +kernel) (h0 (fun q => by first | exact absurd q.1 (Int32.not_le.mpr (by assumption)) | exact absurd q.1 (by assumption) | exact absurd q.2 (Int32.not_lt.mpr (by assumption)) | exact absurd q.2 (Int32.not_le.mpr (by assumption)) | exact absurd q.2 (by assumption)))
    · skip
      refine wp_iconst (v := 1) d17_9 (by decide) ?_
      refine wp_goto (t := 14) d17_10 (by decide) ?_
      exact wp_ret d17_14 (by decide +kernel) (h1 (by first | assumption | exact Int32.not_lt.mp (by assumption)) (by first | assumption | exact Int32.not_le.mp (by assumption) | exact Int32.not_lt.mp (by assumption)))
set_option maxRecDepth 20000 in
theorem mf_isSlot {v : Int32} (h1 : 0 ≤ v → v ≤ 3 → Q (some (.int 1)) (I, Rf, K, L, n, s)) (h0 : ¬ (0 ≤ v ∧ v ≤ 3) → Q (some (.int 0)) (I, Rf, K, L, n, s)) : pm_Wc (d + 1) 170 [.ref 56, .int v] (I, Rf, K, L, n, s) Q := by
  refine wc_in (ls0 := [some (.ref 56), some (.int v)]) (by decide) (Nat.le_of_ble_eq_true rfl) rfl rfl ?_
  refine wp_iload_n d170_0 rfl ?_
  refine wp_if_lt (t := 13) d170_1 (by decide) (fun hb1 => ?_) (fun hb1 => ?_)
  · skip
    refine wp_iconst (v := 0) d170_13 (by decide) ?_
    exact wp_ret d170_14 (by decide +kernel) (h0 (fun q => by first | exact absurd q.1 (Int32.not_le.mpr (by assumption)) | exact absurd q.1 (by assumption) | exact absurd q.2 (Int32.not_lt.mpr (by assumption)) | exact absurd q.2 (Int32.not_le.mpr (by assumption)) | exact absurd q.2 (by assumption)))
  · skip
    refine wp_iload_n d170_4 rfl ?_
    refine wp_iconst (v := 3) d170_5 (by decide) ?_
    refine wp_icmp_gt (t := 13) d170_6 (by decide) (fun hb6 => ?_) (fun hb6 => ?_)
    · skip
      refine wp_iconst (v := 0) d170_13 (by decide) ?_
      exact wp_ret d170_14 (by decide +kernel) (h0 (fun q => by first | exact absurd q.1 (Int32.not_le.mpr (by assumption)) | exact absurd q.1 (by assumption) | exact absurd q.2 (Int32.not_lt.mpr (by assumption)) | exact absurd q.2 (Int32.not_le.mpr (by assumption)) | exact absurd q.2 (by assumption)))
    · skip
      refine wp_iconst (v := 1) d170_9 (by decide) ?_
      refine wp_goto (t := 14) d170_10 (by decide) ?_
      exact wp_ret d170_14 (by decide +kernel) (h1 (by first | assumption | exact Int32.not_lt.mp (by assumption)) (by first | assumption | exact Int32.not_le.mp (by assumption) | exact Int32.not_lt.mp (by assumption)))
set_option maxRecDepth 20000 in
theorem xf_hasType {v : Int32} (hF : pm_Fresh (I, Rf, K, L, n, s)) (h : Q (some (.int 0)) (I, Rf, K, L, n, s)) : pm_Wc (d + 2) 18 [.ref 1, .int v] (I, Rf, K, L, n, s) Q := by
  have hG : pm_G Rf K L n := hF.1
  by_cases hv : 0 ≤ v ∧ v < 4
  · rcases pm_slot4 hv.1 hv.2 with rfl | rfl | rfl | rfl
    · refine wc_in (ls0 := [some (.ref 1), some (.int 0)]) (by decide) (Nat.le_of_ble_eq_true rfl) rfl rfl ?_
      refine wp_iload_n d18_0 rfl ?_
      refine wp_stat (as := [.int 0]) (rest := []) d18_1 rfl rfl rfl rfl rfl (Nat.le_of_ble_eq_true rfl) ?_
      refine xf_isSlot (fun _ _ => ?_) (fun hs0 => absurd (by decide +kernel) hs0)
      refine wp_if_eq (t := 23) d18_4 (by decide) (fun h => absurd h (by decide +kernel)) (fun _ => ?_)
      refine wp_aload_n d18_7 rfl ?_
      refine wp_getR (q := 3) d18_8 rfl (hG.o (by decide) rfl) (by decide) (hG.r (by decide +kernel)) (by decide) ?_
      refine wp_iload_n d18_11 rfl ?_
      refine wp_aald (q := 30) d18_12 (hG.a (by decide) rfl rfl) (pm_inb_iff.mp (by decide +kernel)) (hG.r (by decide +kernel)) (by decide) ?_
      refine wp_getIv (v := 0) d18_13 rfl (hG.o (by decide) rfl) (by decide) (hF.2.2.2.2 (30, 1, 0) (by decide +kernel)) ?_
      refine wp_if_le (t := 23) d18_16 (by decide) (fun _ => ?_) (fun h => absurd (by decide +kernel) h)
      refine wp_iconst (v := 0) d18_23 (by decide) ?_
      exact wp_ret d18_24 (by decide +kernel) h
    · refine wc_in (ls0 := [some (.ref 1), some (.int 1)]) (by decide) (Nat.le_of_ble_eq_true rfl) rfl rfl ?_
      refine wp_iload_n d18_0 rfl ?_
      refine wp_stat (as := [.int 1]) (rest := []) d18_1 rfl rfl rfl rfl rfl (Nat.le_of_ble_eq_true rfl) ?_
      refine xf_isSlot (fun _ _ => ?_) (fun hs0 => absurd (by decide +kernel) hs0)
      refine wp_if_eq (t := 23) d18_4 (by decide) (fun h => absurd h (by decide +kernel)) (fun _ => ?_)
      refine wp_aload_n d18_7 rfl ?_
      refine wp_getR (q := 3) d18_8 rfl (hG.o (by decide) rfl) (by decide) (hG.r (by decide +kernel)) (by decide) ?_
      refine wp_iload_n d18_11 rfl ?_
      refine wp_aald (q := 32) d18_12 (hG.a (by decide) rfl rfl) (pm_inb_iff.mp (by decide +kernel)) (hG.r (by decide +kernel)) (by decide) ?_
      refine wp_getIv (v := 0) d18_13 rfl (hG.o (by decide) rfl) (by decide) (hF.2.2.2.2 (32, 1, 0) (by decide +kernel)) ?_
      refine wp_if_le (t := 23) d18_16 (by decide) (fun _ => ?_) (fun h => absurd (by decide +kernel) h)
      refine wp_iconst (v := 0) d18_23 (by decide) ?_
      exact wp_ret d18_24 (by decide +kernel) h
    · refine wc_in (ls0 := [some (.ref 1), some (.int 2)]) (by decide) (Nat.le_of_ble_eq_true rfl) rfl rfl ?_
      refine wp_iload_n d18_0 rfl ?_
      refine wp_stat (as := [.int 2]) (rest := []) d18_1 rfl rfl rfl rfl rfl (Nat.le_of_ble_eq_true rfl) ?_
      refine xf_isSlot (fun _ _ => ?_) (fun hs0 => absurd (by decide +kernel) hs0)
      refine wp_if_eq (t := 23) d18_4 (by decide) (fun h => absurd h (by decide +kernel)) (fun _ => ?_)
      refine wp_aload_n d18_7 rfl ?_
      refine wp_getR (q := 3) d18_8 rfl (hG.o (by decide) rfl) (by decide) (hG.r (by decide +kernel)) (by decide) ?_
      refine wp_iload_n d18_11 rfl ?_
      refine wp_aald (q := 34) d18_12 (hG.a (by decide) rfl rfl) (pm_inb_iff.mp (by decide +kernel)) (hG.r (by decide +kernel)) (by decide) ?_
      refine wp_getIv (v := 0) d18_13 rfl (hG.o (by decide) rfl) (by decide) (hF.2.2.2.2 (34, 1, 0) (by decide +kernel)) ?_
      refine wp_if_le (t := 23) d18_16 (by decide) (fun _ => ?_) (fun h => absurd (by decide +kernel) h)
      refine wp_iconst (v := 0) d18_23 (by decide) ?_
      exact wp_ret d18_24 (by decide +kernel) h
    · refine wc_in (ls0 := [some (.ref 1), some (.int 3)]) (by decide) (Nat.le_of_ble_eq_true rfl) rfl rfl ?_
      refine wp_iload_n d18_0 rfl ?_
      refine wp_stat (as := [.int 3]) (rest := []) d18_1 rfl rfl rfl rfl rfl (Nat.le_of_ble_eq_true rfl) ?_
      refine xf_isSlot (fun _ _ => ?_) (fun hs0 => absurd (by decide +kernel) hs0)
      refine wp_if_eq (t := 23) d18_4 (by decide) (fun h => absurd h (by decide +kernel)) (fun _ => ?_)
      refine wp_aload_n d18_7 rfl ?_
      refine wp_getR (q := 3) d18_8 rfl (hG.o (by decide) rfl) (by decide) (hG.r (by decide +kernel)) (by decide) ?_
      refine wp_iload_n d18_11 rfl ?_
      refine wp_aald (q := 36) d18_12 (hG.a (by decide) rfl rfl) (pm_inb_iff.mp (by decide +kernel)) (hG.r (by decide +kernel)) (by decide) ?_
      refine wp_getIv (v := 0) d18_13 rfl (hG.o (by decide) rfl) (by decide) (hF.2.2.2.2 (36, 1, 0) (by decide +kernel)) ?_
      refine wp_if_le (t := 23) d18_16 (by decide) (fun _ => ?_) (fun h => absurd (by decide +kernel) h)
      refine wp_iconst (v := 0) d18_23 (by decide) ?_
      exact wp_ret d18_24 (by decide +kernel) h
  · refine wc_in (ls0 := [some (.ref 1), some (.int v)]) (by decide) (Nat.le_of_ble_eq_true rfl) rfl rfl ?_
    refine wp_iload_n d18_0 rfl ?_
    refine wp_stat (as := [.int v]) (rest := []) d18_1 rfl rfl rfl rfl rfl (Nat.le_of_ble_eq_true rfl) ?_
    refine xf_isSlot (fun q1 q2 => absurd ⟨q1, q2⟩ hv) (fun _ => ?_)
    refine wp_if_eq (t := 23) d18_4 (by decide) (fun _ => ?_) (fun h => absurd (by decide +kernel) h)
    refine wp_iconst (v := 0) d18_23 (by decide) ?_
    exact wp_ret d18_24 (by decide +kernel) h
set_option maxRecDepth 20000 in
theorem mf_holds {v : Int32} (hF : pm_Fresh (I, Rf, K, L, n, s)) (h : Q (some (.int 0)) (I, Rf, K, L, n, s)) : pm_Wc (d + 2) 171 [.ref 56, .int v] (I, Rf, K, L, n, s) Q := by
  have hG : pm_G Rf K L n := hF.1
  by_cases hv : 0 ≤ v ∧ v ≤ 3
  · rcases pm_slot4 hv.1 (pm_lt4 hv.2) with rfl | rfl | rfl | rfl
    · refine wc_in (ls0 := [some (.ref 56), some (.int 0)]) (by decide) (Nat.le_of_ble_eq_true rfl) rfl rfl ?_
      refine wp_aload_n d171_0 rfl ?_
      refine wp_iload_n d171_1 rfl ?_
      refine wp_virt (as := [.int 0]) (rest := []) d171_2 rfl rfl rfl (hG.o (by decide) rfl) rfl rfl (Nat.le_of_ble_eq_true rfl) ?_
      refine mf_isSlot (fun _ _ => ?_) (fun hs0 => absurd (by decide +kernel) hs0)
      refine wp_if_eq (t := 21) d171_5 (by decide) (fun h => absurd h (by decide +kernel)) (fun _ => ?_)
      refine wp_aload_n d171_8 rfl ?_
      refine wp_getR (q := 72) d171_9 rfl (hG.o (by decide) rfl) (by decide) (hG.r (by decide +kernel)) (by decide) ?_
      refine wp_iload_n d171_12 rfl ?_
      refine wp_zaldv (v := 0) d171_13 (hG.a (by decide) rfl rfl) (pm_inb_iff.mp (by decide +kernel)) (hF.2.2.2.2 (72, 0, 0) (by decide +kernel)) ?_
      refine wp_if_eq (t := 21) d171_14 (by decide) (fun _ => ?_) (fun h => absurd (by decide +kernel) h)
      refine wp_iconst (v := 0) d171_21 (by decide) ?_
      exact wp_ret d171_22 (by decide +kernel) h
    · refine wc_in (ls0 := [some (.ref 56), some (.int 1)]) (by decide) (Nat.le_of_ble_eq_true rfl) rfl rfl ?_
      refine wp_aload_n d171_0 rfl ?_
      refine wp_iload_n d171_1 rfl ?_
      refine wp_virt (as := [.int 1]) (rest := []) d171_2 rfl rfl rfl (hG.o (by decide) rfl) rfl rfl (Nat.le_of_ble_eq_true rfl) ?_
      refine mf_isSlot (fun _ _ => ?_) (fun hs0 => absurd (by decide +kernel) hs0)
      refine wp_if_eq (t := 21) d171_5 (by decide) (fun h => absurd h (by decide +kernel)) (fun _ => ?_)
      refine wp_aload_n d171_8 rfl ?_
      refine wp_getR (q := 72) d171_9 rfl (hG.o (by decide) rfl) (by decide) (hG.r (by decide +kernel)) (by decide) ?_
      refine wp_iload_n d171_12 rfl ?_
      refine wp_zaldv (v := 0) d171_13 (hG.a (by decide) rfl rfl) (pm_inb_iff.mp (by decide +kernel)) (hF.2.2.2.2 (72, 1, 0) (by decide +kernel)) ?_
      refine wp_if_eq (t := 21) d171_14 (by decide) (fun _ => ?_) (fun h => absurd (by decide +kernel) h)
      refine wp_iconst (v := 0) d171_21 (by decide) ?_
      exact wp_ret d171_22 (by decide +kernel) h
    · refine wc_in (ls0 := [some (.ref 56), some (.int 2)]) (by decide) (Nat.le_of_ble_eq_true rfl) rfl rfl ?_
      refine wp_aload_n d171_0 rfl ?_
      refine wp_iload_n d171_1 rfl ?_
      refine wp_virt (as := [.int 2]) (rest := []) d171_2 rfl rfl rfl (hG.o (by decide) rfl) rfl rfl (Nat.le_of_ble_eq_true rfl) ?_
      refine mf_isSlot (fun _ _ => ?_) (fun hs0 => absurd (by decide +kernel) hs0)
      refine wp_if_eq (t := 21) d171_5 (by decide) (fun h => absurd h (by decide +kernel)) (fun _ => ?_)
      refine wp_aload_n d171_8 rfl ?_
      refine wp_getR (q := 72) d171_9 rfl (hG.o (by decide) rfl) (by decide) (hG.r (by decide +kernel)) (by decide) ?_
      refine wp_iload_n d171_12 rfl ?_
      refine wp_zaldv (v := 0) d171_13 (hG.a (by decide) rfl rfl) (pm_inb_iff.mp (by decide +kernel)) (hF.2.2.2.2 (72, 2, 0) (by decide +kernel)) ?_
      refine wp_if_eq (t := 21) d171_14 (by decide) (fun _ => ?_) (fun h => absurd (by decide +kernel) h)
      refine wp_iconst (v := 0) d171_21 (by decide) ?_
      exact wp_ret d171_22 (by decide +kernel) h
    · refine wc_in (ls0 := [some (.ref 56), some (.int 3)]) (by decide) (Nat.le_of_ble_eq_true rfl) rfl rfl ?_
      refine wp_aload_n d171_0 rfl ?_
      refine wp_iload_n d171_1 rfl ?_
      refine wp_virt (as := [.int 3]) (rest := []) d171_2 rfl rfl rfl (hG.o (by decide) rfl) rfl rfl (Nat.le_of_ble_eq_true rfl) ?_
      refine mf_isSlot (fun _ _ => ?_) (fun hs0 => absurd (by decide +kernel) hs0)
      refine wp_if_eq (t := 21) d171_5 (by decide) (fun h => absurd h (by decide +kernel)) (fun _ => ?_)
      refine wp_aload_n d171_8 rfl ?_
      refine wp_getR (q := 72) d171_9 rfl (hG.o (by decide) rfl) (by decide) (hG.r (by decide +kernel)) (by decide) ?_
      refine wp_iload_n d171_12 rfl ?_
      refine wp_zaldv (v := 0) d171_13 (hG.a (by decide) rfl rfl) (pm_inb_iff.mp (by decide +kernel)) (hF.2.2.2.2 (72, 3, 0) (by decide +kernel)) ?_
      refine wp_if_eq (t := 21) d171_14 (by decide) (fun _ => ?_) (fun h => absurd (by decide +kernel) h)
      refine wp_iconst (v := 0) d171_21 (by decide) ?_
      exact wp_ret d171_22 (by decide +kernel) h
  · refine wc_in (ls0 := [some (.ref 56), some (.int v)]) (by decide) (Nat.le_of_ble_eq_true rfl) rfl rfl ?_
    refine wp_aload_n d171_0 rfl ?_
    refine wp_iload_n d171_1 rfl ?_
    refine wp_virt (as := [.int v]) (rest := []) d171_2 rfl rfl rfl (hG.o (by decide) rfl) rfl rfl (Nat.le_of_ble_eq_true rfl) ?_
    refine mf_isSlot (fun q1 q2 => absurd ⟨q1, q2⟩ hv) (fun _ => ?_)
    refine wp_if_eq (t := 21) d171_5 (by decide) (fun _ => ?_) (fun h => absurd (by decide +kernel) h)
    refine wp_iconst (v := 0) d171_21 (by decide) ?_
    exact wp_ret d171_22 (by decide +kernel) h
set_option maxRecDepth 20000 in
theorem xf_termHasType (hF : pm_Fresh (I, Rf, K, L, n, s)) (h : Q (some (.int 0)) (I, Rf, K, L, n, s)) : pm_Wc (d + 1) 19 [.ref 1] (I, Rf, K, L, n, s) Q := by
  have hG : pm_G Rf K L n := hF.1
  refine wc_in (ls0 := [some (.ref 1)]) (by decide) (Nat.le_of_ble_eq_true rfl) rfl rfl ?_
  refine wp_aload_n d19_0 rfl ?_
  refine wp_getIv (v := 0) d19_1 rfl (hG.o (by decide) rfl) (by decide) (hF.2.2.2.2 (1, 11, 0) (by decide +kernel)) ?_
  refine wp_if_eq (t := 19) d19_4 (by decide) (fun _ => ?_) (fun h => absurd (by decide +kernel) h)
  refine wp_iconst (v := 0) d19_19 (by decide) ?_
  exact wp_ret d19_20 (by decide +kernel) h
set_option maxRecDepth 20000 in
theorem xf_below {a b : Int32} (hF : pm_Fresh (I, Rf, K, L, n, s)) (h : Q (some (.int (-2))) (I, Rf, K, L, n, s)) : pm_Wc (d + 3) 4 [.ref 1, .int a, .int b] (I, Rf, K, L, n, s) Q := by
  have hG : pm_G Rf K L n := hF.1
  refine wc_in (ls0 := [some (.ref 1), some (.int a), some (.int b)]) (by decide) (Nat.le_of_ble_eq_true rfl) rfl rfl ?_
  refine wp_aload_n d4_0 rfl ?_
  refine wp_iload_n d4_1 rfl ?_
  refine wp_virt (as := [.int a]) (rest := []) d4_2 rfl rfl rfl (hG.o (by decide) rfl) rfl rfl (Nat.le_of_ble_eq_true rfl) ?_
  refine xf_hasType hF ?_
  refine wp_if_eq (t := 16) d4_5 (by decide) (fun _ => ?_) (fun h => absurd (by decide +kernel) h)
  refine wp_bipush (v := (-2)) d4_16 (by decide) ?_
  exact wp_ret d4_18 (by decide +kernel) h
set_option maxRecDepth 20000 in
theorem mf_below {a b : Int32} (hF : pm_Fresh (I, Rf, K, L, n, s)) (h : Q (some (.int (-2))) (I, Rf, K, L, n, s)) : pm_Wc (d + 3) 176 [.ref 56, .int a, .int b] (I, Rf, K, L, n, s) Q := by
  have hG : pm_G Rf K L n := hF.1
  refine wc_in (ls0 := [some (.ref 56), some (.int a), some (.int b)]) (by decide) (Nat.le_of_ble_eq_true rfl) rfl rfl ?_
  refine wp_aload_n d176_0 rfl ?_
  refine wp_iload_n d176_1 rfl ?_
  refine wp_virt (as := [.int a]) (rest := []) d176_2 rfl rfl rfl (hG.o (by decide) rfl) rfl rfl (Nat.le_of_ble_eq_true rfl) ?_
  refine mf_holds hF ?_
  refine wp_if_eq (t := 16) d176_5 (by decide) (fun _ => ?_) (fun h => absurd (by decide +kernel) h)
  refine wp_bipush (v := (-2)) d176_16 (by decide) ?_
  exact wp_ret d176_18 (by decide +kernel) h
set_option maxRecDepth 20000 in
theorem xf_same {a b : Int32} (hF : pm_Fresh (I, Rf, K, L, n, s)) (h : Q (some (.int (-2))) (I, Rf, K, L, n, s)) : pm_Wc (d + 3) 5 [.ref 1, .int a, .int b] (I, Rf, K, L, n, s) Q := by
  have hG : pm_G Rf K L n := hF.1
  refine wc_in (ls0 := [some (.ref 1), some (.int a), some (.int b), none, none]) (by decide) (Nat.le_of_ble_eq_true rfl) rfl rfl ?_
  refine wp_aload_n d5_0 rfl ?_
  refine wp_iload_n d5_1 rfl ?_
  refine wp_virt (as := [.int a]) (rest := []) d5_2 rfl rfl rfl (hG.o (by decide) rfl) rfl rfl (Nat.le_of_ble_eq_true rfl) ?_
  refine xf_hasType hF ?_
  refine wp_if_eq (t := 16) d5_5 (by decide) (fun _ => ?_) (fun h => absurd (by decide +kernel) h)
  refine wp_bipush (v := (-2)) d5_16 (by decide) ?_
  exact wp_ret d5_18 (by decide +kernel) h
set_option maxRecDepth 20000 in
theorem mf_same {a b : Int32} (hF : pm_Fresh (I, Rf, K, L, n, s)) (h : Q (some (.int (-2))) (I, Rf, K, L, n, s)) : pm_Wc (d + 3) 177 [.ref 56, .int a, .int b] (I, Rf, K, L, n, s) Q := by
  have hG : pm_G Rf K L n := hF.1
  refine wc_in (ls0 := [some (.ref 56), some (.int a), some (.int b)]) (by decide) (Nat.le_of_ble_eq_true rfl) rfl rfl ?_
  refine wp_aload_n d177_0 rfl ?_
  refine wp_iload_n d177_1 rfl ?_
  refine wp_virt (as := [.int a]) (rest := []) d177_2 rfl rfl rfl (hG.o (by decide) rfl) rfl rfl (Nat.le_of_ble_eq_true rfl) ?_
  refine mf_holds hF ?_
  refine wp_if_eq (t := 16) d177_5 (by decide) (fun _ => ?_) (fun h => absurd (by decide +kernel) h)
  refine wp_bipush (v := (-2)) d177_16 (by decide) ?_
  refine wp_goto (t := 37) d177_18 (by decide) ?_
  exact wp_ret d177_37 (by decide +kernel) h
set_option maxRecDepth 20000 in
theorem xf_join {a b c : Int32} (hF : pm_Fresh (I, Rf, K, L, n, s)) (h : Q (some (.int (-2))) (I, Rf, K, L, n, s)) : pm_Wc (d + 3) 6 [.ref 1, .int a, .int b, .int c] (I, Rf, K, L, n, s) Q := by
  have hG : pm_G Rf K L n := hF.1
  refine wc_in (ls0 := [some (.ref 1), some (.int a), some (.int b), some (.int c), none, none]) (by decide) (Nat.le_of_ble_eq_true rfl) rfl rfl ?_
  refine wp_aload_n d6_0 rfl ?_
  refine wp_iload_n d6_1 rfl ?_
  refine wp_virt (as := [.int a]) (rest := []) d6_2 rfl rfl rfl (hG.o (by decide) rfl) rfl rfl (Nat.le_of_ble_eq_true rfl) ?_
  refine xf_hasType hF ?_
  refine wp_if_eq (t := 23) d6_5 (by decide) (fun _ => ?_) (fun h => absurd (by decide +kernel) h)
  refine wp_bipush (v := (-2)) d6_23 (by decide) ?_
  exact wp_ret d6_25 (by decide +kernel) h
set_option maxRecDepth 20000 in
theorem xf_meet {a b c : Int32} (hF : pm_Fresh (I, Rf, K, L, n, s)) (h : Q (some (.int (-2))) (I, Rf, K, L, n, s)) : pm_Wc (d + 3) 7 [.ref 1, .int a, .int b, .int c] (I, Rf, K, L, n, s) Q := by
  have hG : pm_G Rf K L n := hF.1
  refine wc_in (ls0 := [some (.ref 1), some (.int a), some (.int b), some (.int c), none, none, none]) (by decide) (Nat.le_of_ble_eq_true rfl) rfl rfl ?_
  refine wp_aload_n d7_0 rfl ?_
  refine wp_iload_n d7_1 rfl ?_
  refine wp_virt (as := [.int a]) (rest := []) d7_2 rfl rfl rfl (hG.o (by decide) rfl) rfl rfl (Nat.le_of_ble_eq_true rfl) ?_
  refine xf_hasType hF ?_
  refine wp_if_eq (t := 23) d7_5 (by decide) (fun _ => ?_) (fun h => absurd (by decide +kernel) h)
  refine wp_bipush (v := (-2)) d7_23 (by decide) ?_
  exact wp_ret d7_25 (by decide +kernel) h
set_option maxRecDepth 20000 in
set_option maxRecDepth 20000 in
theorem mf_combined0 {a b c : Int32} (hF : pm_Fresh (I, Rf, K, L, n, s)) (h : Q (some (.int (-2))) (I, Rf, K, L, n, s)) : pm_Wc (d + 3) 178 [.ref 56, .int 0, .int a, .int b, .int c] (I, Rf, K, L, n, s) Q := by
  have hG : pm_G Rf K L n := hF.1
  refine wc_in (ls0 := [some (.ref 56), some (.int 0), some (.int a), some (.int b), some (.int c), none, none]) (by decide) (Nat.le_of_ble_eq_true rfl) rfl rfl ?_
  refine wp_aload_n d178_0 rfl ?_
  refine wp_iload_n d178_1 rfl ?_
  refine wp_virt (as := [.int a]) (rest := []) d178_2 rfl rfl rfl (hG.o (by decide) rfl) rfl rfl (Nat.le_of_ble_eq_true rfl) ?_
  refine mf_holds hF ?_
  refine wp_if_eq (t := 25) d178_5 (by decide) (fun _ => ?_) (fun h => absurd (by decide +kernel) h)
  refine wp_bipush (v := (-2)) d178_25 (by decide) ?_
  exact wp_ret d178_27 (by decide +kernel) h
set_option maxRecDepth 20000 in
theorem mf_combined1 {a b c : Int32} (hF : pm_Fresh (I, Rf, K, L, n, s)) (h : Q (some (.int (-2))) (I, Rf, K, L, n, s)) : pm_Wc (d + 3) 178 [.ref 56, .int 1, .int a, .int b, .int c] (I, Rf, K, L, n, s) Q := by
  have hG : pm_G Rf K L n := hF.1
  refine wc_in (ls0 := [some (.ref 56), some (.int 1), some (.int a), some (.int b), some (.int c), none, none]) (by decide) (Nat.le_of_ble_eq_true rfl) rfl rfl ?_
  refine wp_aload_n d178_0 rfl ?_
  refine wp_iload_n d178_1 rfl ?_
  refine wp_virt (as := [.int a]) (rest := []) d178_2 rfl rfl rfl (hG.o (by decide) rfl) rfl rfl (Nat.le_of_ble_eq_true rfl) ?_
  refine mf_holds hF ?_
  refine wp_if_eq (t := 25) d178_5 (by decide) (fun _ => ?_) (fun h => absurd (by decide +kernel) h)
  refine wp_bipush (v := (-2)) d178_25 (by decide) ?_
  exact wp_ret d178_27 (by decide +kernel) h
set_option maxRecDepth 20000 in
theorem mf_join {a b c : Int32} (hF : pm_Fresh (I, Rf, K, L, n, s)) (h : Q (some (.int (-2))) (I, Rf, K, L, n, s)) : pm_Wc (d + 4) 179 [.ref 56, .int a, .int b, .int c] (I, Rf, K, L, n, s) Q := by
  have hG : pm_G Rf K L n := hF.1
  refine wc_in (ls0 := [some (.ref 56), some (.int a), some (.int b), some (.int c)]) (by decide) (Nat.le_of_ble_eq_true rfl) rfl rfl ?_
  refine wp_aload_n d179_0 rfl ?_
  refine wp_iconst (v := 0) d179_1 (by decide) ?_
  refine wp_iload_n d179_2 rfl ?_
  refine wp_iload_n d179_3 rfl ?_
  refine wp_iload_n d179_4 rfl ?_
  refine wp_virt (as := [.int c, .int b, .int a, .int 0]) (rest := []) d179_5 rfl rfl rfl (hG.o (by decide) rfl) rfl rfl (Nat.le_of_ble_eq_true rfl) ?_
  refine mf_combined0 hF ?_
  exact wp_ret d179_8 (by decide +kernel) h
set_option maxRecDepth 20000 in
theorem mf_meet {a b c : Int32} (hF : pm_Fresh (I, Rf, K, L, n, s)) (h : Q (some (.int (-2))) (I, Rf, K, L, n, s)) : pm_Wc (d + 4) 180 [.ref 56, .int a, .int b, .int c] (I, Rf, K, L, n, s) Q := by
  have hG : pm_G Rf K L n := hF.1
  refine wc_in (ls0 := [some (.ref 56), some (.int a), some (.int b), some (.int c)]) (by decide) (Nat.le_of_ble_eq_true rfl) rfl rfl ?_
  refine wp_aload_n d180_0 rfl ?_
  refine wp_iconst (v := 1) d180_1 (by decide) ?_
  refine wp_iload_n d180_2 rfl ?_
  refine wp_iload_n d180_3 rfl ?_
  refine wp_iload_n d180_4 rfl ?_
  refine wp_virt (as := [.int c, .int b, .int a, .int 1]) (rest := []) d180_5 rfl rfl rfl (hG.o (by decide) rfl) rfl rfl (Nat.le_of_ble_eq_true rfl) ?_
  refine mf_combined1 hF ?_
  exact wp_ret d180_8 (by decide +kernel) h
set_option maxRecDepth 20000 in
theorem xf_size {a : Int32} (hF : pm_Fresh (I, Rf, K, L, n, s)) (h : Q (some (.int 0)) (I, Rf, K, L, n, s)) : pm_Wc (d + 3) 8 [.ref 1, .int a] (I, Rf, K, L, n, s) Q := by
  have hG : pm_G Rf K L n := hF.1
  refine wc_in (ls0 := [some (.ref 1), some (.int a)]) (by decide) (Nat.le_of_ble_eq_true rfl) rfl rfl ?_
  refine wp_aload_n d8_0 rfl ?_
  refine wp_iload_n d8_1 rfl ?_
  refine wp_virt (as := [.int a]) (rest := []) d8_2 rfl rfl rfl (hG.o (by decide) rfl) rfl rfl (Nat.le_of_ble_eq_true rfl) ?_
  refine xf_hasType hF ?_
  refine wp_if_eq (t := 20) d8_5 (by decide) (fun _ => ?_) (fun h => absurd (by decide +kernel) h)
  refine wp_iconst (v := 0) d8_20 (by decide) ?_
  exact wp_ret d8_21 (by decide +kernel) h
set_option maxRecDepth 20000 in
theorem mf_size {a : Int32} (hF : pm_Fresh (I, Rf, K, L, n, s)) (h : Q (some (.int 0)) (I, Rf, K, L, n, s)) : pm_Wc (d + 3) 181 [.ref 56, .int a] (I, Rf, K, L, n, s) Q := by
  have hG : pm_G Rf K L n := hF.1
  refine wc_in (ls0 := [some (.ref 56), some (.int a)]) (by decide) (Nat.le_of_ble_eq_true rfl) rfl rfl ?_
  refine wp_aload_n d181_0 rfl ?_
  refine wp_iload_n d181_1 rfl ?_
  refine wp_virt (as := [.int a]) (rest := []) d181_2 rfl rfl rfl (hG.o (by decide) rfl) rfl rfl (Nat.le_of_ble_eq_true rfl) ?_
  refine mf_holds hF ?_
  refine wp_if_eq (t := 17) d181_5 (by decide) (fun _ => ?_) (fun h => absurd (by decide +kernel) h)
  refine wp_iconst (v := 0) d181_17 (by decide) ?_
  exact wp_ret d181_18 (by decide +kernel) h
set_option maxRecDepth 20000 in
theorem xf_write {a : Int32} (hF : pm_Fresh (I, Rf, K, L, n, s)) (h : Q (some (.int (-2))) (I, Rf, K, L, n, s)) : pm_Wc (d + 3) 9 [.ref 1, .int a] (I, Rf, K, L, n, s) Q := by
  have hG : pm_G Rf K L n := hF.1
  refine wc_in (ls0 := [some (.ref 1), some (.int a)]) (by decide) (Nat.le_of_ble_eq_true rfl) rfl rfl ?_
  refine wp_aload_n d9_0 rfl ?_
  refine wp_iload_n d9_1 rfl ?_
  refine wp_virt (as := [.int a]) (rest := []) d9_2 rfl rfl rfl (hG.o (by decide) rfl) rfl rfl (Nat.le_of_ble_eq_true rfl) ?_
  refine xf_hasType hF ?_
  refine wp_if_ne (t := 11) d9_5 (by decide) (fun h => absurd (by decide +kernel) h) (fun _ => ?_)
  refine wp_bipush (v := (-2)) d9_8 (by decide) ?_
  exact wp_ret d9_10 (by decide +kernel) h
set_option maxRecDepth 20000 in
theorem mf_write {a : Int32} (hF : pm_Fresh (I, Rf, K, L, n, s)) (h : Q (some (.int (-2))) (I, Rf, K, L, n, s)) : pm_Wc (d + 3) 185 [.ref 56, .int a] (I, Rf, K, L, n, s) Q := by
  have hG : pm_G Rf K L n := hF.1
  refine wc_in (ls0 := [some (.ref 56), some (.int a), none, none, none, none, none]) (by decide) (Nat.le_of_ble_eq_true rfl) rfl rfl ?_
  refine wp_aload_n d185_0 rfl ?_
  refine wp_iload_n d185_1 rfl ?_
  refine wp_virt (as := [.int a]) (rest := []) d185_2 rfl rfl rfl (hG.o (by decide) rfl) rfl rfl (Nat.le_of_ble_eq_true rfl) ?_
  refine mf_holds hF ?_
  refine wp_if_ne (t := 11) d185_5 (by decide) (fun h => absurd (by decide +kernel) h) (fun _ => ?_)
  refine wp_bipush (v := (-2)) d185_8 (by decide) ?_
  exact wp_ret d185_10 (by decide +kernel) h
set_option maxRecDepth 20000 in
theorem xf_typeOf {a : Int32} (hF : pm_Fresh (I, Rf, K, L, n, s)) (h : Q (some (.int (-2))) (I, Rf, K, L, n, s)) : pm_Wc (d + 3) 11 [.ref 1, .int a] (I, Rf, K, L, n, s) Q := by
  have hG : pm_G Rf K L n := hF.1
  refine wc_in (ls0 := [some (.ref 1), some (.int a)]) (by decide) (Nat.le_of_ble_eq_true rfl) rfl rfl ?_
  refine wp_aload_n d11_0 rfl ?_
  refine wp_getIv (v := 0) d11_1 rfl (hG.o (by decide) rfl) (by decide) (hF.2.2.2.2 (1, 11, 0) (by decide +kernel)) ?_
  refine wp_if_eq (t := 14) d11_4 (by decide) (fun _ => ?_) (fun h => absurd (by decide +kernel) h)
  refine wp_bipush (v := (-2)) d11_14 (by decide) ?_
  exact wp_ret d11_16 (by decide +kernel) h
set_option maxRecDepth 20000 in
theorem mf_typeOf {a : Int32} (hF : pm_Fresh (I, Rf, K, L, n, s)) (h : Q (some (.int (-2))) (I, Rf, K, L, n, s)) : pm_Wc (d + 3) 196 [.ref 56, .int a] (I, Rf, K, L, n, s) Q := by
  have hG : pm_G Rf K L n := hF.1
  refine wc_in (ls0 := [some (.ref 56), some (.int a), none]) (by decide) (Nat.le_of_ble_eq_true rfl) rfl rfl ?_
  refine wp_aload_n d196_0 rfl ?_
  refine wp_getIv (v := 0) d196_1 rfl (hG.o (by decide) rfl) (by decide) (hF.2.2.2.2 (56, 4, 0) (by decide +kernel)) ?_
  refine wp_if_eq (t := 15) d196_4 (by decide) (fun _ => ?_) (fun h => absurd (by decide +kernel) h)
  refine wp_bipush (v := (-2)) d196_15 (by decide) ?_
  exact wp_ret d196_17 (by decide +kernel) h
set_option maxRecDepth 20000 in
theorem xf_fits {a : Int32} (hF : pm_Fresh (I, Rf, K, L, n, s)) (h : Q (some (.int 0)) (I, Rf, K, L, n, s)) : pm_Wc (d + 3) 12 [.ref 1, .int a] (I, Rf, K, L, n, s) Q := by
  have hG : pm_G Rf K L n := hF.1
  refine wc_in (ls0 := [some (.ref 1), some (.int a)]) (by decide) (Nat.le_of_ble_eq_true rfl) rfl rfl ?_
  refine wp_aload_n d12_0 rfl ?_
  refine wp_virt (as := []) (rest := []) d12_1 rfl rfl rfl (hG.o (by decide) rfl) rfl rfl (Nat.le_of_ble_eq_true rfl) ?_
  refine xf_termHasType hF ?_
  refine wp_if_eq (t := 36) d12_4 (by decide) (fun _ => ?_) (fun h => absurd (by decide +kernel) h)
  refine wp_iconst (v := 0) d12_36 (by decide) ?_
  exact wp_ret d12_37 (by decide +kernel) h
set_option maxRecDepth 20000 in
theorem mf_fits {a : Int32} (hF : pm_Fresh (I, Rf, K, L, n, s)) (h : Q (some (.int 0)) (I, Rf, K, L, n, s)) : pm_Wc (d + 3) 197 [.ref 56, .int a] (I, Rf, K, L, n, s) Q := by
  have hG : pm_G Rf K L n := hF.1
  refine wc_in (ls0 := [some (.ref 56), some (.int a)]) (by decide) (Nat.le_of_ble_eq_true rfl) rfl rfl ?_
  refine wp_aload_n d197_0 rfl ?_
  refine wp_getIv (v := 0) d197_1 rfl (hG.o (by decide) rfl) (by decide) (hF.2.2.2.2 (56, 4, 0) (by decide +kernel)) ?_
  refine wp_if_le (t := 39) d197_4 (by decide) (fun _ => ?_) (fun h => absurd (by decide +kernel) h)
  refine wp_iconst (v := 0) d197_39 (by decide) ?_
  exact wp_ret d197_40 (by decide +kernel) h
set_option maxRecDepth 20000 in
theorem xf_start (hF : pm_Fresh (I, Rf, K, L, n, s)) (h : Q (some (.int 0)) (I, Rf, K, L, n, s)) : pm_Wc (d + 3) 13 [.ref 1] (I, Rf, K, L, n, s) Q := by
  have hG : pm_G Rf K L n := hF.1
  refine wc_in (ls0 := [some (.ref 1)]) (by decide) (Nat.le_of_ble_eq_true rfl) rfl rfl ?_
  refine wp_aload_n d13_0 rfl ?_
  refine wp_virt (as := []) (rest := []) d13_1 rfl rfl rfl (hG.o (by decide) rfl) rfl rfl (Nat.le_of_ble_eq_true rfl) ?_
  refine xf_termHasType hF ?_
  refine wp_if_ne (t := 9) d13_4 (by decide) (fun h => absurd (by decide +kernel) h) (fun _ => ?_)
  refine wp_iconst (v := 0) d13_7 (by decide) ?_
  exact wp_ret d13_8 (by decide +kernel) h
set_option maxRecDepth 20000 in
theorem mf_start (hF : pm_Fresh (I, Rf, K, L, n, s)) (h : Q (some (.int 0)) (I, Rf, K, L, n, s)) : pm_Wc (d + 3) 198 [.ref 56] (I, Rf, K, L, n, s) Q := by
  have hG : pm_G Rf K L n := hF.1
  refine wc_in (ls0 := [some (.ref 56)]) (by decide) (Nat.le_of_ble_eq_true rfl) rfl rfl ?_
  refine wp_aload_n d198_0 rfl ?_
  refine wp_getIv (v := 0) d198_1 rfl (hG.o (by decide) rfl) (by decide) (hF.2.2.2.2 (56, 4, 0) (by decide +kernel)) ?_
  refine wp_if_eq (t := 14) d198_4 (by decide) (fun _ => ?_) (fun h => absurd (by decide +kernel) h)
  refine wp_iconst (v := 0) d198_14 (by decide) ?_
  exact wp_ret d198_15 (by decide +kernel) h
set_option maxRecDepth 20000 in
theorem xf_step {a : Int32} (hF : pm_Fresh (I, Rf, K, L, n, s)) (h : Q (some (.int (-2))) (I, Rf, K, L, n, s)) : pm_Wc (d + 3) 14 [.ref 1, .int a] (I, Rf, K, L, n, s) Q := by
  have hG : pm_G Rf K L n := hF.1
  refine wc_in (ls0 := [some (.ref 1), some (.int a), none]) (by decide) (Nat.le_of_ble_eq_true rfl) rfl rfl ?_
  refine wp_aload_n d14_0 rfl ?_
  refine wp_getIv (v := 0) d14_1 rfl (hG.o (by decide) rfl) (by decide) (hF.2.2.2.2 (1, 13, 0) (by decide +kernel)) ?_
  refine wp_if_eq (t := 18) d14_4 (by decide) (fun _ => ?_) (fun h => absurd (by decide +kernel) h)
  refine wp_bipush (v := (-2)) d14_18 (by decide) ?_
  exact wp_ret d14_20 (by decide +kernel) h
set_option maxRecDepth 20000 in
theorem mf_step {a : Int32} (hF : pm_Fresh (I, Rf, K, L, n, s)) (h : Q (some (.int (-2))) (I, Rf, K, L, n, s)) : pm_Wc (d + 3) 207 [.ref 56, .int a] (I, Rf, K, L, n, s) Q := by
  have hG : pm_G Rf K L n := hF.1
  refine wc_in (ls0 := [some (.ref 56), some (.int a), none]) (by decide) (Nat.le_of_ble_eq_true rfl) rfl rfl ?_
  refine wp_aload_n d207_0 rfl ?_
  refine wp_getIv (v := 0) d207_1 rfl (hG.o (by decide) rfl) (by decide) (hF.2.2.2.2 (56, 43, 0) (by decide +kernel)) ?_
  refine wp_if_eq (t := 18) d207_4 (by decide) (fun _ => ?_) (fun h => absurd (by decide +kernel) h)
  refine wp_bipush (v := (-2)) d207_18 (by decide) ?_
  exact wp_ret d207_20 (by decide +kernel) h
set_option maxRecDepth 20000 in
theorem xf_steps (hF : pm_Fresh (I, Rf, K, L, n, s)) (h : Q (some (.int (-1))) (I, Rf, K, L, n, s)) : pm_Wc (d + 3) 15 [.ref 1] (I, Rf, K, L, n, s) Q := by
  have hG : pm_G Rf K L n := hF.1
  refine wc_in (ls0 := [some (.ref 1)]) (by decide) (Nat.le_of_ble_eq_true rfl) rfl rfl ?_
  refine wp_aload_n d15_0 rfl ?_
  refine wp_getIv (v := 0) d15_1 rfl (hG.o (by decide) rfl) (by decide) (hF.2.2.2.2 (1, 13, 0) (by decide +kernel)) ?_
  refine wp_if_eq (t := 14) d15_4 (by decide) (fun _ => ?_) (fun h => absurd (by decide +kernel) h)
  refine wp_iconst (v := (-1)) d15_14 (by decide) ?_
  exact wp_ret d15_15 (by decide +kernel) h
set_option maxRecDepth 20000 in
theorem mf_steps (hF : pm_Fresh (I, Rf, K, L, n, s)) (h : Q (some (.int (-1))) (I, Rf, K, L, n, s)) : pm_Wc (d + 3) 208 [.ref 56] (I, Rf, K, L, n, s) Q := by
  have hG : pm_G Rf K L n := hF.1
  refine wc_in (ls0 := [some (.ref 56)]) (by decide) (Nat.le_of_ble_eq_true rfl) rfl rfl ?_
  refine wp_aload_n d208_0 rfl ?_
  refine wp_getIv (v := 0) d208_1 rfl (hG.o (by decide) rfl) (by decide) (hF.2.2.2.2 (56, 43, 0) (by decide +kernel)) ?_
  refine wp_if_eq (t := 14) d208_4 (by decide) (fun _ => ?_) (fun h => absurd (by decide +kernel) h)
  refine wp_iconst (v := (-1)) d208_14 (by decide) ?_
  exact wp_ret d208_15 (by decide +kernel) h
set_option maxRecDepth 20000 in
theorem xf_value (hF : pm_Fresh (I, Rf, K, L, n, s)) (h : Q (some (.int (-1))) (I, Rf, K, L, n, s)) : pm_Wc (d + 3) 16 [.ref 1] (I, Rf, K, L, n, s) Q := by
  have hG : pm_G Rf K L n := hF.1
  refine wc_in (ls0 := [some (.ref 1)]) (by decide) (Nat.le_of_ble_eq_true rfl) rfl rfl ?_
  refine wp_aload_n d16_0 rfl ?_
  refine wp_getIv (v := 0) d16_1 rfl (hG.o (by decide) rfl) (by decide) (hF.2.2.2.2 (1, 13, 0) (by decide +kernel)) ?_
  refine wp_if_eq (t := 32) d16_4 (by decide) (fun _ => ?_) (fun h => absurd (by decide +kernel) h)
  refine wp_iconst (v := (-1)) d16_32 (by decide) ?_
  exact wp_ret d16_33 (by decide +kernel) h
set_option maxRecDepth 20000 in
theorem mf_value (hF : pm_Fresh (I, Rf, K, L, n, s)) (h : Q (some (.int (-1))) (I, Rf, K, L, n, s)) : pm_Wc (d + 3) 209 [.ref 56] (I, Rf, K, L, n, s) Q := by
  have hG : pm_G Rf K L n := hF.1
  refine wc_in (ls0 := [some (.ref 56), none, none, none, none]) (by decide) (Nat.le_of_ble_eq_true rfl) rfl rfl ?_
  refine wp_aload_n d209_0 rfl ?_
  refine wp_getIv (v := 0) d209_1 rfl (hG.o (by decide) rfl) (by decide) (hF.2.2.2.2 (56, 43, 0) (by decide +kernel)) ?_
  refine wp_if_eq (t := 14) d209_4 (by decide) (fun _ => ?_) (fun h => absurd (by decide +kernel) h)
  refine wp_iconst (v := (-1)) d209_14 (by decide) ?_
  exact wp_ret d209_15 (by decide +kernel) h
end PmP1
