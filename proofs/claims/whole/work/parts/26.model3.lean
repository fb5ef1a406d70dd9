/-! THE MODEL: methods that write a few cells. -/
section PmM3
variable {d : Nat} {Q : Option Value → pm_S → Prop} {M : pm_M} {Rf : Nat → Nat → Nat} {K L : Nat → Nat} {n s : Nat}
set_option maxRecDepth 20000 in
theorem m_expect {a b c e ex : Int} (hG : pm_G Rf K L n) (hex : M 56 16 = ex) (x0 : 0 ≤ ex) (x1 : ex < 256) (h : Q none (zM (mset (mset (mset (mset (mset M 68 ex a) 69 ex b) 70 ex c) 71 ex e) 56 16 (ex + 1)), Rf, K, L, n, s)) : pm_Wc (d + 1) 136 [.ref 56, .int (zI a), .int (zI b), .int (zI c), .int (zI e)] (zM M, Rf, K, L, n, s) Q := by
  refine wc_in (ls0 := [some (.ref 56), some (.int (zI a)), some (.int (zI b)), some (.int (zI c)), some (.int (zI e))]) (by decide) (Nat.le_of_ble_eq_true rfl) rfl rfl ?_
  refine wp_aload_n d136_0 rfl ?_
  refine wp_getR (q := 68) d136_1 rfl (hG.o (by decide) rfl) (by decide) (hG.r (by decide +kernel)) (by decide) ?_
  refine wp_aload_n d136_4 rfl ?_
  refine wz_getI (v := ex) d136_5 rfl (hG.o (by decide) rfl) (by decide) hex ?_
  refine wp_iload_n d136_8 rfl ?_
  refine wz_iast (z := 256) d136_9 (hG.a (by decide) rfl rfl) (by omega) (by omega) (by decide) ?_
  refine wp_aload_n d136_10 rfl ?_
  refine wp_getR (q := 69) d136_11 rfl (hG.o (by decide) rfl) (by decide) (hG.r (by decide +kernel)) (by decide) ?_
  refine wp_aload_n d136_14 rfl ?_
  refine wz_getI (v := ex) d136_15 rfl (hG.o (by decide) rfl) (by decide) (by simp [mset]; exact hex) ?_
  refine wp_iload_n d136_18 rfl ?_
  refine wz_iast (z := 256) d136_19 (hG.a (by decide) rfl rfl) (by omega) (by omega) (by decide) ?_
  refine wp_aload_n d136_20 rfl ?_
  refine wp_getR (q := 70) d136_21 rfl (hG.o (by decide) rfl) (by decide) (hG.r (by decide +kernel)) (by decide) ?_
  refine wp_aload_n d136_24 rfl ?_
  refine wz_getI (v := ex) d136_25 rfl (hG.o (by decide) rfl) (by decide) (by simp [mset]; exact hex) ?_
  refine wp_iload_n d136_28 rfl ?_
  refine wz_iast (z := 256) d136_29 (hG.a (by decide) rfl rfl) (by omega) (by omega) (by decide) ?_
  refine wp_aload_n d136_30 rfl ?_
  refine wp_getR (q := 71) d136_31 rfl (hG.o (by decide) rfl) (by decide) (hG.r (by decide +kernel)) (by decide) ?_
  refine wp_aload_n d136_34 rfl ?_
  refine wz_getI (v := ex) d136_35 rfl (hG.o (by decide) rfl) (by decide) (by simp [mset]; exact hex) ?_
  refine wp_iload d136_38 rfl ?_
  refine wz_iast (z := 256) d136_40 (hG.a (by decide) rfl rfl) (by omega) (by omega) (by decide) ?_
  refine wp_aload_n d136_41 rfl ?_
  refine wp_dupr d136_42 ?_
  refine wz_getI (v := ex) d136_43 rfl (hG.o (by decide) rfl) (by decide) (by simp [mset]; exact hex) ?_
  refine wz_iconst d136_46 ?_
  refine wz_iadd d136_47 ?_
  refine wz_putI (i := 16) d136_48 rfl (hG.o (by decide) rfl) rfl (by decide) rfl ?_
  exact wp_ret d136_51 rfl h
set_option maxRecDepth 20000 in
theorem m_add {a b c e nd : Int} (hG : pm_G Rf K L n) (hnd : M 56 5 = nd) (x0 : 0 ≤ nd) (x1 : nd < 128) (h : Q (some (.int (zI ((nd + 1) - 1)))) (zM (mset (mset (mset (mset (mset M 59 nd a) 60 nd b) 61 nd c) 62 nd e) 56 5 (nd + 1)), Rf, K, L, n, s)) : pm_Wc (d + 1) 137 [.ref 56, .int (zI a), .int (zI b), .int (zI c), .int (zI e)] (zM M, Rf, K, L, n, s) Q := by
  refine wc_in (ls0 := [some (.ref 56), some (.int (zI a)), some (.int (zI b)), some (.int (zI c)), some (.int (zI e))]) (by decide) (Nat.le_of_ble_eq_true rfl) rfl rfl ?_
  refine wp_aload_n d137_0 rfl ?_
  refine wp_getR (q := 59) d137_1 rfl (hG.o (by decide) rfl) (by decide) (hG.r (by decide +kernel)) (by decide) ?_
  refine wp_aload_n d137_4 rfl ?_
  refine wz_getI (v := nd) d137_5 rfl (hG.o (by decide) rfl) (by decide) hnd ?_
  refine wp_iload_n d137_8 rfl ?_
  refine wz_iast (z := 128) d137_9 (hG.a (by decide) rfl rfl) (by omega) (by omega) (by decide) ?_
  refine wp_aload_n d137_10 rfl ?_
  refine wp_getR (q := 60) d137_11 rfl (hG.o (by decide) rfl) (by decide) (hG.r (by decide +kernel)) (by decide) ?_
  refine wp_aload_n d137_14 rfl ?_
  refine wz_getI (v := nd) d137_15 rfl (hG.o (by decide) rfl) (by decide) (by simp [mset]; exact hnd) ?_
  refine wp_iload_n d137_18 rfl ?_
  refine wz_iast (z := 128) d137_19 (hG.a (by decide) rfl rfl) (by omega) (by omega) (by decide) ?_
  refine wp_aload_n d137_20 rfl ?_
  refine wp_getR (q := 61) d137_21 rfl (hG.o (by decide) rfl) (by decide) (hG.r (by decide +kernel)) (by decide) ?_
  refine wp_aload_n d137_24 rfl ?_
  refine wz_getI (v := nd) d137_25 rfl (hG.o (by decide) rfl) (by decide) (by simp [mset]; exact hnd) ?_
  refine wp_iload_n d137_28 rfl ?_
  refine wz_iast (z := 128) d137_29 (hG.a (by decide) rfl rfl) (by omega) (by omega) (by decide) ?_
  refine wp_aload_n d137_30 rfl ?_
  refine wp_getR (q := 62) d137_31 rfl (hG.o (by decide) rfl) (by decide) (hG.r (by decide +kernel)) (by decide) ?_
  refine wp_aload_n d137_34 rfl ?_
  refine wz_getI (v := nd) d137_35 rfl (hG.o (by decide) rfl) (by decide) (by simp [mset]; exact hnd) ?_
  refine wp_iload d137_38 rfl ?_
  refine wz_iast (z := 128) d137_40 (hG.a (by decide) rfl rfl) (by omega) (by omega) (by decide) ?_
  refine wp_aload_n d137_41 rfl ?_
  refine wp_dupr d137_42 ?_
  refine wz_getI (v := nd) d137_43 rfl (hG.o (by decide) rfl) (by decide) (by simp [mset]; exact hnd) ?_
  refine wz_iconst d137_46 ?_
  refine wz_iadd d137_47 ?_
  refine wz_putI (i := 5) d137_48 rfl (hG.o (by decide) rfl) rfl (by decide) rfl ?_
  refine wp_aload_n d137_51 rfl ?_
  refine wz_getI (v := nd + 1) d137_52 rfl (hG.o (by decide) rfl) (by decide) (by simp [mset]) ?_
  refine wz_iconst d137_55 ?_
  refine wz_isub d137_56 ?_
  exact wp_ret d137_57 rfl h
set_option maxRecDepth 20000 in
theorem m_open {a b c sc : Int} (hG : pm_G Rf K L n) (hsc : M 56 11 = sc) (x0 : 0 ≤ sc) (x1 : sc < 128) (c0 : 0 ≤ c) (c1 : c < 128) (h : Q (some (.int (zI ((sc + 1) - 1)))) (zM (mset (mset (mset (mset (mset M 64 sc b) 65 sc a) 67 sc c) 63 c sc) 56 11 (sc + 1)), Rf, K, L, n, s)) : pm_Wc (d + 1) 138 [.ref 56, .int (zI a), .int (zI b), .int (zI c)] (zM M, Rf, K, L, n, s) Q := by
  refine wc_in (ls0 := [some (.ref 56), some (.int (zI a)), some (.int (zI b)), some (.int (zI c))]) (by decide) (Nat.le_of_ble_eq_true rfl) rfl rfl ?_
  refine wp_aload_n d138_0 rfl ?_
  refine wp_getR (q := 64) d138_1 rfl (hG.o (by decide) rfl) (by decide) (hG.r (by decide +kernel)) (by decide) ?_
  refine wp_aload_n d138_4 rfl ?_
  refine wz_getI (v := sc) d138_5 rfl (hG.o (by decide) rfl) (by decide) hsc ?_
  refine wp_iload_n d138_8 rfl ?_
  refine wz_iast (z := 128) d138_9 (hG.a (by decide) rfl rfl) (by omega) (by omega) (by decide) ?_
  refine wp_aload_n d138_10 rfl ?_
  refine wp_getR (q := 65) d138_11 rfl (hG.o (by decide) rfl) (by decide) (hG.r (by decide +kernel)) (by decide) ?_
  refine wp_aload_n d138_14 rfl ?_
  refine wz_getI (v := sc) d138_15 rfl (hG.o (by decide) rfl) (by decide) (by simp [mset]; exact hsc) ?_
  refine wp_iload_n d138_18 rfl ?_
  refine wz_iast (z := 128) d138_19 (hG.a (by decide) rfl rfl) (by omega) (by omega) (by decide) ?_
  refine wp_aload_n d138_20 rfl ?_
  refine wp_getR (q := 67) d138_21 rfl (hG.o (by decide) rfl) (by decide) (hG.r (by decide +kernel)) (by decide) ?_
  refine wp_aload_n d138_24 rfl ?_
  refine wz_getI (v := sc) d138_25 rfl (hG.o (by decide) rfl) (by decide) (by simp [mset]; exact hsc) ?_
  refine wp_iload_n d138_28 rfl ?_
  refine wz_iast (z := 128) d138_29 (hG.a (by decide) rfl rfl) (by omega) (by omega) (by decide) ?_
  refine wp_aload_n d138_30 rfl ?_
  refine wp_getR (q := 63) d138_31 rfl (hG.o (by decide) rfl) (by decide) (hG.r (by decide +kernel)) (by decide) ?_
  refine wp_iload_n d138_34 rfl ?_
  refine wp_aload_n d138_35 rfl ?_
  refine wz_getI (v := sc) d138_36 rfl (hG.o (by decide) rfl) (by decide) (by simp [mset]; exact hsc) ?_
  refine wz_iast (z := 128) d138_39 (hG.a (by decide) rfl rfl) (by omega) (by omega) (by decide) ?_
  refine wp_aload_n d138_40 rfl ?_
  refine wp_dupr d138_41 ?_
  refine wz_getI (v := sc) d138_42 rfl (hG.o (by decide) rfl) (by decide) (by simp [mset]; exact hsc) ?_
  refine wz_iconst d138_45 ?_
  refine wz_iadd d138_46 ?_
  refine wz_putI (i := 11) d138_47 rfl (hG.o (by decide) rfl) rfl (by decide) rfl ?_
  refine wp_aload_n d138_50 rfl ?_
  refine wz_getI (v := sc + 1) d138_51 rfl (hG.o (by decide) rfl) (by decide) (by simp [mset]) ?_
  refine wz_iconst d138_54 ?_
  refine wz_isub d138_55 ?_
  exact wp_ret d138_56 rfl h
set_option maxRecDepth 20000 in
theorem m_context {a b c cx : Int} (hG : pm_G Rf K L n) (hcx : M 56 24 = cx) (x0 : 0 ≤ cx) (x1 : cx < 900) (h : Q (some (.int (zI ((cx + 1) - 1)))) (zM (mset (mset (mset (mset M 74 cx a) 75 cx b) 76 cx c) 56 24 (cx + 1)), Rf, K, L, n, s)) : pm_Wc (d + 1) 157 [.ref 56, .int (zI a), .int (zI b), .int (zI c)] (zM M, Rf, K, L, n, s) Q := by
  refine wc_in (ls0 := [some (.ref 56), some (.int (zI a)), some (.int (zI b)), some (.int (zI c))]) (by decide) (Nat.le_of_ble_eq_true rfl) rfl rfl ?_
  refine wp_aload_n d157_0 rfl ?_
  refine wp_getR (q := 74) d157_1 rfl (hG.o (by decide) rfl) (by decide) (hG.r (by decide +kernel)) (by decide) ?_
  refine wp_aload_n d157_4 rfl ?_
  refine wz_getI (v := cx) d157_5 rfl (hG.o (by decide) rfl) (by decide) hcx ?_
  refine wp_iload_n d157_8 rfl ?_
  refine wz_iast (z := 900) d157_9 (hG.a (by decide) rfl rfl) (by omega) (by omega) (by decide) ?_
  refine wp_aload_n d157_10 rfl ?_
  refine wp_getR (q := 75) d157_11 rfl (hG.o (by decide) rfl) (by decide) (hG.r (by decide +kernel)) (by decide) ?_
  refine wp_aload_n d157_14 rfl ?_
  refine wz_getI (v := cx) d157_15 rfl (hG.o (by decide) rfl) (by decide) (by simp [mset]; exact hcx) ?_
  refine wp_iload_n d157_18 rfl ?_
  refine wz_iast (z := 900) d157_19 (hG.a (by decide) rfl rfl) (by omega) (by omega) (by decide) ?_
  refine wp_aload_n d157_20 rfl ?_
  refine wp_getR (q := 76) d157_21 rfl (hG.o (by decide) rfl) (by decide) (hG.r (by decide +kernel)) (by decide) ?_
  refine wp_aload_n d157_24 rfl ?_
  refine wz_getI (v := cx) d157_25 rfl (hG.o (by decide) rfl) (by decide) (by simp [mset]; exact hcx) ?_
  refine wp_iload_n d157_28 rfl ?_
  refine wz_iast (z := 900) d157_29 (hG.a (by decide) rfl rfl) (by omega) (by omega) (by decide) ?_
  refine wp_aload_n d157_30 rfl ?_
  refine wp_dupr d157_31 ?_
  refine wz_getI (v := cx) d157_32 rfl (hG.o (by decide) rfl) (by decide) (by simp [mset]; exact hcx) ?_
  refine wz_iconst d157_35 ?_
  refine wz_iadd d157_36 ?_
  refine wz_putI (i := 24) d157_37 rfl (hG.o (by decide) rfl) rfl (by decide) rfl ?_
  refine wp_aload_n d157_40 rfl ?_
  refine wz_getI (v := cx + 1) d157_41 rfl (hG.o (by decide) rfl) (by decide) (by simp [mset]) ?_
  refine wz_iconst d157_44 ?_
  refine wz_isub d157_45 ?_
  exact wp_ret d157_46 rfl h
set_option maxRecDepth 20000 in
theorem m_pose {a b c e f g ts : Int} (hG : pm_G Rf K L n) (hts : M 56 34 = ts) (x0 : 0 ≤ ts) (x1 : ts < 300) (h : Q none (zM (mset (mset (mset (mset (mset (mset (mset M 80 (6 * ts) a) 80 ((6 * ts) + 1) b) 80 ((6 * ts) + 2) c) 80 ((6 * ts) + 3) e) 80 ((6 * ts) + 4) f) 80 ((6 * ts) + 5) g) 56 34 (ts + 1)), Rf, K, L, n, s)) : pm_Wc (d + 1) 160 [.ref 56, .int (zI a), .int (zI b), .int (zI c), .int (zI e), .int (zI f), .int (zI g)] (zM M, Rf, K, L, n, s) Q := by
  refine wc_in (ls0 := [some (.ref 56), some (.int (zI a)), some (.int (zI b)), some (.int (zI c)), some (.int (zI e)), some (.int (zI f)), some (.int (zI g)), none]) (by decide) (Nat.le_of_ble_eq_true rfl) rfl rfl ?_
  refine wz_bipush d160_0 (by decide) ?_
  refine wp_aload_n d160_2 rfl ?_
  refine wz_getI (v := ts) d160_3 rfl (hG.o (by decide) rfl) (by decide) hts ?_
  refine wz_imul d160_6 ?_
  refine wp_istore d160_7 (Nat.le_of_ble_eq_true rfl) rfl ?_
  refine wp_aload_n d160_9 rfl ?_
  refine wp_getR (q := 80) d160_10 rfl (hG.o (by decide) rfl) (by decide) (hG.r (by decide +kernel)) (by decide) ?_
  refine wp_iload d160_13 rfl ?_
  refine wp_iload_n d160_15 rfl ?_
  refine wz_iast (z := 1800) d160_16 (hG.a (by decide) rfl rfl) (by omega) (by omega) (by decide) ?_
  refine wp_aload_n d160_17 rfl ?_
  refine wp_getR (q := 80) d160_18 rfl (hG.o (by decide) rfl) (by decide) (hG.r (by decide +kernel)) (by decide) ?_
  refine wp_iload d160_21 rfl ?_
  refine wz_iconst d160_23 ?_
  refine wz_iadd d160_24 ?_
  refine wp_iload_n d160_25 rfl ?_
  refine wz_iast (z := 1800) d160_26 (hG.a (by decide) rfl rfl) (by omega) (by omega) (by decide) ?_
  refine wp_aload_n d160_27 rfl ?_
  refine wp_getR (q := 80) d160_28 rfl (hG.o (by decide) rfl) (by decide) (hG.r (by decide +kernel)) (by decide) ?_
  refine wp_iload d160_31 rfl ?_
  refine wz_iconst d160_33 ?_
  refine wz_iadd d160_34 ?_
  refine wp_iload_n d160_35 rfl ?_
  refine wz_iast (z := 1800) d160_36 (hG.a (by decide) rfl rfl) (by omega) (by omega) (by decide) ?_
  refine wp_aload_n d160_37 rfl ?_
  refine wp_getR (q := 80) d160_38 rfl (hG.o (by decide) rfl) (by decide) (hG.r (by decide +kernel)) (by decide) ?_
  refine wp_iload d160_41 rfl ?_
  refine wz_iconst d160_43 ?_
  refine wz_iadd d160_44 ?_
  refine wp_iload d160_45 rfl ?_
  refine wz_iast (z := 1800) d160_47 (hG.a (by decide) rfl rfl) (by omega) (by omega) (by decide) ?_
  refine wp_aload_n d160_48 rfl ?_
  refine wp_getR (q := 80) d160_49 rfl (hG.o (by decide) rfl) (by decide) (hG.r (by decide +kernel)) (by decide) ?_
  refine wp_iload d160_52 rfl ?_
  refine wz_iconst d160_54 ?_
  refine wz_iadd d160_55 ?_
  refine wp_iload d160_56 rfl ?_
  refine wz_iast (z := 1800) d160_58 (hG.a (by decide) rfl rfl) (by omega) (by omega) (by decide) ?_
  refine wp_aload_n d160_59 rfl ?_
  refine wp_getR (q := 80) d160_60 rfl (hG.o (by decide) rfl) (by decide) (hG.r (by decide +kernel)) (by decide) ?_
  refine wp_iload d160_63 rfl ?_
  refine wz_iconst d160_65 ?_
  refine wz_iadd d160_66 ?_
  refine wp_iload d160_67 rfl ?_
  refine wz_iast (z := 1800) d160_69 (hG.a (by decide) rfl rfl) (by omega) (by omega) (by decide) ?_
  refine wp_aload_n d160_70 rfl ?_
  refine wp_dupr d160_71 ?_
  refine wz_getI (v := ts) d160_72 rfl (hG.o (by decide) rfl) (by decide) (by simp [mset]; exact hts) ?_
  refine wz_iconst d160_75 ?_
  refine wz_iadd d160_76 ?_
  refine wz_putI (i := 34) d160_77 rfl (hG.o (by decide) rfl) rfl (by decide) rfl ?_
  exact wp_ret d160_80 rfl h
set_option maxRecDepth 20000 in
theorem m_aim {a b c e f g i gs : Int} (hG : pm_G Rf K L n) (hgs : M 56 36 = gs) (x0 : 0 ≤ gs) (x1 : gs < 600) (h : Q (some (.int (zI ((gs + 1) - 1)))) (zM (mset (mset (mset (mset (mset (mset (mset (mset (mset (mset M 81 (7 * gs) a) 81 ((7 * gs) + 1) b) 81 ((7 * gs) + 2) c) 81 ((7 * gs) + 3) e) 81 ((7 * gs) + 4) f) 81 ((7 * gs) + 5) g) 81 ((7 * gs) + 6) i) 82 gs (-1)) 84 gs 0) 56 36 (gs + 1)), Rf, K, L, n, s)) : pm_Wc (d + 1) 163 [.ref 56, .int (zI a), .int (zI b), .int (zI c), .int (zI e), .int (zI f), .int (zI g), .int (zI i)] (zM M, Rf, K, L, n, s) Q := by
  refine wc_in (ls0 := [some (.ref 56), some (.int (zI a)), some (.int (zI b)), some (.int (zI c)), some (.int (zI e)), some (.int (zI f)), some (.int (zI g)), some (.int (zI i)), none]) (by decide) (Nat.le_of_ble_eq_true rfl) rfl rfl ?_
  refine wz_bipush d163_0 (by decide) ?_
  refine wp_aload_n d163_2 rfl ?_
  refine wz_getI (v := gs) d163_3 rfl (hG.o (by decide) rfl) (by decide) hgs ?_
  refine wz_imul d163_6 ?_
  refine wp_istore d163_7 (Nat.le_of_ble_eq_true rfl) rfl ?_
  refine wp_aload_n d163_9 rfl ?_
  refine wp_getR (q := 81) d163_10 rfl (hG.o (by decide) rfl) (by decide) (hG.r (by decide +kernel)) (by decide) ?_
  refine wp_iload d163_13 rfl ?_
  refine wp_iload_n d163_15 rfl ?_
  refine wz_iast (z := 4200) d163_16 (hG.a (by decide) rfl rfl) (by omega) (by omega) (by decide) ?_
  refine wp_aload_n d163_17 rfl ?_
  refine wp_getR (q := 81) d163_18 rfl (hG.o (by decide) rfl) (by decide) (hG.r (by decide +kernel)) (by decide) ?_
  refine wp_iload d163_21 rfl ?_
  refine wz_iconst d163_23 ?_
  refine wz_iadd d163_24 ?_
  refine wp_iload_n d163_25 rfl ?_
  refine wz_iast (z := 4200) d163_26 (hG.a (by decide) rfl rfl) (by omega) (by omega) (by decide) ?_
  refine wp_aload_n d163_27 rfl ?_
  refine wp_getR (q := 81) d163_28 rfl (hG.o (by decide) rfl) (by decide) (hG.r (by decide +kernel)) (by decide) ?_
  refine wp_iload d163_31 rfl ?_
  refine wz_iconst d163_33 ?_
  refine wz_iadd d163_34 ?_
  refine wp_iload_n d163_35 rfl ?_
  refine wz_iast (z := 4200) d163_36 (hG.a (by decide) rfl rfl) (by omega) (by omega) (by decide) ?_
  refine wp_aload_n d163_37 rfl ?_
  refine wp_getR (q := 81) d163_38 rfl (hG.o (by decide) rfl) (by decide) (hG.r (by decide +kernel)) (by decide) ?_
  refine wp_iload d163_41 rfl ?_
  refine wz_iconst d163_43 ?_
  refine wz_iadd d163_44 ?_
  refine wp_iload d163_45 rfl ?_
  refine wz_iast (z := 4200) d163_47 (hG.a (by decide) rfl rfl) (by omega) (by omega) (by decide) ?_
  refine wp_aload_n d163_48 rfl ?_
  refine wp_getR (q := 81) d163_49 rfl (hG.o (by decide) rfl) (by decide) (hG.r (by decide +kernel)) (by decide) ?_
  refine wp_iload d163_52 rfl ?_
  refine wz_iconst d163_54 ?_
  refine wz_iadd d163_55 ?_
  refine wp_iload d163_56 rfl ?_
  refine wz_iast (z := 4200) d163_58 (hG.a (by decide) rfl rfl) (by omega) (by omega) (by decide) ?_
  refine wp_aload_n d163_59 rfl ?_
  refine wp_getR (q := 81) d163_60 rfl (hG.o (by decide) rfl) (by decide) (hG.r (by decide +kernel)) (by decide) ?_
  refine wp_iload d163_63 rfl ?_
  refine wz_iconst d163_65 ?_
  refine wz_iadd d163_66 ?_
  refine wp_iload d163_67 rfl ?_
  refine wz_iast (z := 4200) d163_69 (hG.a (by decide) rfl rfl) (by omega) (by omega) (by decide) ?_
  refine wp_aload_n d163_70 rfl ?_
  refine wp_getR (q := 81) d163_71 rfl (hG.o (by decide) rfl) (by decide) (hG.r (by decide +kernel)) (by decide) ?_
  refine wp_iload d163_74 rfl ?_
  refine wz_bipush d163_76 (by decide) ?_
  refine wz_iadd d163_78 ?_
  refine wp_iload d163_79 rfl ?_
  refine wz_iast (z := 4200) d163_81 (hG.a (by decide) rfl rfl) (by omega) (by omega) (by decide) ?_
  refine wp_aload_n d163_82 rfl ?_
  refine wp_getR (q := 82) d163_83 rfl (hG.o (by decide) rfl) (by decide) (hG.r (by decide +kernel)) (by decide) ?_
  refine wp_aload_n d163_86 rfl ?_
  refine wz_getI (v := gs) d163_87 rfl (hG.o (by decide) rfl) (by decide) (by simp [mset]; exact hgs) ?_
  refine wz_iconst d163_90 ?_
  refine wz_iast (z := 600) d163_91 (hG.a (by decide) rfl rfl) (by omega) (by omega) (by decide) ?_
  refine wp_aload_n d163_92 rfl ?_
  refine wp_getR (q := 84) d163_93 rfl (hG.o (by decide) rfl) (by decide) (hG.r (by decide +kernel)) (by decide) ?_
  refine wp_aload_n d163_96 rfl ?_
  refine wz_getI (v := gs) d163_97 rfl (hG.o (by decide) rfl) (by decide) (by simp [mset]; exact hgs) ?_
  refine wz_iconst d163_100 ?_
  refine wz_iast (z := 600) d163_101 (hG.a (by decide) rfl rfl) (by omega) (by omega) (by decide) ?_
  refine wp_aload_n d163_102 rfl ?_
  refine wp_dupr d163_103 ?_
  refine wz_getI (v := gs) d163_104 rfl (hG.o (by decide) rfl) (by decide) (by simp [mset]; exact hgs) ?_
  refine wz_iconst d163_107 ?_
  refine wz_iadd d163_108 ?_
  refine wz_putI (i := 36) d163_109 rfl (hG.o (by decide) rfl) rfl (by decide) rfl ?_
  refine wp_aload_n d163_112 rfl ?_
  refine wz_getI (v := gs + 1) d163_113 rfl (hG.o (by decide) rfl) (by decide) (by simp [mset]) ?_
  refine wz_iconst d163_116 ?_
  refine wz_isub d163_117 ?_
  exact wp_ret d163_118 rfl h
set_option maxRecDepth 20000 in
theorem m_reach {a b c : Int} (hG : pm_G Rf K L n)  (x0 : 0 ≤ a) (x1 : a < 600) (h : Q none (zM (mset (mset (mset M 84 a 1) 85 a b) 86 a c), Rf, K, L, n, s)) : pm_Wc (d + 1) 164 [.ref 56, .int (zI a), .int (zI b), .int (zI c)] (zM M, Rf, K, L, n, s) Q := by
  refine wc_in (ls0 := [some (.ref 56), some (.int (zI a)), some (.int (zI b)), some (.int (zI c))]) (by decide) (Nat.le_of_ble_eq_true rfl) rfl rfl ?_
  refine wp_aload_n d164_0 rfl ?_
  refine wp_getR (q := 84) d164_1 rfl (hG.o (by decide) rfl) (by decide) (hG.r (by decide +kernel)) (by decide) ?_
  refine wp_iload_n d164_4 rfl ?_
  refine wz_iconst d164_5 ?_
  refine wz_iast (z := 600) d164_6 (hG.a (by decide) rfl rfl) (by omega) (by omega) (by decide) ?_
  refine wp_aload_n d164_7 rfl ?_
  refine wp_getR (q := 85) d164_8 rfl (hG.o (by decide) rfl) (by decide) (hG.r (by decide +kernel)) (by decide) ?_
  refine wp_iload_n d164_11 rfl ?_
  refine wp_iload_n d164_12 rfl ?_
  refine wz_iast (z := 600) d164_13 (hG.a (by decide) rfl rfl) (by omega) (by omega) (by decide) ?_
  refine wp_aload_n d164_14 rfl ?_
  refine wp_getR (q := 86) d164_15 rfl (hG.o (by decide) rfl) (by decide) (hG.r (by decide +kernel)) (by decide) ?_
  refine wp_iload_n d164_18 rfl ?_
  refine wp_iload_n d164_19 rfl ?_
  refine wz_iast (z := 600) d164_20 (hG.a (by decide) rfl rfl) (by omega) (by omega) (by decide) ?_
  exact wp_ret d164_21 rfl h
set_option maxRecDepth 20000 in
theorem m_begin (hG : pm_G Rf K L n)   (h : Q none (zM (mset (mset M 56 22 132) 56 24 0), Rf, K, L, n, s)) : pm_Wc (d + 1) 172 [.ref 56] (zM M, Rf, K, L, n, s) Q := by
  refine wc_in (ls0 := [some (.ref 56)]) (by decide) (Nat.le_of_ble_eq_true rfl) rfl rfl ?_
  refine wp_aload_n d172_0 rfl ?_
  refine wz_sipush d172_1 (by decide) ?_
  refine wz_putI (i := 22) d172_4 rfl (hG.o (by decide) rfl) rfl (by decide) rfl ?_
  refine wp_aload_n d172_7 rfl ?_
  refine wz_iconst d172_8 ?_
  refine wz_putI (i := 24) d172_9 rfl (hG.o (by decide) rfl) rfl (by decide) rfl ?_
  exact wp_ret d172_12 rfl h
set_option maxRecDepth 20000 in
theorem m_put {a wr : Int} (hG : pm_G Rf K L n) (hwr : M 56 2 = wr) (x0 : 0 ≤ wr) (x1 : wr < 128) (h : Q none (zM (mset (mset M 58 wr a) 56 2 (wr + 1)), Rf, K, L, n, s)) : pm_Wc (d + 1) 182 [.ref 56, .int (zI a)] (zM M, Rf, K, L, n, s) Q := by
  refine wc_in (ls0 := [some (.ref 56), some (.int (zI a))]) (by decide) (Nat.le_of_ble_eq_true rfl) rfl rfl ?_
  refine wp_aload_n d182_0 rfl ?_
  refine wp_getR (q := 58) d182_1 rfl (hG.o (by decide) rfl) (by decide) (hG.r (by decide +kernel)) (by decide) ?_
  refine wp_aload_n d182_4 rfl ?_
  refine wz_getI (v := wr) d182_5 rfl (hG.o (by decide) rfl) (by decide) hwr ?_
  refine wp_iload_n d182_8 rfl ?_
  refine wz_iast (z := 128) d182_9 (hG.a (by decide) rfl rfl) (by omega) (by omega) (by decide) ?_
  refine wp_aload_n d182_10 rfl ?_
  refine wp_dupr d182_11 ?_
  refine wz_getI (v := wr) d182_12 rfl (hG.o (by decide) rfl) (by decide) (by simp [mset]; exact hwr) ?_
  refine wz_iconst d182_15 ?_
  refine wz_iadd d182_16 ?_
  refine wz_putI (i := 2) d182_17 rfl (hG.o (by decide) rfl) rfl (by decide) rfl ?_
  exact wp_ret d182_20 rfl h
set_option maxRecDepth 20000 in
theorem m_go {a b : Int} (hG : pm_G Rf K L n)   (h : Q none (zM (mset (mset (mset M 56 46 a) 56 47 b) 56 49 0), Rf, K, L, n, s)) : pm_Wc (d + 1) 199 [.ref 56, .int (zI a), .int (zI b)] (zM M, Rf, K, L, n, s) Q := by
  refine wc_in (ls0 := [some (.ref 56), some (.int (zI a)), some (.int (zI b))]) (by decide) (Nat.le_of_ble_eq_true rfl) rfl rfl ?_
  refine wp_aload_n d199_0 rfl ?_
  refine wp_iload_n d199_1 rfl ?_
  refine wz_putI (i := 46) d199_2 rfl (hG.o (by decide) rfl) rfl (by decide) rfl ?_
  refine wp_aload_n d199_5 rfl ?_
  refine wp_iload_n d199_6 rfl ?_
  refine wz_putI (i := 47) d199_7 rfl (hG.o (by decide) rfl) rfl (by decide) rfl ?_
  refine wp_aload_n d199_10 rfl ?_
  refine wz_iconst d199_11 ?_
  refine wz_putI (i := 49) d199_12 rfl (hG.o (by decide) rfl) (by decide) (by decide) rfl ?_
  exact wp_ret d199_15 rfl h
set_option maxRecDepth 20000 in
theorem m_answer {a : Int} (hG : pm_G Rf K L n)   (h : Q none (zM (mset (mset M 56 48 a) 56 49 1), Rf, K, L, n, s)) : pm_Wc (d + 1) 200 [.ref 56, .int (zI a)] (zM M, Rf, K, L, n, s) Q := by
  refine wc_in (ls0 := [some (.ref 56), some (.int (zI a))]) (by decide) (Nat.le_of_ble_eq_true rfl) rfl rfl ?_
  refine wp_aload_n d200_0 rfl ?_
  refine wp_iload_n d200_1 rfl ?_
  refine wz_putI (i := 48) d200_2 rfl (hG.o (by decide) rfl) rfl (by decide) rfl ?_
  refine wp_aload_n d200_5 rfl ?_
  refine wz_iconst d200_6 ?_
  refine wz_putI (i := 49) d200_7 rfl (hG.o (by decide) rfl) (by decide) (by decide) rfl ?_
  exact wp_ret d200_10 rfl h
set_option maxRecDepth 20000 in
theorem m_keep {a b c vs : Int} (hG : pm_G Rf K L n) (hvs : M 56 54 = vs) (x0 : 0 ≤ vs) (x1 : vs < 4000) (h : Q (some (.int (zI ((vs + 1) - 1)))) (zM (mset (mset (mset (mset M 90 vs a) 91 vs b) 92 vs c) 56 54 (vs + 1)), Rf, K, L, n, s)) : pm_Wc (d + 1) 201 [.ref 56, .int (zI a), .int (zI b), .int (zI c)] (zM M, Rf, K, L, n, s) Q := by
  refine wc_in (ls0 := [some (.ref 56), some (.int (zI a)), some (.int (zI b)), some (.int (zI c))]) (by decide) (Nat.le_of_ble_eq_true rfl) rfl rfl ?_
  refine wp_aload_n d201_0 rfl ?_
  refine wp_getR (q := 90) d201_1 rfl (hG.o (by decide) rfl) (by decide) (hG.r (by decide +kernel)) (by decide) ?_
  refine wp_aload_n d201_4 rfl ?_
  refine wz_getI (v := vs) d201_5 rfl (hG.o (by decide) rfl) (by decide) hvs ?_
  refine wp_iload_n d201_8 rfl ?_
  refine wz_iast (z := 4000) d201_9 (hG.a (by decide) rfl rfl) (by omega) (by omega) (by decide) ?_
  refine wp_aload_n d201_10 rfl ?_
  refine wp_getR (q := 91) d201_11 rfl (hG.o (by decide) rfl) (by decide) (hG.r (by decide +kernel)) (by decide) ?_
  refine wp_aload_n d201_14 rfl ?_
  refine wz_getI (v := vs) d201_15 rfl (hG.o (by decide) rfl) (by decide) (by simp [mset]; exact hvs) ?_
  refine wp_iload_n d201_18 rfl ?_
  refine wz_iast (z := 4000) d201_19 (hG.a (by decide) rfl rfl) (by omega) (by omega) (by decide) ?_
  refine wp_aload_n d201_20 rfl ?_
  refine wp_getR (q := 92) d201_21 rfl (hG.o (by decide) rfl) (by decide) (hG.r (by decide +kernel)) (by decide) ?_
  refine wp_aload_n d201_24 rfl ?_
  refine wz_getI (v := vs) d201_25 rfl (hG.o (by decide) rfl) (by decide) (by simp [mset]; exact hvs) ?_
  refine wp_iload_n d201_28 rfl ?_
  refine wz_iast (z := 4000) d201_29 (hG.a (by decide) rfl rfl) (by omega) (by omega) (by decide) ?_
  refine wp_aload_n d201_30 rfl ?_
  refine wp_dupr d201_31 ?_
  refine wz_getI (v := vs) d201_32 rfl (hG.o (by decide) rfl) (by decide) (by simp [mset]; exact hvs) ?_
  refine wz_iconst d201_35 ?_
  refine wz_iadd d201_36 ?_
  refine wz_putI (i := 54) d201_37 rfl (hG.o (by decide) rfl) rfl (by decide) rfl ?_
  refine wp_aload_n d201_40 rfl ?_
  refine wz_getI (v := vs + 1) d201_41 rfl (hG.o (by decide) rfl) (by decide) (by simp [mset]) ?_
  refine wz_iconst d201_44 ?_
  refine wz_isub d201_45 ?_
  exact wp_ret d201_46 rfl h
set_option maxRecDepth 20000 in
theorem m_wait {a b c e fr en : Int} (hG : pm_G Rf K L n) (hfr : M 56 59 = fr) (hen : M 56 47 = en) (x0 : 0 ≤ fr) (x1 : fr < 4000) (h : Q none (zM (mset (mset (mset (mset (mset (mset (mset (mset M 94 fr a) 95 fr b) 96 fr en) 97 fr c) 56 59 (fr + 1)) 56 46 e) 56 47 en) 56 49 0), Rf, K, L, n, s)) : pm_Wc (d + 2) 202 [.ref 56, .int (zI a), .int (zI b), .int (zI c), .int (zI e)] (zM M, Rf, K, L, n, s) Q := by
  refine wc_in (ls0 := [some (.ref 56), some (.int (zI a)), some (.int (zI b)), some (.int (zI c)), some (.int (zI e))]) (by decide) (Nat.le_of_ble_eq_true rfl) rfl rfl ?_
  refine wp_aload_n d202_0 rfl ?_
  refine wp_getR (q := 94) d202_1 rfl (hG.o (by decide) rfl) (by decide) (hG.r (by decide +kernel)) (by decide) ?_
  refine wp_aload_n d202_4 rfl ?_
  refine wz_getI (v := fr) d202_5 rfl (hG.o (by decide) rfl) (by decide) hfr ?_
  refine wp_iload_n d202_8 rfl ?_
  refine wz_iast (z := 4000) d202_9 (hG.a (by decide) rfl rfl) (by omega) (by omega) (by decide) ?_
  refine wp_aload_n d202_10 rfl ?_
  refine wp_getR (q := 95) d202_11 rfl (hG.o (by decide) rfl) (by decide) (hG.r (by decide +kernel)) (by decide) ?_
  refine wp_aload_n d202_14 rfl ?_
  refine wz_getI (v := fr) d202_15 rfl (hG.o (by decide) rfl) (by decide) (by simp [mset]; exact hfr) ?_
  refine wp_iload_n d202_18 rfl ?_
  refine wz_iast (z := 4000) d202_19 (hG.a (by decide) rfl rfl) (by omega) (by omega) (by decide) ?_
  refine wp_aload_n d202_20 rfl ?_
  refine wp_getR (q := 96) d202_21 rfl (hG.o (by decide) rfl) (by decide) (hG.r (by decide +kernel)) (by decide) ?_
  refine wp_aload_n d202_24 rfl ?_
  refine wz_getI (v := fr) d202_25 rfl (hG.o (by decide) rfl) (by decide) (by simp [mset]; exact hfr) ?_
  refine wp_aload_n d202_28 rfl ?_
  refine wz_getI (v := en) d202_29 rfl (hG.o (by decide) rfl) (by decide) (by simp [mset]; exact hen) ?_
  refine wz_iast (z := 4000) d202_32 (hG.a (by decide) rfl rfl) (by omega) (by omega) (by decide) ?_
  refine wp_aload_n d202_33 rfl ?_
  refine wp_getR (q := 97) d202_34 rfl (hG.o (by decide) rfl) (by decide) (hG.r (by decide +kernel)) (by decide) ?_
  refine wp_aload_n d202_37 rfl ?_
  refine wz_getI (v := fr) d202_38 rfl (hG.o (by decide) rfl) (by decide) (by simp [mset]; exact hfr) ?_
  refine wp_iload_n d202_41 rfl ?_
  refine wz_iast (z := 4000) d202_42 (hG.a (by decide) rfl rfl) (by omega) (by omega) (by decide) ?_
  refine wp_aload_n d202_43 rfl ?_
  refine wp_dupr d202_44 ?_
  refine wz_getI (v := fr) d202_45 rfl (hG.o (by decide) rfl) (by decide) (by simp [mset]; exact hfr) ?_
  refine wz_iconst d202_48 ?_
  refine wz_iadd d202_49 ?_
  refine wz_putI (i := 59) d202_50 rfl (hG.o (by decide) rfl) rfl (by decide) rfl ?_
  refine wp_aload_n d202_53 rfl ?_
  refine wp_iload d202_54 rfl ?_
  refine wp_aload_n d202_56 rfl ?_
  refine wz_getI (v := en) d202_57 rfl (hG.o (by decide) rfl) (by decide) (by simp [mset]; exact hen) ?_
  refine wp_virt (as := [.int (zI (en)), .int (zI (e))]) (rest := []) d202_60 rfl rfl rfl (hG.o (by decide) rfl) rfl rfl (Nat.le_of_ble_eq_true rfl) ?_
  refine m_go hG ?_
  exact wp_ret d202_63 rfl h
set_option maxRecDepth 20000 in
theorem m_top {u : Int} (hG : pm_G Rf K L n) (hu : M 56 22 = u) (x0 : 0 ≤ u) (x1 : u < 1100) (h : Q (some (.int (zI u))) (zM (mset (mset M 56 22 ((u + 1))) 73 (17 * u) 0), Rf, K, L, n, s)) : pm_Wc (d + 2) 165 [.ref 56] (zM M, Rf, K, L, n, s) Q := by
  refine wc_in (ls0 := [some (.ref 56), none]) (by decide) (Nat.le_of_ble_eq_true rfl) rfl rfl ?_
  refine wp_aload_n d165_0 rfl ?_
  refine wp_virt (as := []) (rest := []) d165_1 rfl rfl rfl (hG.o (by decide) rfl) rfl rfl (Nat.le_of_ble_eq_true rfl) ?_
  refine m_fresh hG hu ?_
  refine wp_istore_n d165_4 (Nat.le_of_ble_eq_true rfl) rfl ?_
  refine wp_aload_n d165_5 rfl ?_
  refine wp_getR (q := 73) d165_6 rfl (hG.o (by decide) rfl) (by decide) (hG.r (by decide +kernel)) (by decide) ?_
  refine wz_bipush d165_9 (by decide) ?_
  refine wp_iload_n d165_11 rfl ?_
  refine wz_imul d165_12 ?_
  refine wz_iconst d165_13 ?_
  refine wz_iast (z := 18700) d165_14 (hG.a (by decide) rfl rfl) (by omega) (by omega) (by decide) ?_
  refine wp_iload_n d165_15 rfl ?_
  exact wp_ret d165_16 rfl h
end PmM3
