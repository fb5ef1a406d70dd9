/-! THE MODEL: labels. -/
/-- all but the expectations and one node's mark is as it was -/
def LBo (m : Nat) (N N' : pm_M) : Prop := ∀ (q : Nat) (i : Int), ¬ (q = 60 ∧ i = (m : Int)) → ¬ (68 ≤ q ∧ q ≤ 71) → q ≠ 56 → N' q i = N q i
theorem shr_zero : ∀ c, c < 3 → ∀ a, a < 8 → (a / 2 ^ c = 0 ↔ a < 2 ^ c) := by decide
section PmM31
variable {tx : Nat → Int} {ln : Nat} {d : Nat} {Q : Option Value → pm_S → Prop} {N : pm_M} {Rf : Nat → Nat → Nat} {K L : Nat → Nat} {n s0 : Nat} {nd sc p : Nat} {wt : Int} {l : List (Int × Int × Int × Int)}
theorem MFr.lb {m sc' k : Nat} {N' : pm_M} (h : MFr m sc' k N N') : True := trivial
set_option maxHeartbeats 1000000 in
theorem m_labelT {c dp s : Int} {m a : Nat} (hG : pm_G Rf K L n) (h : MS tx ln N p nd sc l) (hl : l.length < 200) (hs : -1 ≤ s ∧ s < 128) (hdp : 0 ≤ dp ∧ dp ≤ 24) (rc : 0 ≤ c ∧ c ≤ 200) (hm : m < 128) (hop : N 59 (m : Int) = 4) (har : N 60 (m : Int) = (a : Int)) (ha : a < 8) (h1 : ∀ k : Nat, k < 3 → c = 120 + (k : Int) → dp < 24 → a < 2 ^ k → ∀ N' : pm_M, MS tx ln N' p nd sc ((200, dp + 1, s, (m : Int)) :: (206, dp, s, (m : Int)) :: l) → N' 60 (m : Int) = ((a + 2 ^ k : Nat) : Int) → LBo m N N' → MFr m sc l.length N N' → Q (some (.int (zI 1))) (zM N', Rf, K, L, n, s0)) (h0 : (∀ k : Nat, k < 3 → c = 120 + (k : Int) → dp < 24 → ¬ a < 2 ^ k) → Q (some (.int (zI 0))) (zM N, Rf, K, L, n, s0)) : pm_Wc (d + 2) 141 [.ref 56, .int (zI c), .int (zI dp), .int (zI s), .int (zI (m : Int))] (zM N, Rf, K, L, n, s0) Q := by
  obtain ⟨g1, g2, g3, g4, g5, g6, g7, g8, g9, g10, g11⟩ := h
  refine wc_in (ls0 := [some (.ref 56), some (.int (zI c)), some (.int (zI dp)), some (.int (zI s)), some (.int (zI (m : Int))), none, none]) (by decide) (Nat.le_of_ble_eq_true rfl) rfl rfl ?_
  refine wp_aload_n d141_0 rfl ?_
  refine wp_getR (q := 59) d141_1 rfl (hG.o (by decide) rfl) (by decide) (hG.r (by decide +kernel)) (by decide) ?_
  refine wp_iload d141_4 rfl ?_
  refine wz_iald (z := 128) (v := 4) d141_6 (hG.a (by decide) rfl rfl) (by omega) (by omega) (by decide) (hop) ?_
  refine wz_bipush d141_7 (by decide) ?_
  refine wz_icmp_ne (t := 16) d141_9 (by decide) ⟨by omega, by omega⟩ ⟨by omega, by omega⟩ (fun _ => ?_) (fun hb => absurd hb (by decide))
  refine wz_iconst d141_16 ?_
  refine wp_istore d141_17 (Nat.le_of_ble_eq_true rfl) rfl ?_
  refine wp_iload_n d141_19 rfl ?_
  refine wz_bipush d141_20 (by decide) ?_
  refine wz_icmp_lt (t := 56) d141_22 (by decide) ⟨by omega, by omega⟩ ⟨by omega, by omega⟩ (fun c1 => ?_) (fun c1 => ?_)
  · skip
    refine wz_iconst d141_56 ?_
    refine wp_istore d141_57 (Nat.le_of_ble_eq_true rfl) rfl ?_
    refine wp_iload d141_59 rfl ?_
    refine wz_if_ne (t := 66) d141_61 (by decide) ⟨by omega, by omega⟩ (fun hb => absurd (by decide) hb) (fun _ => ?_)
    refine wz_iconst d141_64 ?_
    exact wp_ret d141_65 rfl (h0 (fun k hk e1 e2 => by omega))
  refine wp_iload_n d141_25 rfl ?_
  refine wz_bipush d141_26 (by decide) ?_
  refine wz_icmp_gt (t := 56) d141_28 (by decide) ⟨by omega, by omega⟩ ⟨by omega, by omega⟩ (fun c2 => ?_) (fun c2 => ?_)
  · skip
    refine wz_iconst d141_56 ?_
    refine wp_istore d141_57 (Nat.le_of_ble_eq_true rfl) rfl ?_
    refine wp_iload d141_59 rfl ?_
    refine wz_if_ne (t := 66) d141_61 (by decide) ⟨by omega, by omega⟩ (fun hb => absurd (by decide) hb) (fun _ => ?_)
    refine wz_iconst d141_64 ?_
    exact wp_ret d141_65 rfl (h0 (fun k hk e1 e2 => by omega))
  refine wp_iload_n d141_31 rfl ?_
  refine wz_bipush d141_32 (by decide) ?_
  refine wz_icmp_ge (t := 56) d141_34 (by decide) ⟨by omega, by omega⟩ ⟨by omega, by omega⟩ (fun c3 => ?_) (fun c3 => ?_)
  · skip
    refine wz_iconst d141_56 ?_
    refine wp_istore d141_57 (Nat.le_of_ble_eq_true rfl) rfl ?_
    refine wp_iload d141_59 rfl ?_
    refine wz_if_ne (t := 66) d141_61 (by decide) ⟨by omega, by omega⟩ (fun hb => absurd (by decide) hb) (fun _ => ?_)
    refine wz_iconst d141_64 ?_
    exact wp_ret d141_65 rfl (h0 (fun k hk e1 e2 => by omega))
  obtain ⟨k, hk⟩ : ∃ k : Nat, c = 120 + (k : Int) := ⟨(c - 120).toNat, by omega⟩
  subst hk
  have hk3 : k < 3 := by omega
  refine wp_aload_n d141_37 rfl ?_
  refine wp_getR (q := 60) d141_38 rfl (hG.o (by decide) rfl) (by decide) (hG.r (by decide +kernel)) (by decide) ?_
  refine wp_iload d141_41 rfl ?_
  refine wz_iald (z := 128) (v := (a : Int)) d141_43 (hG.a (by decide) rfl rfl) (by omega) (by omega) (by decide) (har) ?_
  refine wp_iload_n d141_44 rfl ?_
  refine wz_bipush d141_45 (by decide) ?_
  refine wz_isub d141_47 ?_
  rw [show 120 + (k : Int) - 120 = (k : Int) by omega]
  refine wz_ishr d141_48 (by omega) (by omega) (by omega) (by omega) ?_
  rw [Int.toNat_natCast, Int.toNat_natCast]
  have hz := shr_zero k hk3 a ha
  have hq : a / 2 ^ k ≤ a := Nat.div_le_self _ _
  generalize a / 2 ^ k = q0 at hz hq
  refine wz_if_ne (t := 56) d141_49 (by decide) ⟨by omega, by omega⟩ (fun c4 => ?_) (fun c4 => ?_)
  · skip
    have no : ∀ k' : Nat, k' < 3 → (120 : Int) + (k : Int) = 120 + (k' : Int) → dp < 24 → ¬ a < 2 ^ k' := by
      intro k' hk' e1 e2 e3
      have : k' = k := by omega
      subst this
      have := hz.mpr e3
      omega
    refine wz_iconst d141_56 ?_
    refine wp_istore d141_57 (Nat.le_of_ble_eq_true rfl) rfl ?_
    refine wp_iload d141_59 rfl ?_
    refine wz_if_ne (t := 66) d141_61 (by decide) ⟨by omega, by omega⟩ (fun hb => absurd (by decide) hb) (fun _ => ?_)
    refine wz_iconst d141_64 ?_
    exact wp_ret d141_65 rfl (h0 no)
  have hlt : a < 2 ^ k := hz.mp (by omega)
  refine wz_iconst d141_52 ?_
  refine wp_goto (t := 57) d141_53 (by decide) ?_
  refine wp_istore d141_57 (Nat.le_of_ble_eq_true rfl) rfl ?_
  refine wp_iload d141_59 rfl ?_
  refine wz_if_ne (t := 66) d141_61 (by decide) ⟨by omega, by omega⟩ (fun _ => ?_) (fun hb => absurd hb (by decide))
  refine wp_aload_n d141_66 rfl ?_
  refine wp_getR (q := 60) d141_67 rfl (hG.o (by decide) rfl) (by decide) (hG.r (by decide +kernel)) (by decide) ?_
  refine wp_iload d141_70 rfl ?_
  refine wp_aload_n d141_72 rfl ?_
  refine wp_getR (q := 60) d141_73 rfl (hG.o (by decide) rfl) (by decide) (hG.r (by decide +kernel)) (by decide) ?_
  refine wp_iload d141_76 rfl ?_
  refine wz_iald (z := 128) (v := (a : Int)) d141_78 (hG.a (by decide) rfl rfl) (by omega) (by omega) (by decide) (har) ?_
  refine wz_iconst d141_79 ?_
  refine wp_iload_n d141_80 rfl ?_
  refine wz_bipush d141_81 (by decide) ?_
  refine wz_isub d141_83 ?_
  rw [show 120 + (k : Int) - 120 = (k : Int) by omega]
  refine wz_ishl d141_84 (by omega) (by omega) (by omega) (by omega) ?_
  refine wz_ior d141_85 (by first | omega | exact Int.natCast_nonneg _) (by first | omega | exact Int.natCast_nonneg _) ?_
  have em : ((((a : Int) : Int).toNat ||| ((((1 : Int).toNat * 2 ^ ((k : Int) : Int).toNat : Nat) : Int) : Int).toNat : Nat) : Int) = ((a + 2 ^ k : Nat) : Int) := by
    rw [← or_pow k hk3 a ha hlt, Int.toNat_natCast, Int.toNat_natCast, Int.toNat_natCast]
    show (((a ||| (1 * 2 ^ k) : Nat)) : Int) = _
    rw [Nat.one_mul]
  rw [em]
  have h15 : a + 2 ^ k ≤ 15 := by
    rcases (show k = 0 ∨ k = 1 ∨ k = 2 by omega) with rfl | rfl | rfl <;> omega
  generalize hpw : 2 ^ k = pw at *
  refine wz_iast (z := 128) d141_86 (hG.a (by decide) rfl rfl) (by omega) (by omega) (by decide) ?_
  have fr1 : ∀ c, MFr m sc c N (mset N 60 (m : Int) ((a + pw : Nat) : Int)) := fun c => (MFr.refl N).set (by unfold WMr; omega)
  have bo1 : LBo m N (mset N 60 (m : Int) ((a + pw : Nat) : Int)) := fun q i h1 _ _ => by unfold mset; rw [if_neg h1]
  have r1 : ∀ p i, R32 (mset N 60 (m : Int) ((a + pw : Nat) : Int) p i) := mset_R32 g1 ⟨by omega, by omega⟩
  have e1 : mset N 60 (m : Int) ((a + pw : Nat) : Int) 56 16 = (l.length : Int) := by rw [mset_p _ _ _ _ (by decide)]; exact g6
  have x1 : EX (mset N 60 (m : Int) ((a + pw : Nat) : Int)) l := EX.same (fr1 l.length) (Nat.le_refl _) g7
  have v1 : mset N 60 (m : Int) ((a + pw : Nat) : Int) 60 (m : Int) = ((a + pw : Nat) : Int) := mset_s _ _ _ _
  have u5 : mset N 60 (m : Int) ((a + pw : Nat) : Int) 56 5 = (nd : Int) := by rw [mset_p _ _ _ _ (by decide)]; exact g4
  have u11 : mset N 60 (m : Int) ((a + pw : Nat) : Int) 56 11 = (sc : Int) := by rw [mset_p _ _ _ _ (by decide)]; exact g5
  generalize mset N 60 (m : Int) ((a + pw : Nat) : Int) = N1 at *
  refine wp_aload_n d141_87 rfl ?_
  refine wp_iload d141_88 rfl ?_
  refine wz_if_eq (t := 99) d141_90 (by decide) ⟨by omega, by omega⟩ (fun _ => ?_) (fun hb => absurd (by decide) hb)
  refine wz_sipush d141_99 (by decide) ?_
  refine wp_iload_n d141_102 rfl ?_
  refine wp_iload_n d141_103 rfl ?_
  refine wp_iload d141_104 rfl ?_
  refine wp_virt (as := [.int (zI (m : Int)), .int (zI s), .int (zI dp), .int (zI 206)]) (rest := []) d141_106 rfl rfl rfl (hG.o (by decide) rfl) rfl rfl (Nat.le_of_ble_eq_true rfl) ?_
  refine m_expectE (nd := m) (sc := sc) (l := l) hG r1 e1 (by first | omega | (simp only [List.length_cons]; omega)) x1 ⟨by omega, by omega⟩ ⟨by omega, by omega⟩ ⟨by omega, by omega⟩ ⟨by omega, by omega⟩ (fun N2 f2 b52 b112 e2 x2 bo2 r2 => ?_)
  refine wp_aload_n d141_109 rfl ?_
  refine wp_iload d141_110 rfl ?_
  refine wz_if_eq (t := 121) d141_112 (by decide) ⟨by omega, by omega⟩ (fun _ => ?_) (fun hb => absurd (by decide) hb)
  refine wz_sipush d141_121 (by decide) ?_
  refine wp_iload_n d141_124 rfl ?_
  refine wz_iconst d141_125 ?_
  refine wz_iadd d141_126 ?_
  refine wp_iload_n d141_127 rfl ?_
  refine wp_iload d141_128 rfl ?_
  refine wp_virt (as := [.int (zI (m : Int)), .int (zI s), .int (zI (dp + 1)), .int (zI 200)]) (rest := []) d141_130 rfl rfl rfl (hG.o (by decide) rfl) rfl rfl (Nat.le_of_ble_eq_true rfl) ?_
  refine m_expectE (nd := m) (sc := sc) (l := ((206, dp, s, (m : Int)) :: l)) hG r2 e2 (by first | omega | (simp only [List.length_cons]; omega)) x2 ⟨by omega, by omega⟩ ⟨by omega, by omega⟩ ⟨by omega, by omega⟩ ⟨by omega, by omega⟩ (fun N3 f3 b53 b113 e3 x3 bo3 r3 => ?_)
  refine wp_iload d141_133 rfl ?_
  refine wz_if_eq (t := 148) d141_135 (by decide) ⟨by omega, by omega⟩ (fun _ => ?_) (fun hb => absurd (by decide) hb)
  refine wz_iconst d141_148 ?_
  have fr : MFr m sc l.length N N3 := (((fr1 l.length).trans (f2.low (Nat.le_refl _) (Nat.le_refl _) (by first | omega | (simp only [List.length_cons]; omega)))).trans (f3.low (Nat.le_refl _) (Nat.le_refl _) (by first | omega | (simp only [List.length_cons]; omega))))
  exact wp_ret d141_149 rfl (h1 k hk3 rfl (by omega) (by rw [hpw]; exact hlt) N3 ⟨r3, MT.same fr g2, g3, (b53.trans (b52.trans u5)), (b113.trans (b112.trans u11)), e3, x3, g8, g9, g10, g11⟩ (by rw [hpw]; exact ((bo3 60 _ (by decide) (by decide)).trans ((bo2 60 _ (by decide) (by decide)).trans v1))) (fun q j h1 h2 h3 => ((bo3 q j h2 h3).trans ((bo2 q j h2 h3).trans (bo1 q j h1 h2 h3)))) fr)
set_option maxHeartbeats 1000000 in
theorem m_labelM {c dp s : Int} {m a : Nat} (hG : pm_G Rf K L n) (h : MS tx ln N p nd sc l) (hl : l.length < 200) (hs : -1 ≤ s ∧ s < 128) (hdp : 0 ≤ dp ∧ dp ≤ 24) (rc : 0 ≤ c ∧ c ≤ 200) (hm : m < 128) (hop : N 59 (m : Int) = 10) (har : N 60 (m : Int) = (a : Int)) (ha : a < 8) (h1 : ∀ k : Nat, k < 3 → c = 120 + (k : Int) → dp < 24 → a < 2 ^ k → ∀ N' : pm_M, MS tx ln N' p nd sc ((61, dp, s, (m : Int)) :: (201, dp + 1, s, (m : Int)) :: (207, dp, s, (m : Int)) :: l) → N' 60 (m : Int) = ((a + 2 ^ k : Nat) : Int) → LBo m N N' → MFr m sc l.length N N' → Q (some (.int (zI 1))) (zM N', Rf, K, L, n, s0)) (h0 : (∀ k : Nat, k < 3 → c = 120 + (k : Int) → dp < 24 → ¬ a < 2 ^ k) → Q (some (.int (zI 0))) (zM N, Rf, K, L, n, s0)) : pm_Wc (d + 2) 141 [.ref 56, .int (zI c), .int (zI dp), .int (zI s), .int (zI (m : Int))] (zM N, Rf, K, L, n, s0) Q := by
  obtain ⟨g1, g2, g3, g4, g5, g6, g7, g8, g9, g10, g11⟩ := h
  refine wc_in (ls0 := [some (.ref 56), some (.int (zI c)), some (.int (zI dp)), some (.int (zI s)), some (.int (zI (m : Int))), none, none]) (by decide) (Nat.le_of_ble_eq_true rfl) rfl rfl ?_
  refine wp_aload_n d141_0 rfl ?_
  refine wp_getR (q := 59) d141_1 rfl (hG.o (by decide) rfl) (by decide) (hG.r (by decide +kernel)) (by decide) ?_
  refine wp_iload d141_4 rfl ?_
  refine wz_iald (z := 128) (v := 10) d141_6 (hG.a (by decide) rfl rfl) (by omega) (by omega) (by decide) (hop) ?_
  refine wz_bipush d141_7 (by decide) ?_
  refine wz_icmp_ne (t := 16) d141_9 (by decide) ⟨by omega, by omega⟩ ⟨by omega, by omega⟩ (fun hb => absurd (by decide) hb) (fun _ => ?_)
  refine wz_iconst d141_12 ?_
  refine wp_goto (t := 17) d141_13 (by decide) ?_
  refine wp_istore d141_17 (Nat.le_of_ble_eq_true rfl) rfl ?_
  refine wp_iload_n d141_19 rfl ?_
  refine wz_bipush d141_20 (by decide) ?_
  refine wz_icmp_lt (t := 56) d141_22 (by decide) ⟨by omega, by omega⟩ ⟨by omega, by omega⟩ (fun c1 => ?_) (fun c1 => ?_)
  · skip
    refine wz_iconst d141_56 ?_
    refine wp_istore d141_57 (Nat.le_of_ble_eq_true rfl) rfl ?_
    refine wp_iload d141_59 rfl ?_
    refine wz_if_ne (t := 66) d141_61 (by decide) ⟨by omega, by omega⟩ (fun hb => absurd (by decide) hb) (fun _ => ?_)
    refine wz_iconst d141_64 ?_
    exact wp_ret d141_65 rfl (h0 (fun k hk e1 e2 => by omega))
  refine wp_iload_n d141_25 rfl ?_
  refine wz_bipush d141_26 (by decide) ?_
  refine wz_icmp_gt (t := 56) d141_28 (by decide) ⟨by omega, by omega⟩ ⟨by omega, by omega⟩ (fun c2 => ?_) (fun c2 => ?_)
  · skip
    refine wz_iconst d141_56 ?_
    refine wp_istore d141_57 (Nat.le_of_ble_eq_true rfl) rfl ?_
    refine wp_iload d141_59 rfl ?_
    refine wz_if_ne (t := 66) d141_61 (by decide) ⟨by omega, by omega⟩ (fun hb => absurd (by decide) hb) (fun _ => ?_)
    refine wz_iconst d141_64 ?_
    exact wp_ret d141_65 rfl (h0 (fun k hk e1 e2 => by omega))
  refine wp_iload_n d141_31 rfl ?_
  refine wz_bipush d141_32 (by decide) ?_
  refine wz_icmp_ge (t := 56) d141_34 (by decide) ⟨by omega, by omega⟩ ⟨by omega, by omega⟩ (fun c3 => ?_) (fun c3 => ?_)
  · skip
    refine wz_iconst d141_56 ?_
    refine wp_istore d141_57 (Nat.le_of_ble_eq_true rfl) rfl ?_
    refine wp_iload d141_59 rfl ?_
    refine wz_if_ne (t := 66) d141_61 (by decide) ⟨by omega, by omega⟩ (fun hb => absurd (by decide) hb) (fun _ => ?_)
    refine wz_iconst d141_64 ?_
    exact wp_ret d141_65 rfl (h0 (fun k hk e1 e2 => by omega))
  obtain ⟨k, hk⟩ : ∃ k : Nat, c = 120 + (k : Int) := ⟨(c - 120).toNat, by omega⟩
  subst hk
  have hk3 : k < 3 := by omega
  refine wp_aload_n d141_37 rfl ?_
  refine wp_getR (q := 60) d141_38 rfl (hG.o (by decide) rfl) (by decide) (hG.r (by decide +kernel)) (by decide) ?_
  refine wp_iload d141_41 rfl ?_
  refine wz_iald (z := 128) (v := (a : Int)) d141_43 (hG.a (by decide) rfl rfl) (by omega) (by omega) (by decide) (har) ?_
  refine wp_iload_n d141_44 rfl ?_
  refine wz_bipush d141_45 (by decide) ?_
  refine wz_isub d141_47 ?_
  rw [show 120 + (k : Int) - 120 = (k : Int) by omega]
  refine wz_ishr d141_48 (by omega) (by omega) (by omega) (by omega) ?_
  rw [Int.toNat_natCast, Int.toNat_natCast]
  have hz := shr_zero k hk3 a ha
  have hq : a / 2 ^ k ≤ a := Nat.div_le_self _ _
  generalize a / 2 ^ k = q0 at hz hq
  refine wz_if_ne (t := 56) d141_49 (by decide) ⟨by omega, by omega⟩ (fun c4 => ?_) (fun c4 => ?_)
  · skip
    have no : ∀ k' : Nat, k' < 3 → (120 : Int) + (k : Int) = 120 + (k' : Int) → dp < 24 → ¬ a < 2 ^ k' := by
      intro k' hk' e1 e2 e3
      have : k' = k := by omega
      subst this
      have := hz.mpr e3
      omega
    refine wz_iconst d141_56 ?_
    refine wp_istore d141_57 (Nat.le_of_ble_eq_true rfl) rfl ?_
    refine wp_iload d141_59 rfl ?_
    refine wz_if_ne (t := 66) d141_61 (by decide) ⟨by omega, by omega⟩ (fun hb => absurd (by decide) hb) (fun _ => ?_)
    refine wz_iconst d141_64 ?_
    exact wp_ret d141_65 rfl (h0 no)
  have hlt : a < 2 ^ k := hz.mp (by omega)
  refine wz_iconst d141_52 ?_
  refine wp_goto (t := 57) d141_53 (by decide) ?_
  refine wp_istore d141_57 (Nat.le_of_ble_eq_true rfl) rfl ?_
  refine wp_iload d141_59 rfl ?_
  refine wz_if_ne (t := 66) d141_61 (by decide) ⟨by omega, by omega⟩ (fun _ => ?_) (fun hb => absurd hb (by decide))
  refine wp_aload_n d141_66 rfl ?_
  refine wp_getR (q := 60) d141_67 rfl (hG.o (by decide) rfl) (by decide) (hG.r (by decide +kernel)) (by decide) ?_
  refine wp_iload d141_70 rfl ?_
  refine wp_aload_n d141_72 rfl ?_
  refine wp_getR (q := 60) d141_73 rfl (hG.o (by decide) rfl) (by decide) (hG.r (by decide +kernel)) (by decide) ?_
  refine wp_iload d141_76 rfl ?_
  refine wz_iald (z := 128) (v := (a : Int)) d141_78 (hG.a (by decide) rfl rfl) (by omega) (by omega) (by decide) (har) ?_
  refine wz_iconst d141_79 ?_
  refine wp_iload_n d141_80 rfl ?_
  refine wz_bipush d141_81 (by decide) ?_
  refine wz_isub d141_83 ?_
  rw [show 120 + (k : Int) - 120 = (k : Int) by omega]
  refine wz_ishl d141_84 (by omega) (by omega) (by omega) (by omega) ?_
  refine wz_ior d141_85 (by first | omega | exact Int.natCast_nonneg _) (by first | omega | exact Int.natCast_nonneg _) ?_
  have em : ((((a : Int) : Int).toNat ||| ((((1 : Int).toNat * 2 ^ ((k : Int) : Int).toNat : Nat) : Int) : Int).toNat : Nat) : Int) = ((a + 2 ^ k : Nat) : Int) := by
    rw [← or_pow k hk3 a ha hlt, Int.toNat_natCast, Int.toNat_natCast, Int.toNat_natCast]
    show (((a ||| (1 * 2 ^ k) : Nat)) : Int) = _
    rw [Nat.one_mul]
  rw [em]
  have h15 : a + 2 ^ k ≤ 15 := by
    rcases (show k = 0 ∨ k = 1 ∨ k = 2 by omega) with rfl | rfl | rfl <;> omega
  generalize hpw : 2 ^ k = pw at *
  refine wz_iast (z := 128) d141_86 (hG.a (by decide) rfl rfl) (by omega) (by omega) (by decide) ?_
  have fr1 : ∀ c, MFr m sc c N (mset N 60 (m : Int) ((a + pw : Nat) : Int)) := fun c => (MFr.refl N).set (by unfold WMr; omega)
  have bo1 : LBo m N (mset N 60 (m : Int) ((a + pw : Nat) : Int)) := fun q i h1 _ _ => by unfold mset; rw [if_neg h1]
  have r1 : ∀ p i, R32 (mset N 60 (m : Int) ((a + pw : Nat) : Int) p i) := mset_R32 g1 ⟨by omega, by omega⟩
  have e1 : mset N 60 (m : Int) ((a + pw : Nat) : Int) 56 16 = (l.length : Int) := by rw [mset_p _ _ _ _ (by decide)]; exact g6
  have x1 : EX (mset N 60 (m : Int) ((a + pw : Nat) : Int)) l := EX.same (fr1 l.length) (Nat.le_refl _) g7
  have v1 : mset N 60 (m : Int) ((a + pw : Nat) : Int) 60 (m : Int) = ((a + pw : Nat) : Int) := mset_s _ _ _ _
  have u5 : mset N 60 (m : Int) ((a + pw : Nat) : Int) 56 5 = (nd : Int) := by rw [mset_p _ _ _ _ (by decide)]; exact g4
  have u11 : mset N 60 (m : Int) ((a + pw : Nat) : Int) 56 11 = (sc : Int) := by rw [mset_p _ _ _ _ (by decide)]; exact g5
  generalize mset N 60 (m : Int) ((a + pw : Nat) : Int) = N1 at *
  refine wp_aload_n d141_87 rfl ?_
  refine wp_iload d141_88 rfl ?_
  refine wz_if_eq (t := 99) d141_90 (by decide) ⟨by omega, by omega⟩ (fun hb => absurd hb (by decide)) (fun _ => ?_)
  refine wz_sipush d141_93 (by decide) ?_
  refine wp_goto (t := 102) d141_96 (by decide) ?_
  refine wp_iload_n d141_102 rfl ?_
  refine wp_iload_n d141_103 rfl ?_
  refine wp_iload d141_104 rfl ?_
  refine wp_virt (as := [.int (zI (m : Int)), .int (zI s), .int (zI dp), .int (zI 207)]) (rest := []) d141_106 rfl rfl rfl (hG.o (by decide) rfl) rfl rfl (Nat.le_of_ble_eq_true rfl) ?_
  refine m_expectE (nd := m) (sc := sc) (l := l) hG r1 e1 (by first | omega | (simp only [List.length_cons]; omega)) x1 ⟨by omega, by omega⟩ ⟨by omega, by omega⟩ ⟨by omega, by omega⟩ ⟨by omega, by omega⟩ (fun N2 f2 b52 b112 e2 x2 bo2 r2 => ?_)
  refine wp_aload_n d141_109 rfl ?_
  refine wp_iload d141_110 rfl ?_
  refine wz_if_eq (t := 121) d141_112 (by decide) ⟨by omega, by omega⟩ (fun hb => absurd hb (by decide)) (fun _ => ?_)
  refine wz_sipush d141_115 (by decide) ?_
  refine wp_goto (t := 124) d141_118 (by decide) ?_
  refine wp_iload_n d141_124 rfl ?_
  refine wz_iconst d141_125 ?_
  refine wz_iadd d141_126 ?_
  refine wp_iload_n d141_127 rfl ?_
  refine wp_iload d141_128 rfl ?_
  refine wp_virt (as := [.int (zI (m : Int)), .int (zI s), .int (zI (dp + 1)), .int (zI 201)]) (rest := []) d141_130 rfl rfl rfl (hG.o (by decide) rfl) rfl rfl (Nat.le_of_ble_eq_true rfl) ?_
  refine m_expectE (nd := m) (sc := sc) (l := ((207, dp, s, (m : Int)) :: l)) hG r2 e2 (by first | omega | (simp only [List.length_cons]; omega)) x2 ⟨by omega, by omega⟩ ⟨by omega, by omega⟩ ⟨by omega, by omega⟩ ⟨by omega, by omega⟩ (fun N3 f3 b53 b113 e3 x3 bo3 r3 => ?_)
  refine wp_iload d141_133 rfl ?_
  refine wz_if_eq (t := 148) d141_135 (by decide) ⟨by omega, by omega⟩ (fun hb => absurd hb (by decide)) (fun _ => ?_)
  refine wp_aload_n d141_138 rfl ?_
  refine wz_bipush d141_139 (by decide) ?_
  refine wp_iload_n d141_141 rfl ?_
  refine wp_iload_n d141_142 rfl ?_
  refine wp_iload d141_143 rfl ?_
  refine wp_virt (as := [.int (zI (m : Int)), .int (zI s), .int (zI dp), .int (zI 61)]) (rest := []) d141_145 rfl rfl rfl (hG.o (by decide) rfl) rfl rfl (Nat.le_of_ble_eq_true rfl) ?_
  refine m_expectE (nd := m) (sc := sc) (l := ((201, dp + 1, s, (m : Int)) :: ((207, dp, s, (m : Int)) :: l))) hG r3 e3 (by first | omega | (simp only [List.length_cons]; omega)) x3 ⟨by omega, by omega⟩ ⟨by omega, by omega⟩ ⟨by omega, by omega⟩ ⟨by omega, by omega⟩ (fun N4 f4 b54 b114 e4 x4 bo4 r4 => ?_)
  refine wz_iconst d141_148 ?_
  have fr : MFr m sc l.length N N4 := ((((fr1 l.length).trans (f2.low (Nat.le_refl _) (Nat.le_refl _) (by first | omega | (simp only [List.length_cons]; omega)))).trans (f3.low (Nat.le_refl _) (Nat.le_refl _) (by first | omega | (simp only [List.length_cons]; omega)))).trans (f4.low (Nat.le_refl _) (Nat.le_refl _) (by first | omega | (simp only [List.length_cons]; omega))))
  exact wp_ret d141_149 rfl (h1 k hk3 rfl (by omega) (by rw [hpw]; exact hlt) N4 ⟨r4, MT.same fr g2, g3, (b54.trans (b53.trans (b52.trans u5))), (b114.trans (b113.trans (b112.trans u11))), e4, x4, g8, g9, g10, g11⟩ (by rw [hpw]; exact ((bo4 60 _ (by decide) (by decide)).trans ((bo3 60 _ (by decide) (by decide)).trans ((bo2 60 _ (by decide) (by decide)).trans v1)))) (fun q j h1 h2 h3 => ((bo4 q j h2 h3).trans ((bo3 q j h2 h3).trans ((bo2 q j h2 h3).trans (bo1 q j h1 h2 h3))))) fr)
end PmM31
