/-! CALLS ON FRESH OBJECTS: type, charAt, readType, readTerm; the claim p1 of the picture machine. -/
section PmP2
variable {d : Nat} {Q : Option Value → pm_S → Prop} {I : Nat → Nat → Int32} {Rf : Nat → Nat → Nat} {K L : Nat → Nat} {n s : Nat}
theorem pm_in60 {ln : Int32} (hb : vp_in ln 61) (h : ln < 60 ∨ ¬ ln = 60) : vp_in ln 60 := by
  obtain ⟨j, hj, rfl⟩ := vp_in_of hb (by decide)
  refine vp_in_nI ?_ (by decide)
  rcases h with h | h
  · exact (nI_ltI (by omega) (by decide)).mp (show nI j < nI 60 from h)
  · have : ¬ j = 60 := fun e => h (by rw [e]; rfl)
    omega
set_option maxRecDepth 20000 in
theorem x_type {c ln : Int32} (hG : pm_G Rf K L n) (hl : I 1 8 = ln) (hb : vp_in ln 61) (h0 : (c < 32 ∨ 126 < c ∨ ¬ ln < 60) → Q (some (.int 0)) (I, Rf, K, L, n, s)) (h1 : ¬ c < 32 → ¬ 126 < c → ln < 60 → Q (some (.int 1)) (pm_u (pm_u I 2 (upd (I 2) ln.toNatClampNeg (vp_nar .char c))) 1 (upd (pm_u I 2 (upd (I 2) ln.toNatClampNeg (vp_nar .char c)) 1) 8 (ln + 1)), Rf, K, L, n, s)) : pm_Wc (d + 1) 1 [.ref 1, .int c] (I, Rf, K, L, n, s) Q := by
  refine wc_in (ls0 := [some (.ref 1), some (.int c)]) (by decide) (Nat.le_of_ble_eq_true rfl) rfl rfl ?_
  refine wp_iload_n d1_0 rfl ?_
  refine wp_bipush (v := 32) d1_1 (by decide) ?_
  refine wp_icmp_lt (t := 21) d1_3 (by decide) (fun hb1 => ?_) (fun hb1 => ?_)
  · refine wp_iconst (v := 0) d1_21 (by decide) ?_
    exact wp_ret d1_22 (by decide +kernel) (h0 (Or.inl hb1))
  refine wp_iload_n d1_6 rfl ?_
  refine wp_bipush (v := 126) d1_7 (by decide) ?_
  refine wp_icmp_gt (t := 21) d1_9 (by decide) (fun hb2 => ?_) (fun hb2 => ?_)
  · refine wp_iconst (v := 0) d1_21 (by decide) ?_
    exact wp_ret d1_22 (by decide +kernel) (h0 (Or.inr (Or.inl hb2)))
  refine wp_aload_n d1_12 rfl ?_
  refine wp_getIv (v := ln) d1_13 rfl (hG.o (by decide) rfl) (by decide) hl ?_
  refine wp_bipush (v := 60) d1_16 (by decide) ?_
  refine wp_icmp_lt (t := 23) d1_18 (by decide) (fun hb3 => ?_) (fun hb3 => ?_)
  · refine wp_aload_n d1_23 rfl ?_
    refine wp_getR (q := 2) d1_24 rfl (hG.o (by decide) rfl) (by decide) (hG.r (by decide +kernel)) (by decide) ?_
    refine wp_aload_n d1_27 rfl ?_
    refine wp_getIv (v := ln) d1_28 rfl (hG.o (by decide) rfl) (by decide) hl ?_
    refine wp_iload_n d1_31 rfl ?_
    refine wp_cast d1_32 (hG.a (by decide) rfl rfl) (pm_in60 hb (Or.inl hb3)) ?_
    refine wp_aload_n d1_33 rfl ?_
    refine wp_dupr d1_34 ?_
    refine wp_getIv (v := ln) d1_35 rfl (hG.o (by decide) rfl) (by decide) (by rw [pm_un _ _ (by decide)]; exact hl) ?_
    refine wp_iconst (v := 1) d1_38 (by decide) ?_
    refine wp_iadd d1_39 ?_
    refine wp_putI d1_40 rfl (hG.o (by decide) rfl) rfl (by decide) ?_
    refine wp_iconst (v := 1) d1_43 (by decide) ?_
    exact wp_ret d1_44 (by decide +kernel) (h1 hb1 hb2 hb3)
  · refine wp_iconst (v := 0) d1_21 (by decide) ?_
    exact wp_ret d1_22 (by decide +kernel) (h0 (Or.inr (Or.inr hb3)))
set_option maxRecDepth 20000 in
theorem m_type {c ln : Int32} (hG : pm_G Rf K L n) (hl : I 56 0 = ln) (hb : vp_in ln 61) (h0 : (c < 32 ∨ 126 < c ∨ ¬ ¬ ln = 60) → Q (some (.int 0)) (I, Rf, K, L, n, s)) (h1 : ¬ c < 32 → ¬ 126 < c → ¬ ln = 60 → Q (some (.int 1)) (pm_u (pm_u I 57 (upd (I 57) ln.toNatClampNeg c)) 56 (upd (pm_u I 57 (upd (I 57) ln.toNatClampNeg c) 56) 0 (ln + 1)), Rf, K, L, n, s)) : pm_Wc (d + 1) 135 [.ref 56, .int c] (I, Rf, K, L, n, s) Q := by
  refine wc_in (ls0 := [some (.ref 56), some (.int c)]) (by decide) (Nat.le_of_ble_eq_true rfl) rfl rfl ?_
  refine wp_iload_n d135_0 rfl ?_
  refine wp_bipush (v := 32) d135_1 (by decide) ?_
  refine wp_icmp_lt (t := 21) d135_3 (by decide) (fun hb1 => ?_) (fun hb1 => ?_)
  · refine wp_iconst (v := 0) d135_21 (by decide) ?_
    exact wp_ret d135_22 (by decide +kernel) (h0 (Or.inl hb1))
  refine wp_iload_n d135_6 rfl ?_
  refine wp_bipush (v := 126) d135_7 (by decide) ?_
  refine wp_icmp_gt (t := 21) d135_9 (by decide) (fun hb2 => ?_) (fun hb2 => ?_)
  · refine wp_iconst (v := 0) d135_21 (by decide) ?_
    exact wp_ret d135_22 (by decide +kernel) (h0 (Or.inr (Or.inl hb2)))
  refine wp_aload_n d135_12 rfl ?_
  refine wp_getIv (v := ln) d135_13 rfl (hG.o (by decide) rfl) (by decide) hl ?_
  refine wp_bipush (v := 60) d135_16 (by decide) ?_
  refine wp_icmp_ne (t := 23) d135_18 (by decide) (fun hb3 => ?_) (fun hb3 => ?_)
  · refine wp_aload_n d135_23 rfl ?_
    refine wp_getR (q := 57) d135_24 rfl (hG.o (by decide) rfl) (by decide) (hG.r (by decide +kernel)) (by decide) ?_
    refine wp_aload_n d135_27 rfl ?_
    refine wp_getIv (v := ln) d135_28 rfl (hG.o (by decide) rfl) (by decide) hl ?_
    refine wp_iload_n d135_31 rfl ?_
    refine wp_iast d135_32 (hG.a (by decide) rfl rfl) (pm_in60 hb (Or.inr hb3)) ?_
    refine wp_aload_n d135_33 rfl ?_
    refine wp_dupr d135_34 ?_
    refine wp_getIv (v := ln) d135_35 rfl (hG.o (by decide) rfl) (by decide) (by rw [pm_un _ _ (by decide)]; exact hl) ?_
    refine wp_iconst (v := 1) d135_38 (by decide) ?_
    refine wp_iadd d135_39 ?_
    refine wp_putI d135_40 rfl (hG.o (by decide) rfl) rfl (by decide) ?_
    refine wp_iconst (v := 1) d135_43 (by decide) ?_
    exact wp_ret d135_44 (by decide +kernel) (h1 hb1 hb2 hb3)
  · refine wp_iconst (v := 0) d135_21 (by decide) ?_
    exact wp_ret d135_22 (by decide +kernel) (h0 (Or.inr (Or.inr (fun q => q hb3))))
set_option maxRecDepth 20000 in
theorem xf_charAt {a : Int32} (hF : pm_Fresh (I, Rf, K, L, n, s)) (h : Q (some (.int (-1))) (I, Rf, K, L, n, s)) : pm_Wc (d + 1) 10 [.ref 1, .int a] (I, Rf, K, L, n, s) Q := by
  have hG : pm_G Rf K L n := hF.1
  refine wc_in (ls0 := [some (.ref 1), some (.int a)]) (by decide) (Nat.le_of_ble_eq_true rfl) rfl rfl ?_
  refine wp_iload_n d10_0 rfl ?_
  refine wp_if_lt (t := 27) d10_1 (by decide) (fun hb1 => ?_) (fun hb1 => ?_)
  · refine wp_iconst (v := (-1)) d10_27 (by decide) ?_
    exact wp_ret d10_28 (by decide +kernel) h
  refine wp_iload_n d10_4 rfl ?_
  refine wp_aload_n d10_5 rfl ?_
  refine wp_getR (q := 13) d10_6 rfl (hG.o (by decide) rfl) (by decide) (hG.r (by decide +kernel)) (by decide) ?_
  refine wp_getIv (v := 0) d10_9 rfl (hG.o (by decide) rfl) (by decide) (hF.2.2.2.2 (13, 2, 0) (by decide +kernel)) ?_
  refine wp_icmp_ge (t := 27) d10_12 (by decide) (fun _ => ?_) (fun hb2 => absurd (Int32.not_lt.mp hb1) hb2)
  refine wp_iconst (v := (-1)) d10_27 (by decide) ?_
  exact wp_ret d10_28 (by decide +kernel) h
set_option maxRecDepth 20000 in
theorem mf_charAt {a : Int32} (hF : pm_Fresh (I, Rf, K, L, n, s)) (h : Q (some (.int (-1))) (I, Rf, K, L, n, s)) : pm_Wc (d + 1) 186 [.ref 56, .int a] (I, Rf, K, L, n, s) Q := by
  have hG : pm_G Rf K L n := hF.1
  refine wc_in (ls0 := [some (.ref 56), some (.int a)]) (by decide) (Nat.le_of_ble_eq_true rfl) rfl rfl ?_
  refine wp_iload_n d186_0 rfl ?_
  refine wp_if_lt (t := 12) d186_1 (by decide) (fun hb1 => ?_) (fun hb1 => ?_)
  · refine wp_iconst (v := (-1)) d186_12 (by decide) ?_
    refine wp_goto (t := 22) d186_13 (by decide) ?_
    exact wp_ret d186_22 (by decide +kernel) h
  refine wp_iload_n d186_4 rfl ?_
  refine wp_aload_n d186_5 rfl ?_
  refine wp_getIv (v := 0) d186_6 rfl (hG.o (by decide) rfl) (by decide) (hF.2.2.2.2 (56, 2, 0) (by decide +kernel)) ?_
  refine wp_icmp_lt (t := 16) d186_9 (by decide) (fun hb2 => absurd hb2 hb1) (fun _ => ?_)
  refine wp_iconst (v := (-1)) d186_12 (by decide) ?_
  refine wp_goto (t := 22) d186_13 (by decide) ?_
  exact wp_ret d186_22 (by decide +kernel) h
set_option maxRecDepth 20000 in
theorem xf_readType0 {v : Int32} (hF : pm_Fresh (I, Rf, K, L, n, s)) (hv : ¬ (0 ≤ v ∧ v < 4)) (h : Q (some (.int (-2))) (I, Rf, K, L, n, s)) : pm_Wc (d + 2) 2 [.ref 1, .int v] (I, Rf, K, L, n, s) Q := by
  have hG : pm_G Rf K L n := hF.1
  refine wc_in (ls0 := [some (.ref 1), some (.int v), none]) (by decide) (Nat.le_of_ble_eq_true rfl) rfl rfl ?_
  refine wp_iload_n d2_0 rfl ?_
  refine wp_stat (as := [.int v]) (rest := []) d2_1 rfl rfl rfl rfl rfl (Nat.le_of_ble_eq_true rfl) ?_
  refine xf_isSlot (fun q1 q2 => absurd ⟨q1, q2⟩ hv) (fun _ => ?_)
  refine wp_if_ne (t := 10) d2_4 (by decide) (fun h => absurd (by decide +kernel) h) (fun _ => ?_)
  refine wp_bipush (v := (-2)) d2_7 (by decide) ?_
  exact wp_ret d2_9 (by decide +kernel) h
set_option maxRecDepth 20000 in
theorem mf_readType0 {v : Int32} (hF : pm_Fresh (I, Rf, K, L, n, s)) (hv : ¬ (0 ≤ v ∧ v ≤ 3)) (h : Q (some (.int (-2))) (I, Rf, K, L, n, s)) : pm_Wc (d + 2) 173 [.ref 56, .int v] (I, Rf, K, L, n, s) Q := by
  have hG : pm_G Rf K L n := hF.1
  refine wc_in (ls0 := [some (.ref 56), some (.int v), none]) (by decide) (Nat.le_of_ble_eq_true rfl) rfl rfl ?_
  refine wp_aload_n d173_0 rfl ?_
  refine wp_iload_n d173_1 rfl ?_
  refine wp_virt (as := [.int v]) (rest := []) d173_2 rfl rfl rfl (hG.o (by decide) rfl) rfl rfl (Nat.le_of_ble_eq_true rfl) ?_
  refine mf_isSlot (fun q1 q2 => absurd ⟨q1, q2⟩ hv) (fun _ => ?_)
  refine wp_if_ne (t := 11) d173_5 (by decide) (fun h => absurd (by decide +kernel) h) (fun _ => ?_)
  refine wp_bipush (v := (-2)) d173_8 (by decide) ?_
  exact wp_ret d173_10 (by decide +kernel) h
end PmP2
