/-! THE CLASS: nodes of types are made. -/
theorem RmI.ne {Rf : Nat → Nat → Nat} {K L : Nat → Nat} {n z f g : Nat} (h : RmI Rf K L n z) (hf : f < 5) (hg : g < 5) (hn : f ≠ g) : Rf 6 f ≠ Rf 6 g := fun e => hn (h.2.2.1 f g hf hg e)
theorem RmI.ne6 {Rf : Nat → Nat → Nat} {K L : Nat → Nat} {n z f : Nat} (h : RmI Rf K L n z) (hf : f < 5) : Rf 6 f ≠ 6 := by
  have := h.2.1 f hf
  omega
theorem RmI.ne12 {Rf : Nat → Nat → Nat} {K L : Nat → Nat} {n z f : Nat} (h : RmI Rf K L n z) (hf : f < 5) : Rf 6 f ≠ 12 := by
  have := h.2.1 f hf
  omega
section PmC2
variable {d : Nat} {Q : Option Value → pm_S → Prop} {M N : pm_M} {Rf : Nat → Nat → Nat} {K L : Nat → Nat} {n s : Nat}
theorem c_holds {c i : Nat} (hc : c < 1000000) (hi : i < 3) (h1 : bit c i = true → Q (some (.int (zI 1))) (zM M, Rf, K, L, n, s)) (h0 : ¬ bit c i = true → Q (some (.int (zI 0))) (zM M, Rf, K, L, n, s)) : pm_Wc (d + 1) 31 [.int (zI (c : Int)), .int (zI (i : Int))] (zM M, Rf, K, L, n, s) Q := by
  refine wc_in (ls0 := [some (.int (zI (c : Int))), some (.int (zI (i : Int)))]) (by decide) (Nat.le_of_ble_eq_true rfl) rfl rfl ?_
  refine wp_iload_n d31_0 rfl ?_
  refine wp_iload_n d31_1 rfl ?_
  refine wz_ishr d31_2 (by omega) (by omega) (by omega) (by omega) ?_
  refine wz_iconst d31_3 ?_
  refine wz_and1 d31_4 (Int.natCast_nonneg _) ?_
  rw [Int.toNat_natCast, Int.toNat_natCast, show ((c / 2 ^ i : Nat) : Int) % 2 = ((c / 2 ^ i % 2 : Nat) : Int) by omega]
  refine wz_iconst d31_5 ?_
  refine wz_icmp_ne (t := 13) d31_6 (by decide) ⟨by omega, by omega⟩ ⟨by omega, by omega⟩ (fun hb => ?_) (fun hb => ?_)
  · refine wz_iconst d31_13 ?_
    exact wp_ret d31_14 rfl (h0 (fun e => hb (by rw [bit_iff.mp e]; rfl)))
  · refine wz_iconst d31_9 ?_
    refine wp_goto (t := 14) d31_10 (by decide) ?_
    exact wp_ret d31_14 rfl (h1 (bit_iff.mpr (by omega)))
/-- a node is written -/
def mnode (M : pm_M) (Rf : Nat → Nat → Nat) (cn c x y w v : Int) : pm_M := mset (mset (mset (mset (mset (mset M 6 6 (cn + 1)) (Rf 6 0) cn c) (Rf 6 1) cn x) (Rf 6 2) cn y) (Rf 6 3) cn w) (Rf 6 4) cn v
theorem mnode_o {cn c x y w v : Int} {z p : Nat} (hR : RmI Rf K L n z) (hp : ∀ g, g < 5 → p ≠ Rf 6 g) (i : Int) (h6 : ¬ (p = 6 ∧ i = 6)) : mnode M Rf cn c x y w v p i = M p i := by
  unfold mnode
  rw [mset_p _ _ _ _ (hp 4 (by decide)), mset_p _ _ _ _ (hp 3 (by decide)), mset_p _ _ _ _ (hp 2 (by decide)), mset_p _ _ _ _ (hp 1 (by decide)), mset_p _ _ _ _ (hp 0 (by decide))]
  exact if_neg h6
theorem mnode_lo {cn c x y w v : Int} {z g : Nat} (hR : RmI Rf K L n z) (hg : g < 5) {i : Int} (hi : i ≠ cn) : mnode M Rf cn c x y w v (Rf 6 g) i = M (Rf 6 g) i := by
  unfold mnode
  rw [mset_i _ _ _ _ hi, mset_i _ _ _ _ hi, mset_i _ _ _ _ hi, mset_i _ _ _ _ hi, mset_i _ _ _ _ hi, mset_p _ _ _ _ (hR.ne6 hg)]
theorem mnode_6 {cn c x y w v : Int} {z : Nat} (hR : RmI Rf K L n z) : mnode M Rf cn c x y w v 6 6 = cn + 1 := by
  unfold mnode
  rw [mset_p _ _ _ _ (hR.ne6 (by decide)).symm, mset_p _ _ _ _ (hR.ne6 (by decide)).symm, mset_p _ _ _ _ (hR.ne6 (by decide)).symm, mset_p _ _ _ _ (hR.ne6 (by decide)).symm, mset_p _ _ _ _ (hR.ne6 (by decide)).symm, mset_s]
theorem mnode_0 {cn c x y w v : Int} {z : Nat} (hR : RmI Rf K L n z) : mnode M Rf cn c x y w v (Rf 6 0) cn = c := by
  unfold mnode
  rw [mset_p _ _ _ _ (hR.ne (by decide) (by decide) (by decide)), mset_p _ _ _ _ (hR.ne (by decide) (by decide) (by decide)), mset_p _ _ _ _ (hR.ne (by decide) (by decide) (by decide)), mset_p _ _ _ _ (hR.ne (by decide) (by decide) (by decide)), mset_s]
theorem mnode_1 {cn c x y w v : Int} {z : Nat} (hR : RmI Rf K L n z) : mnode M Rf cn c x y w v (Rf 6 1) cn = x := by
  unfold mnode
  rw [mset_p _ _ _ _ (hR.ne (by decide) (by decide) (by decide)), mset_p _ _ _ _ (hR.ne (by decide) (by decide) (by decide)), mset_p _ _ _ _ (hR.ne (by decide) (by decide) (by decide)), mset_s]
theorem mnode_2 {cn c x y w v : Int} {z : Nat} (hR : RmI Rf K L n z) : mnode M Rf cn c x y w v (Rf 6 2) cn = y := by
  unfold mnode
  rw [mset_p _ _ _ _ (hR.ne (by decide) (by decide) (by decide)), mset_p _ _ _ _ (hR.ne (by decide) (by decide) (by decide)), mset_s]
theorem mnode_3 {cn c x y w v : Int} {z : Nat} (hR : RmI Rf K L n z) : mnode M Rf cn c x y w v (Rf 6 3) cn = w := by
  unfold mnode
  rw [mset_p _ _ _ _ (hR.ne (by decide) (by decide) (by decide)), mset_s]
theorem mnode_4 {cn c x y w v : Int} {z : Nat} (hR : RmI Rf K L n z) : mnode M Rf cn c x y w v (Rf 6 4) cn = v := by
  unfold mnode
  rw [mset_s]
theorem mnode_R32 {cn c x y w v : Int} (hM : ∀ p i, R32 (M p i)) (h0 : R32 (cn + 1)) (h1 : R32 c) (h2 : R32 x) (h3 : R32 y) (h4 : R32 w) (h5 : R32 v) : ∀ p i, R32 (mnode M Rf cn c x y w v p i) :=
  mset_R32 (mset_R32 (mset_R32 (mset_R32 (mset_R32 (mset_R32 hM h0) h1) h2) h3) h4) h5
/-- what a part adds to the size -/
def psz (M : pm_M) (Rf : Nat → Nat → Nat) (c i : Nat) (x : Int) : Int := if bit c i = true then M (Rf 6 4) x else 0
set_option maxRecDepth 20000 in
set_option maxHeartbeats 1000000 in
theorem c_make_tail {c z : Nat} {cn x y w : Int} (hG : pm_G Rf K L n) (hR : RmI Rf K L n z) (hM : ∀ p i, R32 (M p i)) (hcn : M 6 6 = cn) (c0 : 0 ≤ cn) (c1 : cn < z) (hc : c < 1000000) (x0 : 0 ≤ x) (x1 : x < z) (y0 : 0 ≤ y) (y1 : y < z) (w0 : 0 ≤ w) (w1 : w < z) (h : Q (some (.int (zI cn))) (zM (mnode M Rf cn c x y w (1 + psz M Rf c 0 x + psz M Rf c 1 y + psz M Rf c 2 w)), Rf, K, L, n, s)) : pm_Wp none (d + 1) 28 21 [some (.ref 6), some (.int (zI (c : Int))), some (.int (zI x)), some (.int (zI y)), some (.int (zI w)), none] [] (zM M, Rf, K, L, n, s) Q := by
  have hz := hR.2.2.2.2
  have hz64 := hR.2.2.2.1
  have e4 : ∀ i : Int, mset (mset (mset (mset (mset M 6 6 (cn + 1)) (Rf 6 0) cn c) (Rf 6 1) cn x) (Rf 6 2) cn y) (Rf 6 3) cn w (Rf 6 4) i = M (Rf 6 4) i := fun i => by
    rw [mset_p _ _ _ _ (hR.ne (by decide) (by decide) (by decide)), mset_p _ _ _ _ (hR.ne (by decide) (by decide) (by decide)), mset_p _ _ _ _ (hR.ne (by decide) (by decide) (by decide)), mset_p _ _ _ _ (hR.ne (by decide) (by decide) (by decide)), mset_p _ _ _ _ (hR.ne6 (by decide))]
  refine wp_aload_n d28_21 rfl ?_
  refine wz_getI (v := cn) d28_22 rfl (hG.o (by decide) rfl) (by decide) hcn ?_
  refine wp_istore d28_25 (Nat.le_of_ble_eq_true rfl) rfl ?_
  refine wp_aload_n d28_27 rfl ?_
  refine wp_dupr d28_28 ?_
  refine wz_getI (v := cn) d28_29 rfl (hG.o (by decide) rfl) (by decide) hcn ?_
  refine wz_iconst d28_32 ?_
  refine wz_iadd d28_33 ?_
  refine wz_putI (i := 6) d28_34 rfl (hG.o (by decide) rfl) rfl (by decide) rfl ?_
  refine wp_aload_n d28_37 rfl ?_
  refine wp_getR (q := Rf 6 0) d28_38 rfl (hG.o (by decide) rfl) (by decide) rfl (hR.1 0 (by decide)).1 ?_
  refine wp_iload d28_41 rfl ?_
  refine wp_iload_n d28_43 rfl ?_
  refine wz_iast (z := z) d28_44 (hR.1 0 (by decide)) c0 c1 (by omega) ?_
  refine wp_aload_n d28_45 rfl ?_
  refine wp_getR (q := Rf 6 1) d28_46 rfl (hG.o (by decide) rfl) (by decide) rfl (hR.1 1 (by decide)).1 ?_
  refine wp_iload d28_49 rfl ?_
  refine wp_iload_n d28_51 rfl ?_
  refine wz_iast (z := z) d28_52 (hR.1 1 (by decide)) c0 c1 (by omega) ?_
  refine wp_aload_n d28_53 rfl ?_
  refine wp_getR (q := Rf 6 2) d28_54 rfl (hG.o (by decide) rfl) (by decide) rfl (hR.1 2 (by decide)).1 ?_
  refine wp_iload d28_57 rfl ?_
  refine wp_iload_n d28_59 rfl ?_
  refine wz_iast (z := z) d28_60 (hR.1 2 (by decide)) c0 c1 (by omega) ?_
  refine wp_aload_n d28_61 rfl ?_
  refine wp_getR (q := Rf 6 3) d28_62 rfl (hG.o (by decide) rfl) (by decide) rfl (hR.1 3 (by decide)).1 ?_
  refine wp_iload d28_65 rfl ?_
  refine wp_iload d28_67 rfl ?_
  refine wz_iast (z := z) d28_69 (hR.1 3 (by decide)) c0 c1 (by omega) ?_
  obtain ⟨M1, hM1⟩ : ∃ M1, M1 = mset (mset (mset (mset (mset M 6 6 (cn + 1)) (Rf 6 0) cn c) (Rf 6 1) cn x) (Rf 6 2) cn y) (Rf 6 3) cn w := ⟨_, rfl⟩
  rw [← hM1]
  rw [← hM1] at e4
  refine wp_aload_n d28_70 rfl ?_
  refine wp_getR (q := Rf 6 4) d28_71 rfl (hG.o (by decide) rfl) (by decide) rfl (hR.1 4 (by decide)).1 ?_
  refine wp_iload d28_74 rfl ?_
  refine wz_iconst d28_76 ?_
  have s3 : pm_Wp none (d + 1) 28 134 [some (.ref 6), some (.int (zI (c : Int))), some (.int (zI x)), some (.int (zI y)), some (.int (zI w)), some (.int (zI cn))] [.int (zI (psz M Rf c 2 w)), .int (zI (1 + psz M Rf c 0 x + psz M Rf c 1 y)), .int (zI cn), .ref (Rf 6 4)] (zM M1, Rf, K, L, n, s) Q := by
    refine wz_iadd d28_134 ?_
    refine wz_iast (z := z) d28_135 (hR.1 4 (by decide)) c0 c1 (by omega) ?_
    refine wp_iload d28_136 rfl ?_
    refine wp_ret d28_138 rfl ?_
    rw [hM1]
    exact h
  have s2 : pm_Wp none (d + 1) 28 114 [some (.ref 6), some (.int (zI (c : Int))), some (.int (zI x)), some (.int (zI y)), some (.int (zI w)), some (.int (zI cn))] [.int (zI (psz M Rf c 1 y)), .int (zI (1 + psz M Rf c 0 x)), .int (zI cn), .ref (Rf 6 4)] (zM M1, Rf, K, L, n, s) Q := by
    refine wz_iadd d28_114 ?_
    refine wp_iload_n d28_115 rfl ?_
    refine wz_iconst d28_116 ?_
    refine wp_stat (as := [.int (zI 2), .int (zI (c : Int))]) (rest := [.int (zI (1 + psz M Rf c 0 x + psz M Rf c 1 y)), .int (zI cn), .ref (Rf 6 4)]) d28_117 rfl rfl rfl rfl rfl (Nat.le_of_ble_eq_true rfl) ?_
    refine c_holds (i := 2) hc (by decide) (fun hb => ?_) (fun hb => ?_)
    · refine wz_if_eq (t := 133) d28_120 (by decide) ⟨by omega, by omega⟩ (fun hb => absurd hb (by decide)) (fun _ => ?_)
      refine wp_aload_n d28_123 rfl ?_
      refine wp_getR (q := Rf 6 4) d28_124 rfl (hG.o (by decide) rfl) (by decide) rfl (hR.1 4 (by decide)).1 ?_
      refine wp_iload d28_127 rfl ?_
      refine wz_iald (z := z) (v := psz M Rf c 2 w) d28_129 (hR.1 4 (by decide)) w0 w1 (by omega) (by rw [e4]; unfold psz; rw [if_pos hb]) ?_
      exact wp_goto (t := 134) d28_130 (by decide) s3
    · refine wz_if_eq (t := 133) d28_120 (by decide) ⟨by omega, by omega⟩ (fun _ => ?_) (fun hb => absurd (by decide) hb)
      refine wz_iconst d28_133 ?_
      have e : psz M Rf c 2 w = 0 := if_neg hb
      rw [e] at s3
      exact s3
  have s1 : pm_Wp none (d + 1) 28 95 [some (.ref 6), some (.int (zI (c : Int))), some (.int (zI x)), some (.int (zI y)), some (.int (zI w)), some (.int (zI cn))] [.int (zI (psz M Rf c 0 x)), .int (zI 1), .int (zI cn), .ref (Rf 6 4)] (zM M1, Rf, K, L, n, s) Q := by
    refine wz_iadd d28_95 ?_
    refine wp_iload_n d28_96 rfl ?_
    refine wz_iconst d28_97 ?_
    refine wp_stat (as := [.int (zI 1), .int (zI (c : Int))]) (rest := [.int (zI (1 + psz M Rf c 0 x)), .int (zI cn), .ref (Rf 6 4)]) d28_98 rfl rfl rfl rfl rfl (Nat.le_of_ble_eq_true rfl) ?_
    refine c_holds (i := 1) hc (by decide) (fun hb => ?_) (fun hb => ?_)
    · refine wz_if_eq (t := 113) d28_101 (by decide) ⟨by omega, by omega⟩ (fun hb => absurd hb (by decide)) (fun _ => ?_)
      refine wp_aload_n d28_104 rfl ?_
      refine wp_getR (q := Rf 6 4) d28_105 rfl (hG.o (by decide) rfl) (by decide) rfl (hR.1 4 (by decide)).1 ?_
      refine wp_iload_n d28_108 rfl ?_
      refine wz_iald (z := z) (v := psz M Rf c 1 y) d28_109 (hR.1 4 (by decide)) y0 y1 (by omega) (by rw [e4]; unfold psz; rw [if_pos hb]) ?_
      exact wp_goto (t := 114) d28_110 (by decide) s2
    · refine wz_if_eq (t := 113) d28_101 (by decide) ⟨by omega, by omega⟩ (fun _ => ?_) (fun hb => absurd (by decide) hb)
      refine wz_iconst d28_113 ?_
      have e : psz M Rf c 1 y = 0 := if_neg hb
      rw [e] at s2
      exact s2
  refine wp_iload_n d28_77 rfl ?_
  refine wz_iconst d28_78 ?_
  refine wp_stat (as := [.int (zI 0), .int (zI (c : Int))]) (rest := [.int (zI 1), .int (zI cn), .ref (Rf 6 4)]) d28_79 rfl rfl rfl rfl rfl (Nat.le_of_ble_eq_true rfl) ?_
  refine c_holds (i := 0) hc (by decide) (fun hb => ?_) (fun hb => ?_)
  · refine wz_if_eq (t := 94) d28_82 (by decide) ⟨by omega, by omega⟩ (fun hb => absurd hb (by decide)) (fun _ => ?_)
    refine wp_aload_n d28_85 rfl ?_
    refine wp_getR (q := Rf 6 4) d28_86 rfl (hG.o (by decide) rfl) (by decide) rfl (hR.1 4 (by decide)).1 ?_
    refine wp_iload_n d28_89 rfl ?_
    refine wz_iald (z := z) (v := psz M Rf c 0 x) d28_90 (hR.1 4 (by decide)) x0 x1 (by omega) (by rw [e4]; unfold psz; rw [if_pos hb]) ?_
    exact wp_goto (t := 95) d28_91 (by decide) s1
  · refine wz_if_eq (t := 94) d28_82 (by decide) ⟨by omega, by omega⟩ (fun _ => ?_) (fun hb => absurd (by decide) hb)
    refine wz_iconst d28_94 ?_
    have e : psz M Rf c 0 x = 0 := if_neg hb
    rw [e] at s1
    exact s1
end PmC2
