/-! THE MODEL: beginning a type. -/
section PmM30
variable {tx : Nat → Int} {ln : Nat} {d : Nat} {Q : Option Value → pm_S → Prop} {N : pm_M} {Rf : Nat → Nat → Nat} {K L : Nat → Nat} {n s0 : Nat} {nd sc p : Nat} {wt : Int} {l : List (Int × Int × Int × Int)}
set_option maxRecDepth 20000 in
set_option maxHeartbeats 1000000 in
theorem l_type {dp s w : Int} (hG : pm_G Rf K L n) (h : MS tx ln N p nd sc ((200, dp, s, w) :: l)) (hl : l.length < 200) (hs : -1 ≤ s ∧ s < 128) (hdp : 0 ≤ dp ∧ dp ≤ 24) (hT : chr tx ln p = 84 → ∀ N' : pm_M, MS tx ln N' (p + 1) (nd + 1) sc l → (∀ c, MFr nd sc c N N') → N' 59 nd = 0 → LH (d + 3) wt (p + 1) (zM N', Rf, K, L, n, s0) Q) (hV : 80 ≤ chr tx ln p ∧ chr tx ln p ≤ 83 → ∀ N' : pm_M, MS tx ln N' (p + 1) (nd + 1) sc l → (∀ c, MFr nd sc c N N') → N' 59 nd = 3 → N' 60 nd = chr tx ln p - 80 → N' 62 nd = s → LH (d + 3) wt (p + 1) (zM N', Rf, K, L, n, s0) Q) (hR : chr tx ln p = 91 → ∀ N' : pm_M, MS tx ln N' (p + 1) (nd + 1) sc ((204, dp, s, (nd : Int)) :: l) → MFr nd sc l.length N N' → N' 59 nd = 4 → N' 60 nd = 0 → LH (d + 3) wt (p + 1) (zM N', Rf, K, L, n, s0) Q) (hF : chr tx ln p = 40 → dp < 24 → ∀ N' : pm_M, MS tx ln N' (p + 1) (nd + 1) sc ((200, dp + 1, s, (nd : Int)) :: (62, dp, s, (nd : Int)) :: (200, dp + 1, s, (nd : Int)) :: (41, dp, s, (nd : Int)) :: l) → MFr nd sc l.length N N' → N' 59 nd = 1 → LH (d + 3) wt (p + 1) (zM N', Rf, K, L, n, s0) Q) (hA : chr tx ln p = 60 → dp < 24 → ∀ N' : pm_M, MS tx ln N' (p + 1) (nd + 1) (sc + 1) ((202, dp, s, (nd : Int)) :: (58, dp, s, (nd : Int)) :: (200, dp + 1, s, (nd : Int)) :: (62, dp, s, (nd : Int)) :: (200, dp + 1, (sc : Int), (nd : Int)) :: l) → MFr nd sc l.length N N' → N' 59 nd = 2 → N' 61 nd = (p : Int) → N' 63 nd = (sc : Int) → N' 64 sc = s → N' 65 sc = 0 → N' 67 sc = (nd : Int) → LH (d + 3) wt (p + 1) (zM N', Rf, K, L, n, s0) Q) (h0 : chr tx ln p ≠ 84 → ¬ (80 ≤ chr tx ln p ∧ chr tx ln p ≤ 83) → chr tx ln p ≠ 91 → dp = 24 ∨ (chr tx ln p ≠ 40 ∧ chr tx ln p ≠ 60) → ∀ N' : pm_M, (∀ a b c, MFr a b c N N') → (∀ p i, R32 (N' p i)) → Q (some (.int (zI (p : Int)))) (zM N', Rf, K, L, n, s0)) : LH (d + 3) wt p (zM N, Rf, K, L, n, s0) Q := by
  have hc := h.2.1.cha p
  have l60 := h.2.1.2.1
  have hpl := h.2.2.1
  by_cases hlt : p < ln
  rotate_left
  · have e : p = ln := by omega
    have he := h.2.2.2.2.2.1
    rw [List.length_cons] at he
    refine m_over hG h.2.1 e he (by omega) (fun _ => ?_) (fun e => by omega)
    rw [← e]
    exact h0 (by omega) (by omega) (by omega) (by omega) N (fun a b c => MFr.refl _) h.1
  have fr0 : ∀ a b c, MFr a b c N (mset N 56 16 (l.length : Int)) := fun a b c => (MFr.refl N).set (by unfold WMr; omega)
  obtain ⟨⟨g1, g2, g3, g4, g5, g6, g7, g8, g9, g10, g11⟩, -⟩ := h.pop hlt
  refine m_step hG h.2.1 hlt ?_
  refine m_takeH hG h.2.2.2.2.2.1 (by omega) h.2.2.2.2.2.2.1 ?_
  have et : tx p = chr tx ln p := by omega
  rw [et]
  have h9 := h.2.2.2.2.2.2.2.2.1
  have h11 := h.2.2.2.2.2.2.2.2.2.2
  generalize mset N 56 16 (l.length : Int) = N1 at *
  refine wp_iload_n d142_62 rfl ?_
  refine wz_sipush d142_63 (by decide) ?_
  refine wz_icmp_ne (t := 80) d142_66 (by decide) ⟨by omega, by omega⟩ ⟨by omega, by omega⟩ (fun hb => absurd (by decide) hb) (fun _ => ?_)
  refine wp_aload_n d142_69 rfl ?_
  refine wp_iload_n d142_70 rfl ?_
  refine wp_iload_n d142_71 rfl ?_
  refine wp_iload d142_72 rfl ?_
  refine wp_iload d142_74 rfl ?_
  refine wp_virt (as := [.int (zI s), .int (zI dp), .int (zI (p : Int)), .int (zI (chr tx ln p))]) (rest := []) d142_76 rfl rfl rfl (hG.o (by decide) rfl) rfl rfl (Nat.le_of_ble_eq_true rfl) ?_
  have ret : ∀ (v : Int) (N2 : pm_M), (v = 1 → LH (d + 3) wt (p + 1) (zM N2, Rf, K, L, n, s0) Q) → (v = 0 → Q (some (.int (zI (p : Int)))) (zM N2, Rf, K, L, n, s0)) → (v = 0 ∨ v = 1) → pm_Wp none (d + 2) 142 79 [some (.ref 56), some (.int (zI (chr tx ln p))), some (.int (zI (p : Int))), some (.int (zI 200)), some (.int (zI dp)), some (.int (zI s)), some (.int (zI w)), none] [.int (zI v)] (zM N2, Rf, K, L, n, s0) (fun r σ => pm_Wp none (d + 3) 143 46 [some (.ref 56), some (.int (zI wt)), some (.int (zI (p : Int)))] (r.toList ++ []) σ Q) := by
    intro v N2 h1 h2 hv
    rcases hv with rfl | rfl
    · exact wp_ret d142_79 rfl (m_go0 (h2 rfl))
    · exact wp_ret d142_79 rfl (m_go1 (by omega) (h1 rfl))
  have rest : chr tx ln p ≠ 84 → ¬ (80 ≤ chr tx ln p ∧ chr tx ln p ≤ 83) → pm_Wp none (d + 1) 139 43 [some (.ref 56), some (.int (zI (chr tx ln p))), some (.int (zI (p : Int))), some (.int (zI dp)), some (.int (zI s)), none, none] [] (zM N1, Rf, K, L, n, s0) (fun r σ => pm_Wp none (d + 2) 142 79 [some (.ref 56), some (.int (zI (chr tx ln p))), some (.int (zI (p : Int))), some (.int (zI 200)), some (.int (zI dp)), some (.int (zI s)), some (.int (zI w)), none] (r.toList ++ []) σ (fun r σ => pm_Wp none (d + 3) 143 46 [some (.ref 56), some (.int (zI wt)), some (.int (zI (p : Int)))] (r.toList ++ []) σ Q)) := by
    intro n84 nnm
    refine wp_iload_n d139_43 rfl ?_
    refine wz_bipush d139_44 (by decide) ?_
    refine wz_icmp_ne (t := 70) d139_46 (by decide) ⟨by omega, by omega⟩ ⟨by omega, by omega⟩ (fun c91 => ?_) (fun c91 => ?_)
    rotate_left
    · skip
      refine wp_aload_n d139_49 rfl ?_
      refine wz_sipush d139_50 (by decide) ?_
      refine wp_iload_n d139_53 rfl ?_
      refine wp_iload d139_54 rfl ?_
      refine wp_aload_n d139_56 rfl ?_
      refine wz_iconst d139_57 ?_
      refine wz_iconst d139_58 ?_
      refine wp_iload_n d139_59 rfl ?_
      refine wp_iload d139_60 rfl ?_
      refine wp_virt (as := [.int (zI s), .int (zI (p : Int)), .int (zI 0), .int (zI 4)]) (rest := [.int (zI s), .int (zI dp), .int (zI 204), .ref 56]) d139_62 rfl rfl rfl (hG.o (by decide) rfl) rfl rfl (Nat.le_of_ble_eq_true rfl) ?_
      refine m_addE (sc := sc) hG g1 g4 (by omega) ⟨by omega, by omega⟩ ⟨by omega, by omega⟩ ⟨by omega, by omega⟩ ⟨by omega, by omega⟩ (fun N2 f2 a5 a11 a16 a59 a60 a61 a62 r2 => ?_)
      refine wp_virt (as := [.int (zI (nd : Int)), .int (zI s), .int (zI dp), .int (zI 204)]) (rest := []) d139_65 rfl rfl rfl (hG.o (by decide) rfl) rfl rfl (Nat.le_of_ble_eq_true rfl) ?_
      refine m_expectE (nd := nd) (sc := sc) (l := l) hG r2 (a16.trans g6) (by omega) (EX.same (f2 l.length) (Nat.le_refl _) g7) ⟨by omega, by omega⟩ ⟨by omega, by omega⟩ ⟨by omega, by omega⟩ ⟨by omega, by omega⟩ (fun N3 f3 b5 b11 b16 bx bo r3 => ?_)
      refine wz_iconst d139_68 ?_
      exact wp_ret d139_69 rfl (ret 1 N3 (fun _ => hR c91 N3 ⟨r3, MT.same (f3.low (nd := 0) (sc := 0) (k := 0) (Nat.zero_le _) (Nat.zero_le _) (Nat.zero_le _)) (MT.same (f2 0) g2), by omega, b5.trans a5, (b11.trans a11).trans g5, b16, bx, by omega, by omega, g10, g11⟩ (((fr0 nd sc l.length).trans (f2 l.length)).trans f3) ((bo 59 _ (by decide) (by decide)).trans a59) ((bo 60 _ (by decide) (by decide)).trans a60)) (fun e => by omega) (Or.inr rfl))
    refine wp_iload_n d139_70 rfl ?_
    refine wz_bipush d139_71 (by decide) ?_
    refine wz_icmp_eq (t := 88) d139_73 (by decide) ⟨by omega, by omega⟩ ⟨by omega, by omega⟩ (fun c24 => ?_) (fun c24 => ?_)
    · skip
      refine wz_iconst d139_88 ?_
      exact wp_ret d139_89 rfl (ret 0 N1 (fun e => by omega) (fun _ => h0 n84 nnm c91 (Or.inl c24) N1 fr0 g1) (Or.inl rfl))
    refine wp_iload_n d139_76 rfl ?_
    refine wz_bipush d139_77 (by decide) ?_
    refine wz_icmp_eq (t := 90) d139_79 (by decide) ⟨by omega, by omega⟩ ⟨by omega, by omega⟩ (fun c40 => ?_) (fun c40 => ?_)
    rotate_left
    refine wp_iload_n d139_82 rfl ?_
    refine wz_bipush d139_83 (by decide) ?_
    refine wz_icmp_eq (t := 90) d139_85 (by decide) ⟨by omega, by omega⟩ ⟨by omega, by omega⟩ (fun c60 => ?_) (fun c60 => ?_)
    rotate_left
    · skip
      refine wz_iconst d139_88 ?_
      exact wp_ret d139_89 rfl (ret 0 N1 (fun e => by omega) (fun _ => h0 n84 nnm c91 (Or.inr ⟨c40, c60⟩) N1 fr0 g1) (Or.inl rfl))
    · skip
      refine wp_aload_n d139_90 rfl ?_
      refine wp_iload_n d139_91 rfl ?_
      refine wz_bipush d139_92 (by decide) ?_
      refine wz_icmp_ne (t := 101) d139_94 (by decide) ⟨by omega, by omega⟩ ⟨by omega, by omega⟩ (fun hb => absurd (by omega) hb) (fun _ => ?_)
      refine wz_iconst d139_97 ?_
      refine wp_goto (t := 102) d139_98 (by decide) ?_
      refine wz_iconst d139_102 ?_
      refine wp_iload_n d139_103 rfl ?_
      refine wp_iload d139_104 rfl ?_
      refine wp_virt (as := [.int (zI s), .int (zI (p : Int)), .int (zI 0), .int (zI 1)]) (rest := []) d139_106 rfl rfl rfl (hG.o (by decide) rfl) rfl rfl (Nat.le_of_ble_eq_true rfl) ?_
      refine m_addE (sc := sc) hG g1 g4 (by omega) ⟨by omega, by omega⟩ ⟨by omega, by omega⟩ ⟨by omega, by omega⟩ ⟨by omega, by omega⟩ (fun N2 f2 a5 a11 a16 a59 a60 a61 a62 r2 => ?_)
      have e2 : N2 56 16 = (l.length : Int) := a16.trans g6
      have x2 : EX N2 l := EX.same (f2 l.length) (Nat.le_refl _) g7
      refine wp_istore d139_109 (Nat.le_of_ble_eq_true rfl) rfl ?_
      refine wp_iload_n d139_111 rfl ?_
      refine wz_bipush d139_112 (by decide) ?_
      refine wz_icmp_ne (t := 129) d139_114 (by decide) ⟨by omega, by omega⟩ ⟨by omega, by omega⟩ (fun _ => ?_) (fun hb => absurd hb (by omega))
      refine wp_iload d139_129 rfl ?_
      refine wp_istore d139_131 (Nat.le_of_ble_eq_true rfl) rfl ?_
      refine wp_iload_n d139_133 rfl ?_
      refine wz_bipush d139_134 (by decide) ?_
      refine wz_icmp_ne (t := 150) d139_136 (by decide) ⟨by omega, by omega⟩ ⟨by omega, by omega⟩ (fun hb => absurd (by omega) hb) (fun _ => ?_)
      refine wp_aload_n d139_139 rfl ?_
      refine wz_bipush d139_140 (by decide) ?_
      refine wp_iload_n d139_142 rfl ?_
      refine wp_iload d139_143 rfl ?_
      refine wp_iload d139_145 rfl ?_
      refine wp_virt (as := [.int (zI (nd : Int)), .int (zI s), .int (zI dp), .int (zI 41)]) (rest := []) d139_147 rfl rfl rfl (hG.o (by decide) rfl) rfl rfl (Nat.le_of_ble_eq_true rfl) ?_
      refine m_expectE (nd := nd) (sc := sc) (l := l) hG r2 e2 (by first | omega | (simp only [List.length_cons]; omega)) x2 ⟨by omega, by omega⟩ ⟨by omega, by omega⟩ ⟨by omega, by omega⟩ ⟨by omega, by omega⟩ (fun N3 f3 b53 b113 e3 x3 bo3 r3 => ?_)
      refine wp_aload_n d139_150 rfl ?_
      refine wz_sipush d139_151 (by decide) ?_
      refine wp_iload_n d139_154 rfl ?_
      refine wz_iconst d139_155 ?_
      refine wz_iadd d139_156 ?_
      refine wp_iload d139_157 rfl ?_
      refine wp_iload d139_159 rfl ?_
      refine wp_virt (as := [.int (zI (nd : Int)), .int (zI s), .int (zI (dp + 1)), .int (zI 200)]) (rest := []) d139_161 rfl rfl rfl (hG.o (by decide) rfl) rfl rfl (Nat.le_of_ble_eq_true rfl) ?_
      refine m_expectE (nd := nd) (sc := sc) (l := ((41, dp, s, (nd : Int)) :: l)) hG r3 e3 (by first | omega | (simp only [List.length_cons]; omega)) x3 ⟨by omega, by omega⟩ ⟨by omega, by omega⟩ ⟨by omega, by omega⟩ ⟨by omega, by omega⟩ (fun N4 f4 b54 b114 e4 x4 bo4 r4 => ?_)
      refine wp_aload_n d139_164 rfl ?_
      refine wz_bipush d139_165 (by decide) ?_
      refine wp_iload_n d139_167 rfl ?_
      refine wp_iload d139_168 rfl ?_
      refine wp_iload d139_170 rfl ?_
      refine wp_virt (as := [.int (zI (nd : Int)), .int (zI s), .int (zI dp), .int (zI 62)]) (rest := []) d139_172 rfl rfl rfl (hG.o (by decide) rfl) rfl rfl (Nat.le_of_ble_eq_true rfl) ?_
      refine m_expectE (nd := nd) (sc := sc) (l := ((200, dp + 1, s, (nd : Int)) :: ((41, dp, s, (nd : Int)) :: l))) hG r4 e4 (by first | omega | (simp only [List.length_cons]; omega)) x4 ⟨by omega, by omega⟩ ⟨by omega, by omega⟩ ⟨by omega, by omega⟩ ⟨by omega, by omega⟩ (fun N5 f5 b55 b115 e5 x5 bo5 r5 => ?_)
      refine wp_aload_n d139_175 rfl ?_
      refine wz_sipush d139_176 (by decide) ?_
      refine wp_iload_n d139_179 rfl ?_
      refine wz_iconst d139_180 ?_
      refine wz_iadd d139_181 ?_
      refine wp_iload d139_182 rfl ?_
      refine wp_iload d139_184 rfl ?_
      refine wp_virt (as := [.int (zI (nd : Int)), .int (zI s), .int (zI (dp + 1)), .int (zI 200)]) (rest := []) d139_186 rfl rfl rfl (hG.o (by decide) rfl) rfl rfl (Nat.le_of_ble_eq_true rfl) ?_
      refine m_expectE (nd := nd) (sc := sc) (l := ((62, dp, s, (nd : Int)) :: ((200, dp + 1, s, (nd : Int)) :: ((41, dp, s, (nd : Int)) :: l)))) hG r5 e5 (by first | omega | (simp only [List.length_cons]; omega)) x5 ⟨by omega, by omega⟩ ⟨by omega, by omega⟩ ⟨by omega, by omega⟩ ⟨by omega, by omega⟩ (fun N6 f6 b56 b116 e6 x6 bo6 r6 => ?_)
      refine wp_iload_n d139_189 rfl ?_
      refine wz_bipush d139_190 (by decide) ?_
      refine wz_icmp_ne (t := 218) d139_192 (by decide) ⟨by omega, by omega⟩ ⟨by omega, by omega⟩ (fun _ => ?_) (fun hb => absurd hb (by omega))
      refine wz_iconst d139_218 ?_
      have fr : MFr nd sc l.length N1 N6 := ((((f2 l.length).trans f3).trans (f4.low (Nat.le_refl _) (Nat.le_refl _) (by simp only [List.length_cons]; omega))).trans (f5.low (Nat.le_refl _) (Nat.le_refl _) (by simp only [List.length_cons]; omega))).trans (f6.low (Nat.le_refl _) (Nat.le_refl _) (by simp only [List.length_cons]; omega))
      exact wp_ret d139_219 rfl (ret 1 N6 (fun _ => hF c40 (by omega) N6 ⟨r6, MT.same fr g2, by omega, b56.trans (b55.trans (b54.trans (b53.trans a5))), b116.trans (b115.trans (b114.trans (b113.trans (a11.trans g5)))), e6, x6, by omega, by omega, g10, g11⟩ ((fr0 nd sc l.length).trans fr) ((bo6 59 _ (by decide) (by decide)).trans ((bo5 59 _ (by decide) (by decide)).trans ((bo4 59 _ (by decide) (by decide)).trans ((bo3 59 _ (by decide) (by decide)).trans a59))))) (fun e => by omega) (Or.inr rfl))
    refine wp_aload_n d139_90 rfl ?_
    refine wp_iload_n d139_91 rfl ?_
    refine wz_bipush d139_92 (by decide) ?_
    refine wz_icmp_ne (t := 101) d139_94 (by decide) ⟨by omega, by omega⟩ ⟨by omega, by omega⟩ (fun _ => ?_) (fun hb => absurd hb (by omega))
    refine wz_iconst d139_101 ?_
    refine wz_iconst d139_102 ?_
    refine wp_iload_n d139_103 rfl ?_
    refine wp_iload d139_104 rfl ?_
    refine wp_virt (as := [.int (zI s), .int (zI (p : Int)), .int (zI 0), .int (zI 2)]) (rest := []) d139_106 rfl rfl rfl (hG.o (by decide) rfl) rfl rfl (Nat.le_of_ble_eq_true rfl) ?_
    refine m_addE (sc := sc) hG g1 g4 (by omega) ⟨by omega, by omega⟩ ⟨by omega, by omega⟩ ⟨by omega, by omega⟩ ⟨by omega, by omega⟩ (fun N2 f2 a5 a11 a16 a59 a60 a61 a62 r2 => ?_)
    refine wp_istore d139_109 (Nat.le_of_ble_eq_true rfl) rfl ?_
    refine wp_iload_n d139_111 rfl ?_
    refine wz_bipush d139_112 (by decide) ?_
    refine wz_icmp_ne (t := 129) d139_114 (by decide) ⟨by omega, by omega⟩ ⟨by omega, by omega⟩ (fun hb => absurd (by omega) hb) (fun _ => ?_)
    refine wp_aload_n d139_117 rfl ?_
    refine wz_iconst d139_118 ?_
    refine wp_iload d139_119 rfl ?_
    refine wp_iload d139_121 rfl ?_
    refine wp_virt (as := [.int (zI (nd : Int)), .int (zI s), .int (zI 0)]) (rest := []) d139_123 rfl rfl rfl (hG.o (by decide) rfl) rfl rfl (Nat.le_of_ble_eq_true rfl) ?_
    refine m_openE (nd := nd) (sc := sc) hG r2 (a11.trans g5) (by omega) (by omega) (Nat.le_refl _) ⟨by omega, by omega⟩ ⟨by omega, by omega⟩ (fun N3 f3 o5 o11 o16 o64 o65 o67 o63 oo r3 => ?_)
    have e3 : N3 56 16 = (l.length : Int) := o16.trans (a16.trans g6)
    have x3 : EX N3 l := EX.same (f3 l.length) (Nat.le_refl _) (EX.same (f2 l.length) (Nat.le_refl _) g7)
    refine wp_goto (t := 131) d139_126 (by decide) ?_
    refine wp_istore d139_131 (Nat.le_of_ble_eq_true rfl) rfl ?_
    refine wp_iload_n d139_133 rfl ?_
    refine wz_bipush d139_134 (by decide) ?_
    refine wz_icmp_ne (t := 150) d139_136 (by decide) ⟨by omega, by omega⟩ ⟨by omega, by omega⟩ (fun _ => ?_) (fun hb => absurd hb (by omega))
    refine wp_aload_n d139_150 rfl ?_
    refine wz_sipush d139_151 (by decide) ?_
    refine wp_iload_n d139_154 rfl ?_
    refine wz_iconst d139_155 ?_
    refine wz_iadd d139_156 ?_
    refine wp_iload d139_157 rfl ?_
    refine wp_iload d139_159 rfl ?_
    refine wp_virt (as := [.int (zI (nd : Int)), .int (zI (sc : Int)), .int (zI (dp + 1)), .int (zI 200)]) (rest := []) d139_161 rfl rfl rfl (hG.o (by decide) rfl) rfl rfl (Nat.le_of_ble_eq_true rfl) ?_
    refine m_expectE (nd := nd) (sc := sc) (l := l) hG r3 e3 (by first | omega | (simp only [List.length_cons]; omega)) x3 ⟨by omega, by omega⟩ ⟨by omega, by omega⟩ ⟨by omega, by omega⟩ ⟨by omega, by omega⟩ (fun N4 f4 b54 b114 e4 x4 bo4 r4 => ?_)
    refine wp_aload_n d139_164 rfl ?_
    refine wz_bipush d139_165 (by decide) ?_
    refine wp_iload_n d139_167 rfl ?_
    refine wp_iload d139_168 rfl ?_
    refine wp_iload d139_170 rfl ?_
    refine wp_virt (as := [.int (zI (nd : Int)), .int (zI s), .int (zI dp), .int (zI 62)]) (rest := []) d139_172 rfl rfl rfl (hG.o (by decide) rfl) rfl rfl (Nat.le_of_ble_eq_true rfl) ?_
    refine m_expectE (nd := nd) (sc := sc) (l := ((200, dp + 1, (sc : Int), (nd : Int)) :: l)) hG r4 e4 (by first | omega | (simp only [List.length_cons]; omega)) x4 ⟨by omega, by omega⟩ ⟨by omega, by omega⟩ ⟨by omega, by omega⟩ ⟨by omega, by omega⟩ (fun N5 f5 b55 b115 e5 x5 bo5 r5 => ?_)
    refine wp_aload_n d139_175 rfl ?_
    refine wz_sipush d139_176 (by decide) ?_
    refine wp_iload_n d139_179 rfl ?_
    refine wz_iconst d139_180 ?_
    refine wz_iadd d139_181 ?_
    refine wp_iload d139_182 rfl ?_
    refine wp_iload d139_184 rfl ?_
    refine wp_virt (as := [.int (zI (nd : Int)), .int (zI s), .int (zI (dp + 1)), .int (zI 200)]) (rest := []) d139_186 rfl rfl rfl (hG.o (by decide) rfl) rfl rfl (Nat.le_of_ble_eq_true rfl) ?_
    refine m_expectE (nd := nd) (sc := sc) (l := ((62, dp, s, (nd : Int)) :: ((200, dp + 1, (sc : Int), (nd : Int)) :: l))) hG r5 e5 (by first | omega | (simp only [List.length_cons]; omega)) x5 ⟨by omega, by omega⟩ ⟨by omega, by omega⟩ ⟨by omega, by omega⟩ ⟨by omega, by omega⟩ (fun N6 f6 b56 b116 e6 x6 bo6 r6 => ?_)
    refine wp_iload_n d139_189 rfl ?_
    refine wz_bipush d139_190 (by decide) ?_
    refine wz_icmp_ne (t := 218) d139_192 (by decide) ⟨by omega, by omega⟩ ⟨by omega, by omega⟩ (fun hb => absurd (by omega) hb) (fun _ => ?_)
    refine wp_aload_n d139_195 rfl ?_
    refine wz_bipush d139_196 (by decide) ?_
    refine wp_iload_n d139_198 rfl ?_
    refine wp_iload d139_199 rfl ?_
    refine wp_iload d139_201 rfl ?_
    refine wp_virt (as := [.int (zI (nd : Int)), .int (zI s), .int (zI dp), .int (zI 58)]) (rest := []) d139_203 rfl rfl rfl (hG.o (by decide) rfl) rfl rfl (Nat.le_of_ble_eq_true rfl) ?_
    refine m_expectE (nd := nd) (sc := sc) (l := ((200, dp + 1, s, (nd : Int)) :: ((62, dp, s, (nd : Int)) :: ((200, dp + 1, (sc : Int), (nd : Int)) :: l)))) hG r6 e6 (by first | omega | (simp only [List.length_cons]; omega)) x6 ⟨by omega, by omega⟩ ⟨by omega, by omega⟩ ⟨by omega, by omega⟩ ⟨by omega, by omega⟩ (fun N7 f7 b57 b117 e7 x7 bo7 r7 => ?_)
    refine wp_aload_n d139_206 rfl ?_
    refine wz_sipush d139_207 (by decide) ?_
    refine wp_iload_n d139_210 rfl ?_
    refine wp_iload d139_211 rfl ?_
    refine wp_iload d139_213 rfl ?_
    refine wp_virt (as := [.int (zI (nd : Int)), .int (zI s), .int (zI dp), .int (zI 202)]) (rest := []) d139_215 rfl rfl rfl (hG.o (by decide) rfl) rfl rfl (Nat.le_of_ble_eq_true rfl) ?_
    refine m_expectE (nd := nd) (sc := sc) (l := ((58, dp, s, (nd : Int)) :: ((200, dp + 1, s, (nd : Int)) :: ((62, dp, s, (nd : Int)) :: ((200, dp + 1, (sc : Int), (nd : Int)) :: l))))) hG r7 e7 (by first | omega | (simp only [List.length_cons]; omega)) x7 ⟨by omega, by omega⟩ ⟨by omega, by omega⟩ ⟨by omega, by omega⟩ ⟨by omega, by omega⟩ (fun N8 f8 b58 b118 e8 x8 bo8 r8 => ?_)
    refine wz_iconst d139_218 ?_
    have fr : MFr nd sc l.length N1 N8 := (((((((f2 l.length).trans (f3 l.length)).trans f4).trans (f5.low (Nat.le_refl _) (Nat.le_refl _) (by simp only [List.length_cons]; omega))).trans (f6.low (Nat.le_refl _) (Nat.le_refl _) (by simp only [List.length_cons]; omega))).trans (f7.low (Nat.le_refl _) (Nat.le_refl _) (by simp only [List.length_cons]; omega)))).trans (f8.low (Nat.le_refl _) (Nat.le_refl _) (by simp only [List.length_cons]; omega))
    exact wp_ret d139_219 rfl (ret 1 N8 (fun _ => hA c60 (by omega) N8 ⟨r8, MT.same fr g2, by omega, b58.trans (b57.trans (b56.trans (b55.trans (b54.trans (o5.trans a5))))), b118.trans (b117.trans (b116.trans (b115.trans (b114.trans o11)))), e8, x8, by omega, by omega, by omega, by omega⟩ ((fr0 nd sc l.length).trans fr) ((bo8 59 _ (by decide) (by decide)).trans ((bo7 59 _ (by decide) (by decide)).trans ((bo6 59 _ (by decide) (by decide)).trans ((bo5 59 _ (by decide) (by decide)).trans ((bo4 59 _ (by decide) (by decide)).trans ((oo _).1.trans a59)))))) ((bo8 61 _ (by decide) (by decide)).trans ((bo7 61 _ (by decide) (by decide)).trans ((bo6 61 _ (by decide) (by decide)).trans ((bo5 61 _ (by decide) (by decide)).trans ((bo4 61 _ (by decide) (by decide)).trans ((oo _).2.2.1.trans a61)))))) ((bo8 63 _ (by decide) (by decide)).trans ((bo7 63 _ (by decide) (by decide)).trans ((bo6 63 _ (by decide) (by decide)).trans ((bo5 63 _ (by decide) (by decide)).trans ((bo4 63 _ (by decide) (by decide)).trans (o63)))))) ((bo8 64 _ (by decide) (by decide)).trans ((bo7 64 _ (by decide) (by decide)).trans ((bo6 64 _ (by decide) (by decide)).trans ((bo5 64 _ (by decide) (by decide)).trans ((bo4 64 _ (by decide) (by decide)).trans (o64)))))) ((bo8 65 _ (by decide) (by decide)).trans ((bo7 65 _ (by decide) (by decide)).trans ((bo6 65 _ (by decide) (by decide)).trans ((bo5 65 _ (by decide) (by decide)).trans ((bo4 65 _ (by decide) (by decide)).trans (o65)))))) ((bo8 67 _ (by decide) (by decide)).trans ((bo7 67 _ (by decide) (by decide)).trans ((bo6 67 _ (by decide) (by decide)).trans ((bo5 67 _ (by decide) (by decide)).trans ((bo4 67 _ (by decide) (by decide)).trans (o67))))))) (fun e => by omega) (Or.inr rfl))
  refine wc_in (ls0 := [some (.ref 56), some (.int (zI (chr tx ln p))), some (.int (zI (p : Int))), some (.int (zI dp)), some (.int (zI s)), none, none]) (by decide) (Nat.le_of_ble_eq_true rfl) rfl rfl ?_
  refine wp_iload_n d139_0 rfl ?_
  refine wz_bipush d139_1 (by decide) ?_
  refine wz_icmp_eq (t := 18) d139_3 (by decide) ⟨by omega, by omega⟩ ⟨by omega, by omega⟩ (fun c84 => ?_) (fun c84 => ?_)
  · skip
    refine wp_aload_n d139_18 rfl ?_
    refine wp_iload_n d139_19 rfl ?_
    refine wz_bipush d139_20 (by decide) ?_
    refine wz_icmp_ne (t := 29) d139_22 (by decide) ⟨by omega, by omega⟩ ⟨by omega, by omega⟩ (fun hb => absurd (by omega) hb) (fun _ => ?_)
    refine wz_iconst d139_25 ?_
    refine wp_goto (t := 30) d139_26 (by decide) ?_
    refine wp_iload_n d139_30 rfl ?_
    refine wz_bipush d139_31 (by decide) ?_
    refine wz_isub d139_33 ?_
    refine wp_iload_n d139_34 rfl ?_
    refine wp_iload d139_35 rfl ?_
    refine wp_virt (as := [.int (zI s), .int (zI (p : Int)), .int (zI ((chr tx ln p) - 80)), .int (zI 0)]) (rest := []) d139_37 rfl rfl rfl (hG.o (by decide) rfl) rfl rfl (Nat.le_of_ble_eq_true rfl) ?_
    refine m_addE (sc := sc) hG g1 g4 (by omega) ⟨by omega, by omega⟩ ⟨by omega, by omega⟩ ⟨by omega, by omega⟩ ⟨by omega, by omega⟩ (fun N2 f2 a5 a11 a16 a59 a60 a61 a62 r2 => ?_)
    refine wp_popi d139_40 ?_
    refine wz_iconst d139_41 ?_
    exact wp_ret d139_42 rfl (ret 1 N2 (fun _ => hT c84 N2 ⟨r2, MT.same (f2 0) g2, by omega, a5, a11.trans g5, a16.trans g6, EX.same (f2 l.length) (Nat.le_refl _) g7, by omega, by omega, g10, g11⟩ (fun c => (fr0 nd sc c).trans (f2 c)) a59) (fun e => by omega) (Or.inr rfl))
  refine wp_iload_n d139_6 rfl ?_
  refine wz_bipush d139_7 (by decide) ?_
  refine wz_icmp_lt (t := 43) d139_9 (by decide) ⟨by omega, by omega⟩ ⟨by omega, by omega⟩ (fun c80 => ?_) (fun c80 => ?_)
  rotate_left
  refine wp_iload_n d139_12 rfl ?_
  refine wz_bipush d139_13 (by decide) ?_
  refine wz_icmp_gt (t := 43) d139_15 (by decide) ⟨by omega, by omega⟩ ⟨by omega, by omega⟩ (fun c83 => ?_) (fun c83 => ?_)
  rotate_left
  · skip
    refine wp_aload_n d139_18 rfl ?_
    refine wp_iload_n d139_19 rfl ?_
    refine wz_bipush d139_20 (by decide) ?_
    refine wz_icmp_ne (t := 29) d139_22 (by decide) ⟨by omega, by omega⟩ ⟨by omega, by omega⟩ (fun _ => ?_) (fun hb => absurd hb (by omega))
    refine wz_iconst d139_29 ?_
    refine wp_iload_n d139_30 rfl ?_
    refine wz_bipush d139_31 (by decide) ?_
    refine wz_isub d139_33 ?_
    refine wp_iload_n d139_34 rfl ?_
    refine wp_iload d139_35 rfl ?_
    refine wp_virt (as := [.int (zI s), .int (zI (p : Int)), .int (zI ((chr tx ln p) - 80)), .int (zI 3)]) (rest := []) d139_37 rfl rfl rfl (hG.o (by decide) rfl) rfl rfl (Nat.le_of_ble_eq_true rfl) ?_
    refine m_addE (sc := sc) hG g1 g4 (by omega) ⟨by omega, by omega⟩ ⟨by omega, by omega⟩ ⟨by omega, by omega⟩ ⟨by omega, by omega⟩ (fun N2 f2 a5 a11 a16 a59 a60 a61 a62 r2 => ?_)
    refine wp_popi d139_40 ?_
    refine wz_iconst d139_41 ?_
    exact wp_ret d139_42 rfl (ret 1 N2 (fun _ => hV ⟨by omega, by omega⟩ N2 ⟨r2, MT.same (f2 0) g2, by omega, a5, a11.trans g5, a16.trans g6, EX.same (f2 l.length) (Nat.le_refl _) g7, by omega, by omega, g10, g11⟩ (fun c => (fr0 nd sc c).trans (f2 c)) a59 a60 a62) (fun e => by omega) (Or.inr rfl))
  · exact rest c84 (by omega)
  · exact rest c84 (by omega)
end PmM30
