/-! THE MODEL: beginning a term. -/
def NB (N : pm_M) (nd : Nat) (k : Int) (p : Nat) (s : Int) : Prop := N 59 nd = k ∧ N 61 nd = (p : Int) ∧ N 62 nd = s
section PmM40
variable {tx : Nat → Int} {ln : Nat} {d : Nat} {Q : Option Value → pm_S → Prop} {N : pm_M} {Rf : Nat → Nat → Nat} {K L : Nat → Nat} {n s0 : Nat} {nd sc p : Nat} {wt : Int} {l : List (Int × Int × Int × Int)}
set_option maxRecDepth 20000 in
set_option maxHeartbeats 2000000 in
theorem l_term {dp s w : Int} (hG : pm_G Rf K L n) (h : MS tx ln N p nd sc ((201, dp, s, w) :: l)) (hl : l.length < 200) (hs : -1 ≤ s ∧ s < 128) (hdp : 0 ≤ dp ∧ dp ≤ 24) (hW : 97 ≤ chr tx ln p ∧ chr tx ln p ≤ 100 → ∀ N' : pm_M, MS tx ln N' (p + 1) (nd + 1) sc l → (∀ c, MFr nd sc c N N') → NB N' nd 5 p s → N' 60 nd = chr tx ln p - 97 → LH (d + 3) wt (p + 1) (zM N', Rf, K, L, n, s0) Q) (hR : chr tx ln p = 123 → ∀ N' : pm_M, MS tx ln N' (p + 1) (nd + 1) sc ((205, dp, s, (nd : Int)) :: l) → MFr nd sc l.length N N' → NB N' nd 10 p s → N' 60 nd = 0 → LH (d + 3) wt (p + 1) (zM N', Rf, K, L, n, s0) Q) (h92 : chr tx ln p = 92 → dp < 24 → ∀ N' : pm_M, MS tx ln N' (p + 1) (nd + 1) (sc + 1) ((203, dp, s, (nd : Int)) :: ((58, dp, s, (nd : Int)) :: ((200, dp + 1, s, (nd : Int)) :: ((46, dp, s, (nd : Int)) :: ((201, dp + 1, (sc : Int), (nd : Int)) :: l))))) → MFr nd sc l.length N N' → NB N' nd 6 p s → N' 63 nd = (sc : Int) → N' 64 sc = s → N' 65 sc = 1 → N' 67 sc = (nd : Int) → LH (d + 3) wt (p + 1) (zM N', Rf, K, L, n, s0) Q) (h47 : chr tx ln p = 47 → dp < 24 → ∀ N' : pm_M, MS tx ln N' (p + 1) (nd + 1) (sc + 1) ((202, dp, s, (nd : Int)) :: ((58, dp, s, (nd : Int)) :: ((200, dp + 1, s, (nd : Int)) :: ((46, dp, s, (nd : Int)) :: ((201, dp + 1, (sc : Int), (nd : Int)) :: l))))) → MFr nd sc l.length N N' → NB N' nd 8 p s → N' 63 nd = (sc : Int) → N' 64 sc = s → N' 65 sc = 0 → N' 67 sc = (nd : Int) → LH (d + 3) wt (p + 1) (zM N', Rf, K, L, n, s0) Q) (h40 : chr tx ln p = 40 → dp < 24 → ∀ N' : pm_M, MS tx ln N' (p + 1) (nd + 1) sc ((201, dp + 1, s, (nd : Int)) :: ((201, dp + 1, s, (nd : Int)) :: ((41, dp, s, (nd : Int)) :: l))) → MFr nd sc l.length N N' → NB N' nd 7 p s → LH (d + 3) wt (p + 1) (zM N', Rf, K, L, n, s0) Q) (h64 : chr tx ln p = 64 → dp < 24 → ∀ N' : pm_M, MS tx ln N' (p + 1) (nd + 1) sc ((201, dp + 1, s, (nd : Int)) :: ((200, dp + 1, s, (nd : Int)) :: l)) → MFr nd sc l.length N N' → NB N' nd 9 p s → LH (d + 3) wt (p + 1) (zM N', Rf, K, L, n, s0) Q) (h46 : chr tx ln p = 46 → dp < 24 → ∀ N' : pm_M, MS tx ln N' (p + 1) (nd + 1) sc ((210, dp, s, (nd : Int)) :: ((201, dp + 1, s, (nd : Int)) :: l)) → MFr nd sc l.length N N' → NB N' nd 11 p s → LH (d + 3) wt (p + 1) (zM N', Rf, K, L, n, s0) Q) (h63 : chr tx ln p = 63 → dp < 24 → ∀ N' : pm_M, MS tx ln N' (p + 1) (nd + 1) sc ((211, dp, s, (nd : Int)) :: ((201, dp + 1, s, (nd : Int)) :: ((201, dp + 1, s, (nd : Int)) :: l))) → MFr nd sc l.length N N' → NB N' nd 12 p s → LH (d + 3) wt (p + 1) (zM N', Rf, K, L, n, s0) Q) (h0 : ¬ (97 ≤ chr tx ln p ∧ chr tx ln p ≤ 100) → chr tx ln p ≠ 123 → dp = 24 ∨ (chr tx ln p ≠ 92 ∧ chr tx ln p ≠ 47 ∧ chr tx ln p ≠ 40 ∧ chr tx ln p ≠ 64 ∧ chr tx ln p ≠ 46 ∧ chr tx ln p ≠ 63) → ∀ N' : pm_M, (∀ a b c, MFr a b c N N') → (∀ p i, R32 (N' p i)) → Q (some (.int (zI (p : Int)))) (zM N', Rf, K, L, n, s0)) : LH (d + 3) wt p (zM N, Rf, K, L, n, s0) Q := by
  have hc := h.2.1.cha p
  have l60 := h.2.1.2.1
  have hpl := h.2.2.1
  by_cases hlt : p < ln
  rotate_left
  · have e : p = ln := by omega
    have he := h.2.2.2.2.2.1
    rw [List.length_cons] at he
    refine m_over hG h.2.1 e he (by omega) (fun _ => ?_) (fun e => by omega)
    rw [← e]
    exact h0 (by omega) (by omega) (by omega) N (fun a b c => MFr.refl _) h.1
  have fr0 : ∀ a b c, MFr a b c N (mset N 56 16 (l.length : Int)) := fun a b c => (MFr.refl N).set (by unfold WMr; omega)
  obtain ⟨⟨g1, g2, g3, g4, g5, g6, g7, g8, g9, g10, g11⟩, -⟩ := h.pop hlt
  refine m_step hG h.2.1 hlt ?_
  refine m_takeH hG h.2.2.2.2.2.1 (by omega) h.2.2.2.2.2.2.1 ?_
  have et : tx p = chr tx ln p := by omega
  rw [et]
  have h9 := h.2.2.2.2.2.2.2.2.1
  have h11 := h.2.2.2.2.2.2.2.2.2.2
  generalize mset N 56 16 (l.length : Int) = N1 at *
  refine wp_iload_n d142_62 rfl ?_
  refine wz_sipush d142_63 (by decide) ?_
  refine wz_icmp_ne (t := 80) d142_66 (by decide) ⟨by omega, by omega⟩ ⟨by omega, by omega⟩ (fun _ => ?_) (fun hb => absurd hb (by decide))
  refine wp_iload_n d142_80 rfl ?_
  refine wz_sipush d142_81 (by decide) ?_
  refine wz_icmp_ne (t := 98) d142_84 (by decide) ⟨by omega, by omega⟩ ⟨by omega, by omega⟩ (fun hb => absurd (by decide) hb) (fun _ => ?_)
  refine wp_aload_n d142_87 rfl ?_
  refine wp_iload_n d142_88 rfl ?_
  refine wp_iload_n d142_89 rfl ?_
  refine wp_iload d142_90 rfl ?_
  refine wp_iload d142_92 rfl ?_
  refine wp_virt (as := [.int (zI s), .int (zI dp), .int (zI (p : Int)), .int (zI (chr tx ln p))]) (rest := []) d142_94 rfl rfl rfl (hG.o (by decide) rfl) rfl rfl (Nat.le_of_ble_eq_true rfl) ?_
  have ret : ∀ (v : Int) (N2 : pm_M), (v = 1 → LH (d + 3) wt (p + 1) (zM N2, Rf, K, L, n, s0) Q) → (v = 0 → Q (some (.int (zI (p : Int)))) (zM N2, Rf, K, L, n, s0)) → (v = 0 ∨ v = 1) → pm_Wp none (d + 2) 142 97 [some (.ref 56), some (.int (zI (chr tx ln p))), some (.int (zI (p : Int))), some (.int (zI 201)), some (.int (zI dp)), some (.int (zI s)), some (.int (zI w)), none] [.int (zI v)] (zM N2, Rf, K, L, n, s0) (fun r σ => pm_Wp none (d + 3) 143 46 [some (.ref 56), some (.int (zI wt)), some (.int (zI (p : Int)))] (r.toList ++ []) σ Q) := by
    intro v N2 h1 h2 hv
    rcases hv with rfl | rfl
    · exact wp_ret d142_97 rfl (m_go0 (h2 rfl))
    · exact wp_ret d142_97 rfl (m_go1 (by omega) (h1 rfl))
  by_cases cW : 97 ≤ chr tx ln p ∧ chr tx ln p ≤ 100
  · skip
    refine wc_in (ls0 := [some (.ref 56), some (.int (zI (chr tx ln p))), some (.int (zI (p : Int))), some (.int (zI dp)), some (.int (zI s)), none, none]) (by decide) (Nat.le_of_ble_eq_true rfl) rfl rfl ?_
    refine wp_iload_n d140_0 rfl ?_
    refine wz_bipush d140_1 (by decide) ?_
    refine wz_icmp_lt (t := 27) d140_3 (by decide) ⟨by omega, by omega⟩ ⟨by omega, by omega⟩ (fun hb => absurd hb (by omega)) (fun _ => ?_)
    refine wp_iload_n d140_6 rfl ?_
    refine wz_bipush d140_7 (by decide) ?_
    refine wz_icmp_gt (t := 27) d140_9 (by decide) ⟨by omega, by omega⟩ ⟨by omega, by omega⟩ (fun hb => absurd hb (by omega)) (fun _ => ?_)
    refine wp_aload_n d140_12 rfl ?_
    refine wz_iconst d140_13 ?_
    refine wp_iload_n d140_14 rfl ?_
    refine wz_bipush d140_15 (by decide) ?_
    refine wz_isub d140_17 ?_
    refine wp_iload_n d140_18 rfl ?_
    refine wp_iload d140_19 rfl ?_
    refine wp_virt (as := [.int (zI s), .int (zI (p : Int)), .int (zI ((chr tx ln p) - 97)), .int (zI 5)]) (rest := []) d140_21 rfl rfl rfl (hG.o (by decide) rfl) rfl rfl (Nat.le_of_ble_eq_true rfl) ?_
    refine m_addE (sc := sc) hG g1 g4 (by omega) ⟨by omega, by omega⟩ ⟨by omega, by omega⟩ ⟨by omega, by omega⟩ ⟨by omega, by omega⟩ (fun N2 f2 a5 a11 a16 a59 a60 a61 a62 r2 => ?_)
    have e2 : N2 56 16 = (l.length : Int) := a16.trans g6
    have x2 : EX N2 l := EX.same (f2 l.length) (Nat.le_refl _) g7
    refine wp_popi d140_24 ?_
    refine wz_iconst d140_25 ?_
    exact wp_ret d140_26 rfl (ret 1 N2 (fun _ => hW cW N2 ⟨r2, MT.same (f2 0) g2, by omega, a5, a11.trans g5, e2, x2, by omega, by omega, g10, g11⟩ (fun c => (fr0 nd sc c).trans (f2 c)) ⟨a59, a61, a62⟩ a60) (fun e => by omega) (Or.inr rfl))
  by_cases c123 : chr tx ln p = 123
  · skip
    refine wc_in (ls0 := [some (.ref 56), some (.int (zI (chr tx ln p))), some (.int (zI (p : Int))), some (.int (zI dp)), some (.int (zI s)), none, none]) (by decide) (Nat.le_of_ble_eq_true rfl) rfl rfl ?_
    refine wp_iload_n d140_0 rfl ?_
    refine wz_bipush d140_1 (by decide) ?_
    refine wz_icmp_lt (t := 27) d140_3 (by decide) ⟨by omega, by omega⟩ ⟨by omega, by omega⟩ (fun hb => absurd hb (by omega)) (fun _ => ?_)
    refine wp_iload_n d140_6 rfl ?_
    refine wz_bipush d140_7 (by decide) ?_
    refine wz_icmp_gt (t := 27) d140_9 (by decide) ⟨by omega, by omega⟩ ⟨by omega, by omega⟩ (fun _ => ?_) (fun hb => absurd (by omega) hb)
    refine wp_iload_n d140_27 rfl ?_
    refine wz_bipush d140_28 (by decide) ?_
    refine wz_icmp_ne (t := 55) d140_30 (by decide) ⟨by omega, by omega⟩ ⟨by omega, by omega⟩ (fun hb => absurd (by omega) hb) (fun _ => ?_)
    refine wp_aload_n d140_33 rfl ?_
    refine wz_sipush d140_34 (by decide) ?_
    refine wp_iload_n d140_37 rfl ?_
    refine wp_iload d140_38 rfl ?_
    refine wp_aload_n d140_40 rfl ?_
    refine wz_bipush d140_41 (by decide) ?_
    refine wz_iconst d140_43 ?_
    refine wp_iload_n d140_44 rfl ?_
    refine wp_iload d140_45 rfl ?_
    refine wp_virt (as := [.int (zI s), .int (zI (p : Int)), .int (zI 0), .int (zI 10)]) (rest := [.int (zI s), .int (zI dp), .int (zI 205), .ref 56]) d140_47 rfl rfl rfl (hG.o (by decide) rfl) rfl rfl (Nat.le_of_ble_eq_true rfl) ?_
    refine m_addE (sc := sc) hG g1 g4 (by omega) ⟨by omega, by omega⟩ ⟨by omega, by omega⟩ ⟨by omega, by omega⟩ ⟨by omega, by omega⟩ (fun N2 f2 a5 a11 a16 a59 a60 a61 a62 r2 => ?_)
    have e2 : N2 56 16 = (l.length : Int) := a16.trans g6
    have x2 : EX N2 l := EX.same (f2 l.length) (Nat.le_refl _) g7
    refine wp_virt (as := [.int (zI (nd : Int)), .int (zI s), .int (zI dp), .int (zI 205)]) (rest := []) d140_50 rfl rfl rfl (hG.o (by decide) rfl) rfl rfl (Nat.le_of_ble_eq_true rfl) ?_
    refine m_expectE (nd := nd) (sc := sc) (l := l) hG r2 e2 (by first | omega | (simp only [List.length_cons]; omega)) x2 ⟨by omega, by omega⟩ ⟨by omega, by omega⟩ ⟨by omega, by omega⟩ ⟨by omega, by omega⟩ (fun N3 f3 b53 b113 e3 x3 bo3 r3 => ?_)
    refine wz_iconst d140_53 ?_
    have fr : MFr nd sc l.length N1 N3 := ((f2 l.length).trans (f3.low (Nat.le_refl _) (Nat.le_refl _) (by first | exact Nat.le_refl _ | (simp only [List.length_cons]; omega))))
    exact wp_ret d140_54 rfl (ret 1 N3 (fun _ => hR c123 N3 ⟨r3, MT.same fr g2, by omega, (b53.trans a5), (b113.trans (a11.trans g5)), e3, x3, by omega, by omega, by omega, by omega⟩ ((fr0 nd sc l.length).trans fr) ⟨((bo3 59 _ (by decide) (by decide)).trans a59), ((bo3 61 _ (by decide) (by decide)).trans a61), ((bo3 62 _ (by decide) (by decide)).trans a62)⟩ ((bo3 60 _ (by decide) (by decide)).trans a60)) (fun e => by omega) (Or.inr rfl))
  by_cases c24 : dp = 24
  · skip
    by_cases clo : chr tx ln p < 97
    · skip
      refine wc_in (ls0 := [some (.ref 56), some (.int (zI (chr tx ln p))), some (.int (zI (p : Int))), some (.int (zI dp)), some (.int (zI s)), none, none]) (by decide) (Nat.le_of_ble_eq_true rfl) rfl rfl ?_
      refine wp_iload_n d140_0 rfl ?_
      refine wz_bipush d140_1 (by decide) ?_
      refine wz_icmp_lt (t := 27) d140_3 (by decide) ⟨by omega, by omega⟩ ⟨by omega, by omega⟩ (fun _ => ?_) (fun hb => absurd (by omega) hb)
      refine wp_iload_n d140_27 rfl ?_
      refine wz_bipush d140_28 (by decide) ?_
      refine wz_icmp_ne (t := 55) d140_30 (by decide) ⟨by omega, by omega⟩ ⟨by omega, by omega⟩ (fun _ => ?_) (fun hb => absurd hb (by omega))
      refine wp_iload_n d140_55 rfl ?_
      refine wz_bipush d140_56 (by decide) ?_
      refine wz_icmp_ne (t := 63) d140_58 (by decide) ⟨by omega, by omega⟩ ⟨by omega, by omega⟩ (fun hb => absurd (by omega) hb) (fun _ => ?_)
      refine wz_iconst d140_61 ?_
      exact wp_ret d140_62 rfl (ret 0 N1 (fun e => by omega) (fun _ => h0 cW c123 (Or.inl c24) N1 fr0 g1) (Or.inl rfl))
    · skip
      refine wc_in (ls0 := [some (.ref 56), some (.int (zI (chr tx ln p))), some (.int (zI (p : Int))), some (.int (zI dp)), some (.int (zI s)), none, none]) (by decide) (Nat.le_of_ble_eq_true rfl) rfl rfl ?_
      refine wp_iload_n d140_0 rfl ?_
      refine wz_bipush d140_1 (by decide) ?_
      refine wz_icmp_lt (t := 27) d140_3 (by decide) ⟨by omega, by omega⟩ ⟨by omega, by omega⟩ (fun hb => absurd hb (by omega)) (fun _ => ?_)
      refine wp_iload_n d140_6 rfl ?_
      refine wz_bipush d140_7 (by decide) ?_
      refine wz_icmp_gt (t := 27) d140_9 (by decide) ⟨by omega, by omega⟩ ⟨by omega, by omega⟩ (fun _ => ?_) (fun hb => absurd (by omega) hb)
      refine wp_iload_n d140_27 rfl ?_
      refine wz_bipush d140_28 (by decide) ?_
      refine wz_icmp_ne (t := 55) d140_30 (by decide) ⟨by omega, by omega⟩ ⟨by omega, by omega⟩ (fun _ => ?_) (fun hb => absurd hb (by omega))
      refine wp_iload_n d140_55 rfl ?_
      refine wz_bipush d140_56 (by decide) ?_
      refine wz_icmp_ne (t := 63) d140_58 (by decide) ⟨by omega, by omega⟩ ⟨by omega, by omega⟩ (fun hb => absurd (by omega) hb) (fun _ => ?_)
      refine wz_iconst d140_61 ?_
      exact wp_ret d140_62 rfl (ret 0 N1 (fun e => by omega) (fun _ => h0 cW c123 (Or.inl c24) N1 fr0 g1) (Or.inl rfl))
  by_cases c92 : chr tx ln p = 92
  · skip
    refine wc_in (ls0 := [some (.ref 56), some (.int (zI (chr tx ln p))), some (.int (zI (p : Int))), some (.int (zI dp)), some (.int (zI s)), none, none]) (by decide) (Nat.le_of_ble_eq_true rfl) rfl rfl ?_
    refine wp_iload_n d140_0 rfl ?_
    refine wz_bipush d140_1 (by decide) ?_
    refine wz_icmp_lt (t := 27) d140_3 (by decide) ⟨by omega, by omega⟩ ⟨by omega, by omega⟩ (fun _ => ?_) (fun hb => absurd (by omega) hb)
    refine wp_iload_n d140_27 rfl ?_
    refine wz_bipush d140_28 (by decide) ?_
    refine wz_icmp_ne (t := 55) d140_30 (by decide) ⟨by omega, by omega⟩ ⟨by omega, by omega⟩ (fun _ => ?_) (fun hb => absurd hb (by omega))
    refine wp_iload_n d140_55 rfl ?_
    refine wz_bipush d140_56 (by decide) ?_
    refine wz_icmp_ne (t := 63) d140_58 (by decide) ⟨by omega, by omega⟩ ⟨by omega, by omega⟩ (fun _ => ?_) (fun hb => absurd hb (by omega))
    refine wp_iload_n d140_63 rfl ?_
    refine wz_bipush d140_64 (by decide) ?_
    refine wz_icmp_eq (t := 75) d140_66 (by decide) ⟨by omega, by omega⟩ ⟨by omega, by omega⟩ (fun _ => ?_) (fun hb => absurd (by omega) hb)
    refine wp_aload_n d140_75 rfl ?_
    refine wp_iload_n d140_76 rfl ?_
    refine wz_bipush d140_77 (by decide) ?_
    refine wz_icmp_ne (t := 87) d140_79 (by decide) ⟨by omega, by omega⟩ ⟨by omega, by omega⟩ (fun _ => ?_) (fun hb => absurd hb (by omega))
    refine wz_bipush d140_87 (by decide) ?_
    refine wz_iconst d140_89 ?_
    refine wp_iload_n d140_90 rfl ?_
    refine wp_iload d140_91 rfl ?_
    refine wp_virt (as := [.int (zI s), .int (zI (p : Int)), .int (zI 0), .int (zI 6)]) (rest := []) d140_93 rfl rfl rfl (hG.o (by decide) rfl) rfl rfl (Nat.le_of_ble_eq_true rfl) ?_
    refine m_addE (sc := sc) hG g1 g4 (by omega) ⟨by omega, by omega⟩ ⟨by omega, by omega⟩ ⟨by omega, by omega⟩ ⟨by omega, by omega⟩ (fun N2 f2 a5 a11 a16 a59 a60 a61 a62 r2 => ?_)
    have e2 : N2 56 16 = (l.length : Int) := a16.trans g6
    have x2 : EX N2 l := EX.same (f2 l.length) (Nat.le_refl _) g7
    refine wp_istore d140_96 (Nat.le_of_ble_eq_true rfl) rfl ?_
    refine wp_aload_n d140_98 rfl ?_
    refine wp_iload_n d140_99 rfl ?_
    refine wz_bipush d140_100 (by decide) ?_
    refine wz_icmp_ne (t := 109) d140_102 (by decide) ⟨by omega, by omega⟩ ⟨by omega, by omega⟩ (fun _ => ?_) (fun hb => absurd hb (by omega))
    refine wz_iconst d140_109 ?_
    refine wp_iload d140_110 rfl ?_
    refine wp_iload d140_112 rfl ?_
    refine wp_virt (as := [.int (zI (nd : Int)), .int (zI s), .int (zI 1)]) (rest := []) d140_114 rfl rfl rfl (hG.o (by decide) rfl) rfl rfl (Nat.le_of_ble_eq_true rfl) ?_
    refine m_openE (nd := nd) (sc := sc) hG r2 (a11.trans g5) (by omega) (by omega) (Nat.le_refl _) ⟨by omega, by omega⟩ ⟨by omega, by omega⟩ (fun N3 f3 o5 o11 o16 o64 o65 o67 o63 oo r3 => ?_)
    have e3 : N3 56 16 = (l.length : Int) := o16.trans e2
    have x3 : EX N3 l := EX.same (f3 l.length) (Nat.le_refl _) x2
    refine wp_istore d140_117 (Nat.le_of_ble_eq_true rfl) rfl ?_
    refine wp_aload_n d140_119 rfl ?_
    refine wz_sipush d140_120 (by decide) ?_
    refine wp_iload_n d140_123 rfl ?_
    refine wz_iconst d140_124 ?_
    refine wz_iadd d140_125 ?_
    refine wp_iload d140_126 rfl ?_
    refine wp_iload d140_128 rfl ?_
    refine wp_virt (as := [.int (zI (nd : Int)), .int (zI (sc : Int)), .int (zI (dp + 1)), .int (zI 201)]) (rest := []) d140_130 rfl rfl rfl (hG.o (by decide) rfl) rfl rfl (Nat.le_of_ble_eq_true rfl) ?_
    refine m_expectE (nd := nd) (sc := sc) (l := l) hG r3 e3 (by first | omega | (simp only [List.length_cons]; omega)) x3 ⟨by omega, by omega⟩ ⟨by omega, by omega⟩ ⟨by omega, by omega⟩ ⟨by omega, by omega⟩ (fun N4 f4 b54 b114 e4 x4 bo4 r4 => ?_)
    refine wp_aload_n d140_133 rfl ?_
    refine wz_bipush d140_134 (by decide) ?_
    refine wp_iload_n d140_136 rfl ?_
    refine wp_iload d140_137 rfl ?_
    refine wp_iload d140_139 rfl ?_
    refine wp_virt (as := [.int (zI (nd : Int)), .int (zI s), .int (zI dp), .int (zI 46)]) (rest := []) d140_141 rfl rfl rfl (hG.o (by decide) rfl) rfl rfl (Nat.le_of_ble_eq_true rfl) ?_
    refine m_expectE (nd := nd) (sc := sc) (l := ((201, dp + 1, (sc : Int), (nd : Int)) :: l)) hG r4 e4 (by first | omega | (simp only [List.length_cons]; omega)) x4 ⟨by omega, by omega⟩ ⟨by omega, by omega⟩ ⟨by omega, by omega⟩ ⟨by omega, by omega⟩ (fun N5 f5 b55 b115 e5 x5 bo5 r5 => ?_)
    refine wp_aload_n d140_144 rfl ?_
    refine wz_sipush d140_145 (by decide) ?_
    refine wp_iload_n d140_148 rfl ?_
    refine wz_iconst d140_149 ?_
    refine wz_iadd d140_150 ?_
    refine wp_iload d140_151 rfl ?_
    refine wp_iload d140_153 rfl ?_
    refine wp_virt (as := [.int (zI (nd : Int)), .int (zI s), .int (zI (dp + 1)), .int (zI 200)]) (rest := []) d140_155 rfl rfl rfl (hG.o (by decide) rfl) rfl rfl (Nat.le_of_ble_eq_true rfl) ?_
    refine m_expectE (nd := nd) (sc := sc) (l := ((46, dp, s, (nd : Int)) :: ((201, dp + 1, (sc : Int), (nd : Int)) :: l))) hG r5 e5 (by first | omega | (simp only [List.length_cons]; omega)) x5 ⟨by omega, by omega⟩ ⟨by omega, by omega⟩ ⟨by omega, by omega⟩ ⟨by omega, by omega⟩ (fun N6 f6 b56 b116 e6 x6 bo6 r6 => ?_)
    refine wp_aload_n d140_158 rfl ?_
    refine wz_bipush d140_159 (by decide) ?_
    refine wp_iload_n d140_161 rfl ?_
    refine wp_iload d140_162 rfl ?_
    refine wp_iload d140_164 rfl ?_
    refine wp_virt (as := [.int (zI (nd : Int)), .int (zI s), .int (zI dp), .int (zI 58)]) (rest := []) d140_166 rfl rfl rfl (hG.o (by decide) rfl) rfl rfl (Nat.le_of_ble_eq_true rfl) ?_
    refine m_expectE (nd := nd) (sc := sc) (l := ((200, dp + 1, s, (nd : Int)) :: ((46, dp, s, (nd : Int)) :: ((201, dp + 1, (sc : Int), (nd : Int)) :: l)))) hG r6 e6 (by first | omega | (simp only [List.length_cons]; omega)) x6 ⟨by omega, by omega⟩ ⟨by omega, by omega⟩ ⟨by omega, by omega⟩ ⟨by omega, by omega⟩ (fun N7 f7 b57 b117 e7 x7 bo7 r7 => ?_)
    refine wp_aload_n d140_169 rfl ?_
    refine wp_iload_n d140_170 rfl ?_
    refine wz_bipush d140_171 (by decide) ?_
    refine wz_icmp_ne (t := 182) d140_173 (by decide) ⟨by omega, by omega⟩ ⟨by omega, by omega⟩ (fun _ => ?_) (fun hb => absurd hb (by omega))
    refine wz_sipush d140_182 (by decide) ?_
    refine wp_iload_n d140_185 rfl ?_
    refine wp_iload d140_186 rfl ?_
    refine wp_iload d140_188 rfl ?_
    refine wp_virt (as := [.int (zI (nd : Int)), .int (zI s), .int (zI dp), .int (zI 203)]) (rest := []) d140_190 rfl rfl rfl (hG.o (by decide) rfl) rfl rfl (Nat.le_of_ble_eq_true rfl) ?_
    refine m_expectE (nd := nd) (sc := sc) (l := ((58, dp, s, (nd : Int)) :: ((200, dp + 1, s, (nd : Int)) :: ((46, dp, s, (nd : Int)) :: ((201, dp + 1, (sc : Int), (nd : Int)) :: l))))) hG r7 e7 (by first | omega | (simp only [List.length_cons]; omega)) x7 ⟨by omega, by omega⟩ ⟨by omega, by omega⟩ ⟨by omega, by omega⟩ ⟨by omega, by omega⟩ (fun N8 f8 b58 b118 e8 x8 bo8 r8 => ?_)
    refine wz_iconst d140_193 ?_
    have fr : MFr nd sc l.length N1 N8 := (((((((f2 l.length).trans (f3 l.length)).trans (f4.low (Nat.le_refl _) (Nat.le_refl _) (by first | exact Nat.le_refl _ | (simp only [List.length_cons]; omega)))).trans (f5.low (Nat.le_refl _) (Nat.le_refl _) (by first | exact Nat.le_refl _ | (simp only [List.length_cons]; omega)))).trans (f6.low (Nat.le_refl _) (Nat.le_refl _) (by first | exact Nat.le_refl _ | (simp only [List.length_cons]; omega)))).trans (f7.low (Nat.le_refl _) (Nat.le_refl _) (by first | exact Nat.le_refl _ | (simp only [List.length_cons]; omega)))).trans (f8.low (Nat.le_refl _) (Nat.le_refl _) (by first | exact Nat.le_refl _ | (simp only [List.length_cons]; omega))))
    exact wp_ret d140_194 rfl (ret 1 N8 (fun _ => h92 c92 (by omega) N8 ⟨r8, MT.same fr g2, by omega, (b58.trans (b57.trans (b56.trans (b55.trans (b54.trans (o5.trans a5)))))), (b118.trans (b117.trans (b116.trans (b115.trans (b114.trans o11))))), e8, x8, by omega, by omega, by omega, by omega⟩ ((fr0 nd sc l.length).trans fr) ⟨((bo8 59 _ (by decide) (by decide)).trans ((bo7 59 _ (by decide) (by decide)).trans ((bo6 59 _ (by decide) (by decide)).trans ((bo5 59 _ (by decide) (by decide)).trans ((bo4 59 _ (by decide) (by decide)).trans ((oo _).1.trans a59)))))), ((bo8 61 _ (by decide) (by decide)).trans ((bo7 61 _ (by decide) (by decide)).trans ((bo6 61 _ (by decide) (by decide)).trans ((bo5 61 _ (by decide) (by decide)).trans ((bo4 61 _ (by decide) (by decide)).trans ((oo _).2.2.1.trans a61)))))), ((bo8 62 _ (by decide) (by decide)).trans ((bo7 62 _ (by decide) (by decide)).trans ((bo6 62 _ (by decide) (by decide)).trans ((bo5 62 _ (by decide) (by decide)).trans ((bo4 62 _ (by decide) (by decide)).trans ((oo _).2.2.2.trans a62))))))⟩ ((bo8 63 _ (by decide) (by decide)).trans ((bo7 63 _ (by decide) (by decide)).trans ((bo6 63 _ (by decide) (by decide)).trans ((bo5 63 _ (by decide) (by decide)).trans ((bo4 63 _ (by decide) (by decide)).trans o63))))) ((bo8 64 _ (by decide) (by decide)).trans ((bo7 64 _ (by decide) (by decide)).trans ((bo6 64 _ (by decide) (by decide)).trans ((bo5 64 _ (by decide) (by decide)).trans ((bo4 64 _ (by decide) (by decide)).trans o64))))) ((bo8 65 _ (by decide) (by decide)).trans ((bo7 65 _ (by decide) (by decide)).trans ((bo6 65 _ (by decide) (by decide)).trans ((bo5 65 _ (by decide) (by decide)).trans ((bo4 65 _ (by decide) (by decide)).trans o65))))) ((bo8 67 _ (by decide) (by decide)).trans ((bo7 67 _ (by decide) (by decide)).trans ((bo6 67 _ (by decide) (by decide)).trans ((bo5 67 _ (by decide) (by decide)).trans ((bo4 67 _ (by decide) (by decide)).trans o67)))))) (fun e => by omega) (Or.inr rfl))
  by_cases c47 : chr tx ln p = 47
  · skip
    refine wc_in (ls0 := [some (.ref 56), some (.int (zI (chr tx ln p))), some (.int (zI (p : Int))), some (.int (zI dp)), some (.int (zI s)), none, none]) (by decide) (Nat.le_of_ble_eq_true rfl) rfl rfl ?_
    refine wp_iload_n d140_0 rfl ?_
    refine wz_bipush d140_1 (by decide) ?_
    refine wz_icmp_lt (t := 27) d140_3 (by decide) ⟨by omega, by omega⟩ ⟨by omega, by omega⟩ (fun _ => ?_) (fun hb => absurd (by omega) hb)
    refine wp_iload_n d140_27 rfl ?_
    refine wz_bipush d140_28 (by decide) ?_
    refine wz_icmp_ne (t := 55) d140_30 (by decide) ⟨by omega, by omega⟩ ⟨by omega, by omega⟩ (fun _ => ?_) (fun hb => absurd hb (by omega))
    refine wp_iload_n d140_55 rfl ?_
    refine wz_bipush d140_56 (by decide) ?_
    refine wz_icmp_ne (t := 63) d140_58 (by decide) ⟨by omega, by omega⟩ ⟨by omega, by omega⟩ (fun _ => ?_) (fun hb => absurd hb (by omega))
    refine wp_iload_n d140_63 rfl ?_
    refine wz_bipush d140_64 (by decide) ?_
    refine wz_icmp_eq (t := 75) d140_66 (by decide) ⟨by omega, by omega⟩ ⟨by omega, by omega⟩ (fun hb => absurd hb (by omega)) (fun _ => ?_)
    refine wp_iload_n d140_69 rfl ?_
    refine wz_bipush d140_70 (by decide) ?_
    refine wz_icmp_ne (t := 195) d140_72 (by decide) ⟨by omega, by omega⟩ ⟨by omega, by omega⟩ (fun hb => absurd (by omega) hb) (fun _ => ?_)
    refine wp_aload_n d140_75 rfl ?_
    refine wp_iload_n d140_76 rfl ?_
    refine wz_bipush d140_77 (by decide) ?_
    refine wz_icmp_ne (t := 87) d140_79 (by decide) ⟨by omega, by omega⟩ ⟨by omega, by omega⟩ (fun hb => absurd (by omega) hb) (fun _ => ?_)
    refine wz_bipush d140_82 (by decide) ?_
    refine wp_goto (t := 89) d140_84 (by decide) ?_
    refine wz_iconst d140_89 ?_
    refine wp_iload_n d140_90 rfl ?_
    refine wp_iload d140_91 rfl ?_
    refine wp_virt (as := [.int (zI s), .int (zI (p : Int)), .int (zI 0), .int (zI 8)]) (rest := []) d140_93 rfl rfl rfl (hG.o (by decide) rfl) rfl rfl (Nat.le_of_ble_eq_true rfl) ?_
    refine m_addE (sc := sc) hG g1 g4 (by omega) ⟨by omega, by omega⟩ ⟨by omega, by omega⟩ ⟨by omega, by omega⟩ ⟨by omega, by omega⟩ (fun N2 f2 a5 a11 a16 a59 a60 a61 a62 r2 => ?_)
    have e2 : N2 56 16 = (l.length : Int) := a16.trans g6
    have x2 : EX N2 l := EX.same (f2 l.length) (Nat.le_refl _) g7
    refine wp_istore d140_96 (Nat.le_of_ble_eq_true rfl) rfl ?_
    refine wp_aload_n d140_98 rfl ?_
    refine wp_iload_n d140_99 rfl ?_
    refine wz_bipush d140_100 (by decide) ?_
    refine wz_icmp_ne (t := 109) d140_102 (by decide) ⟨by omega, by omega⟩ ⟨by omega, by omega⟩ (fun hb => absurd (by omega) hb) (fun _ => ?_)
    refine wz_iconst d140_105 ?_
    refine wp_goto (t := 110) d140_106 (by decide) ?_
    refine wp_iload d140_110 rfl ?_
    refine wp_iload d140_112 rfl ?_
    refine wp_virt (as := [.int (zI (nd : Int)), .int (zI s), .int (zI 0)]) (rest := []) d140_114 rfl rfl rfl (hG.o (by decide) rfl) rfl rfl (Nat.le_of_ble_eq_true rfl) ?_
    refine m_openE (nd := nd) (sc := sc) hG r2 (a11.trans g5) (by omega) (by omega) (Nat.le_refl _) ⟨by omega, by omega⟩ ⟨by omega, by omega⟩ (fun N3 f3 o5 o11 o16 o64 o65 o67 o63 oo r3 => ?_)
    have e3 : N3 56 16 = (l.length : Int) := o16.trans e2
    have x3 : EX N3 l := EX.same (f3 l.length) (Nat.le_refl _) x2
    refine wp_istore d140_117 (Nat.le_of_ble_eq_true rfl) rfl ?_
    refine wp_aload_n d140_119 rfl ?_
    refine wz_sipush d140_120 (by decide) ?_
    refine wp_iload_n d140_123 rfl ?_
    refine wz_iconst d140_124 ?_
    refine wz_iadd d140_125 ?_
    refine wp_iload d140_126 rfl ?_
    refine wp_iload d140_128 rfl ?_
    refine wp_virt (as := [.int (zI (nd : Int)), .int (zI (sc : Int)), .int (zI (dp + 1)), .int (zI 201)]) (rest := []) d140_130 rfl rfl rfl (hG.o (by decide) rfl) rfl rfl (Nat.le_of_ble_eq_true rfl) ?_
    refine m_expectE (nd := nd) (sc := sc) (l := l) hG r3 e3 (by first | omega | (simp only [List.length_cons]; omega)) x3 ⟨by omega, by omega⟩ ⟨by omega, by omega⟩ ⟨by omega, by omega⟩ ⟨by omega, by omega⟩ (fun N4 f4 b54 b114 e4 x4 bo4 r4 => ?_)
    refine wp_aload_n d140_133 rfl ?_
    refine wz_bipush d140_134 (by decide) ?_
    refine wp_iload_n d140_136 rfl ?_
    refine wp_iload d140_137 rfl ?_
    refine wp_iload d140_139 rfl ?_
    refine wp_virt (as := [.int (zI (nd : Int)), .int (zI s), .int (zI dp), .int (zI 46)]) (rest := []) d140_141 rfl rfl rfl (hG.o (by decide) rfl) rfl rfl (Nat.le_of_ble_eq_true rfl) ?_
    refine m_expectE (nd := nd) (sc := sc) (l := ((201, dp + 1, (sc : Int), (nd : Int)) :: l)) hG r4 e4 (by first | omega | (simp only [List.length_cons]; omega)) x4 ⟨by omega, by omega⟩ ⟨by omega, by omega⟩ ⟨by omega, by omega⟩ ⟨by omega, by omega⟩ (fun N5 f5 b55 b115 e5 x5 bo5 r5 => ?_)
    refine wp_aload_n d140_144 rfl ?_
    refine wz_sipush d140_145 (by decide) ?_
    refine wp_iload_n d140_148 rfl ?_
    refine wz_iconst d140_149 ?_
    refine wz_iadd d140_150 ?_
    refine wp_iload d140_151 rfl ?_
    refine wp_iload d140_153 rfl ?_
    refine wp_virt (as := [.int (zI (nd : Int)), .int (zI s), .int (zI (dp + 1)), .int (zI 200)]) (rest := []) d140_155 rfl rfl rfl (hG.o (by decide) rfl) rfl rfl (Nat.le_of_ble_eq_true rfl) ?_
    refine m_expectE (nd := nd) (sc := sc) (l := ((46, dp, s, (nd : Int)) :: ((201, dp + 1, (sc : Int), (nd : Int)) :: l))) hG r5 e5 (by first | omega | (simp only [List.length_cons]; omega)) x5 ⟨by omega, by omega⟩ ⟨by omega, by omega⟩ ⟨by omega, by omega⟩ ⟨by omega, by omega⟩ (fun N6 f6 b56 b116 e6 x6 bo6 r6 => ?_)
    refine wp_aload_n d140_158 rfl ?_
    refine wz_bipush d140_159 (by decide) ?_
    refine wp_iload_n d140_161 rfl ?_
    refine wp_iload d140_162 rfl ?_
    refine wp_iload d140_164 rfl ?_
    refine wp_virt (as := [.int (zI (nd : Int)), .int (zI s), .int (zI dp), .int (zI 58)]) (rest := []) d140_166 rfl rfl rfl (hG.o (by decide) rfl) rfl rfl (Nat.le_of_ble_eq_true rfl) ?_
    refine m_expectE (nd := nd) (sc := sc) (l := ((200, dp + 1, s, (nd : Int)) :: ((46, dp, s, (nd : Int)) :: ((201, dp + 1, (sc : Int), (nd : Int)) :: l)))) hG r6 e6 (by first | omega | (simp only [List.length_cons]; omega)) x6 ⟨by omega, by omega⟩ ⟨by omega, by omega⟩ ⟨by omega, by omega⟩ ⟨by omega, by omega⟩ (fun N7 f7 b57 b117 e7 x7 bo7 r7 => ?_)
    refine wp_aload_n d140_169 rfl ?_
    refine wp_iload_n d140_170 rfl ?_
    refine wz_bipush d140_171 (by decide) ?_
    refine wz_icmp_ne (t := 182) d140_173 (by decide) ⟨by omega, by omega⟩ ⟨by omega, by omega⟩ (fun hb => absurd (by omega) hb) (fun _ => ?_)
    refine wz_sipush d140_176 (by decide) ?_
    refine wp_goto (t := 185) d140_179 (by decide) ?_
    refine wp_iload_n d140_185 rfl ?_
    refine wp_iload d140_186 rfl ?_
    refine wp_iload d140_188 rfl ?_
    refine wp_virt (as := [.int (zI (nd : Int)), .int (zI s), .int (zI dp), .int (zI 202)]) (rest := []) d140_190 rfl rfl rfl (hG.o (by decide) rfl) rfl rfl (Nat.le_of_ble_eq_true rfl) ?_
    refine m_expectE (nd := nd) (sc := sc) (l := ((58, dp, s, (nd : Int)) :: ((200, dp + 1, s, (nd : Int)) :: ((46, dp, s, (nd : Int)) :: ((201, dp + 1, (sc : Int), (nd : Int)) :: l))))) hG r7 e7 (by first | omega | (simp only [List.length_cons]; omega)) x7 ⟨by omega, by omega⟩ ⟨by omega, by omega⟩ ⟨by omega, by omega⟩ ⟨by omega, by omega⟩ (fun N8 f8 b58 b118 e8 x8 bo8 r8 => ?_)
    refine wz_iconst d140_193 ?_
    have fr : MFr nd sc l.length N1 N8 := (((((((f2 l.length).trans (f3 l.length)).trans (f4.low (Nat.le_refl _) (Nat.le_refl _) (by first | exact Nat.le_refl _ | (simp only [List.length_cons]; omega)))).trans (f5.low (Nat.le_refl _) (Nat.le_refl _) (by first | exact Nat.le_refl _ | (simp only [List.length_cons]; omega)))).trans (f6.low (Nat.le_refl _) (Nat.le_refl _) (by first | exact Nat.le_refl _ | (simp only [List.length_cons]; omega)))).trans (f7.low (Nat.le_refl _) (Nat.le_refl _) (by first | exact Nat.le_refl _ | (simp only [List.length_cons]; omega)))).trans (f8.low (Nat.le_refl _) (Nat.le_refl _) (by first | exact Nat.le_refl _ | (simp only [List.length_cons]; omega))))
    exact wp_ret d140_194 rfl (ret 1 N8 (fun _ => h47 c47 (by omega) N8 ⟨r8, MT.same fr g2, by omega, (b58.trans (b57.trans (b56.trans (b55.trans (b54.trans (o5.trans a5)))))), (b118.trans (b117.trans (b116.trans (b115.trans (b114.trans o11))))), e8, x8, by omega, by omega, by omega, by omega⟩ ((fr0 nd sc l.length).trans fr) ⟨((bo8 59 _ (by decide) (by decide)).trans ((bo7 59 _ (by decide) (by decide)).trans ((bo6 59 _ (by decide) (by decide)).trans ((bo5 59 _ (by decide) (by decide)).trans ((bo4 59 _ (by decide) (by decide)).trans ((oo _).1.trans a59)))))), ((bo8 61 _ (by decide) (by decide)).trans ((bo7 61 _ (by decide) (by decide)).trans ((bo6 61 _ (by decide) (by decide)).trans ((bo5 61 _ (by decide) (by decide)).trans ((bo4 61 _ (by decide) (by decide)).trans ((oo _).2.2.1.trans a61)))))), ((bo8 62 _ (by decide) (by decide)).trans ((bo7 62 _ (by decide) (by decide)).trans ((bo6 62 _ (by decide) (by decide)).trans ((bo5 62 _ (by decide) (by decide)).trans ((bo4 62 _ (by decide) (by decide)).trans ((oo _).2.2.2.trans a62))))))⟩ ((bo8 63 _ (by decide) (by decide)).trans ((bo7 63 _ (by decide) (by decide)).trans ((bo6 63 _ (by decide) (by decide)).trans ((bo5 63 _ (by decide) (by decide)).trans ((bo4 63 _ (by decide) (by decide)).trans o63))))) ((bo8 64 _ (by decide) (by decide)).trans ((bo7 64 _ (by decide) (by decide)).trans ((bo6 64 _ (by decide) (by decide)).trans ((bo5 64 _ (by decide) (by decide)).trans ((bo4 64 _ (by decide) (by decide)).trans o64))))) ((bo8 65 _ (by decide) (by decide)).trans ((bo7 65 _ (by decide) (by decide)).trans ((bo6 65 _ (by decide) (by decide)).trans ((bo5 65 _ (by decide) (by decide)).trans ((bo4 65 _ (by decide) (by decide)).trans o65))))) ((bo8 67 _ (by decide) (by decide)).trans ((bo7 67 _ (by decide) (by decide)).trans ((bo6 67 _ (by decide) (by decide)).trans ((bo5 67 _ (by decide) (by decide)).trans ((bo4 67 _ (by decide) (by decide)).trans o67)))))) (fun e => by omega) (Or.inr rfl))
  by_cases c40 : chr tx ln p = 40
  · skip
    refine wc_in (ls0 := [some (.ref 56), some (.int (zI (chr tx ln p))), some (.int (zI (p : Int))), some (.int (zI dp)), some (.int (zI s)), none, none]) (by decide) (Nat.le_of_ble_eq_true rfl) rfl rfl ?_
    refine wp_iload_n d140_0 rfl ?_
    refine wz_bipush d140_1 (by decide) ?_
    refine wz_icmp_lt (t := 27) d140_3 (by decide) ⟨by omega, by omega⟩ ⟨by omega, by omega⟩ (fun _ => ?_) (fun hb => absurd (by omega) hb)
    refine wp_iload_n d140_27 rfl ?_
    refine wz_bipush d140_28 (by decide) ?_
    refine wz_icmp_ne (t := 55) d140_30 (by decide) ⟨by omega, by omega⟩ ⟨by omega, by omega⟩ (fun _ => ?_) (fun hb => absurd hb (by omega))
    refine wp_iload_n d140_55 rfl ?_
    refine wz_bipush d140_56 (by decide) ?_
    refine wz_icmp_ne (t := 63) d140_58 (by decide) ⟨by omega, by omega⟩ ⟨by omega, by omega⟩ (fun _ => ?_) (fun hb => absurd hb (by omega))
    refine wp_iload_n d140_63 rfl ?_
    refine wz_bipush d140_64 (by decide) ?_
    refine wz_icmp_eq (t := 75) d140_66 (by decide) ⟨by omega, by omega⟩ ⟨by omega, by omega⟩ (fun hb => absurd hb (by omega)) (fun _ => ?_)
    refine wp_iload_n d140_69 rfl ?_
    refine wz_bipush d140_70 (by decide) ?_
    refine wz_icmp_ne (t := 195) d140_72 (by decide) ⟨by omega, by omega⟩ ⟨by omega, by omega⟩ (fun _ => ?_) (fun hb => absurd hb (by omega))
    refine wp_iload_n d140_195 rfl ?_
    refine wz_bipush d140_196 (by decide) ?_
    refine wz_icmp_ne (t := 206) d140_198 (by decide) ⟨by omega, by omega⟩ ⟨by omega, by omega⟩ (fun hb => absurd (by omega) hb) (fun _ => ?_)
    refine wz_bipush d140_201 (by decide) ?_
    refine wp_goto (t := 240) d140_203 (by decide) ?_
    refine wp_istore d140_240 (Nat.le_of_ble_eq_true rfl) rfl ?_
    refine wp_iload d140_242 rfl ?_
    refine wz_if_ge (t := 249) d140_244 (by decide) ⟨by omega, by omega⟩ (fun _ => ?_) (fun hb => absurd (by omega) hb)
    refine wp_aload_n d140_249 rfl ?_
    refine wp_iload d140_250 rfl ?_
    refine wz_iconst d140_252 ?_
    refine wp_iload_n d140_253 rfl ?_
    refine wp_iload d140_254 rfl ?_
    refine wp_virt (as := [.int (zI s), .int (zI (p : Int)), .int (zI 0), .int (zI 7)]) (rest := []) d140_256 rfl rfl rfl (hG.o (by decide) rfl) rfl rfl (Nat.le_of_ble_eq_true rfl) ?_
    refine m_addE (sc := sc) hG g1 g4 (by omega) ⟨by omega, by omega⟩ ⟨by omega, by omega⟩ ⟨by omega, by omega⟩ ⟨by omega, by omega⟩ (fun N2 f2 a5 a11 a16 a59 a60 a61 a62 r2 => ?_)
    have e2 : N2 56 16 = (l.length : Int) := a16.trans g6
    have x2 : EX N2 l := EX.same (f2 l.length) (Nat.le_refl _) g7
    refine wp_istore d140_259 (Nat.le_of_ble_eq_true rfl) rfl ?_
    refine wp_iload_n d140_261 rfl ?_
    refine wz_bipush d140_262 (by decide) ?_
    refine wz_icmp_ne (t := 278) d140_264 (by decide) ⟨by omega, by omega⟩ ⟨by omega, by omega⟩ (fun hb => absurd (by omega) hb) (fun _ => ?_)
    refine wp_aload_n d140_267 rfl ?_
    refine wz_bipush d140_268 (by decide) ?_
    refine wp_iload_n d140_270 rfl ?_
    refine wp_iload d140_271 rfl ?_
    refine wp_iload d140_273 rfl ?_
    refine wp_virt (as := [.int (zI (nd : Int)), .int (zI s), .int (zI dp), .int (zI 41)]) (rest := []) d140_275 rfl rfl rfl (hG.o (by decide) rfl) rfl rfl (Nat.le_of_ble_eq_true rfl) ?_
    refine m_expectE (nd := nd) (sc := sc) (l := l) hG r2 e2 (by first | omega | (simp only [List.length_cons]; omega)) x2 ⟨by omega, by omega⟩ ⟨by omega, by omega⟩ ⟨by omega, by omega⟩ ⟨by omega, by omega⟩ (fun N3 f3 b53 b113 e3 x3 bo3 r3 => ?_)
    refine wp_iload_n d140_278 rfl ?_
    refine wz_bipush d140_279 (by decide) ?_
    refine wz_icmp_eq (t := 310) d140_281 (by decide) ⟨by omega, by omega⟩ ⟨by omega, by omega⟩ (fun hb => absurd hb (by omega)) (fun _ => ?_)
    refine wp_aload_n d140_284 rfl ?_
    refine wp_iload_n d140_285 rfl ?_
    refine wz_bipush d140_286 (by decide) ?_
    refine wz_icmp_ne (t := 297) d140_288 (by decide) ⟨by omega, by omega⟩ ⟨by omega, by omega⟩ (fun _ => ?_) (fun hb => absurd hb (by omega))
    refine wz_sipush d140_297 (by decide) ?_
    refine wp_iload_n d140_300 rfl ?_
    refine wz_iconst d140_301 ?_
    refine wz_iadd d140_302 ?_
    refine wp_iload d140_303 rfl ?_
    refine wp_iload d140_305 rfl ?_
    refine wp_virt (as := [.int (zI (nd : Int)), .int (zI s), .int (zI (dp + 1)), .int (zI 201)]) (rest := []) d140_307 rfl rfl rfl (hG.o (by decide) rfl) rfl rfl (Nat.le_of_ble_eq_true rfl) ?_
    refine m_expectE (nd := nd) (sc := sc) (l := ((41, dp, s, (nd : Int)) :: l)) hG r3 e3 (by first | omega | (simp only [List.length_cons]; omega)) x3 ⟨by omega, by omega⟩ ⟨by omega, by omega⟩ ⟨by omega, by omega⟩ ⟨by omega, by omega⟩ (fun N4 f4 b54 b114 e4 x4 bo4 r4 => ?_)
    refine wp_aload_n d140_310 rfl ?_
    refine wz_sipush d140_311 (by decide) ?_
    refine wp_iload_n d140_314 rfl ?_
    refine wz_iconst d140_315 ?_
    refine wz_iadd d140_316 ?_
    refine wp_iload d140_317 rfl ?_
    refine wp_iload d140_319 rfl ?_
    refine wp_virt (as := [.int (zI (nd : Int)), .int (zI s), .int (zI (dp + 1)), .int (zI 201)]) (rest := []) d140_321 rfl rfl rfl (hG.o (by decide) rfl) rfl rfl (Nat.le_of_ble_eq_true rfl) ?_
    refine m_expectE (nd := nd) (sc := sc) (l := ((201, dp + 1, s, (nd : Int)) :: ((41, dp, s, (nd : Int)) :: l))) hG r4 e4 (by first | omega | (simp only [List.length_cons]; omega)) x4 ⟨by omega, by omega⟩ ⟨by omega, by omega⟩ ⟨by omega, by omega⟩ ⟨by omega, by omega⟩ (fun N5 f5 b55 b115 e5 x5 bo5 r5 => ?_)
    refine wp_iload_n d140_324 rfl ?_
    refine wz_bipush d140_325 (by decide) ?_
    refine wz_icmp_eq (t := 336) d140_327 (by decide) ⟨by omega, by omega⟩ ⟨by omega, by omega⟩ (fun hb => absurd hb (by omega)) (fun _ => ?_)
    refine wp_iload_n d140_330 rfl ?_
    refine wz_bipush d140_331 (by decide) ?_
    refine wz_icmp_ne (t := 360) d140_333 (by decide) ⟨by omega, by omega⟩ ⟨by omega, by omega⟩ (fun _ => ?_) (fun hb => absurd hb (by omega))
    refine wz_iconst d140_360 ?_
    have fr : MFr nd sc l.length N1 N5 := ((((f2 l.length).trans (f3.low (Nat.le_refl _) (Nat.le_refl _) (by first | exact Nat.le_refl _ | (simp only [List.length_cons]; omega)))).trans (f4.low (Nat.le_refl _) (Nat.le_refl _) (by first | exact Nat.le_refl _ | (simp only [List.length_cons]; omega)))).trans (f5.low (Nat.le_refl _) (Nat.le_refl _) (by first | exact Nat.le_refl _ | (simp only [List.length_cons]; omega))))
    exact wp_ret d140_361 rfl (ret 1 N5 (fun _ => h40 c40 (by omega) N5 ⟨r5, MT.same fr g2, by omega, (b55.trans (b54.trans (b53.trans a5))), (b115.trans (b114.trans (b113.trans (a11.trans g5)))), e5, x5, by omega, by omega, by omega, by omega⟩ ((fr0 nd sc l.length).trans fr) ⟨((bo5 59 _ (by decide) (by decide)).trans ((bo4 59 _ (by decide) (by decide)).trans ((bo3 59 _ (by decide) (by decide)).trans a59))), ((bo5 61 _ (by decide) (by decide)).trans ((bo4 61 _ (by decide) (by decide)).trans ((bo3 61 _ (by decide) (by decide)).trans a61))), ((bo5 62 _ (by decide) (by decide)).trans ((bo4 62 _ (by decide) (by decide)).trans ((bo3 62 _ (by decide) (by decide)).trans a62)))⟩) (fun e => by omega) (Or.inr rfl))
  by_cases c64 : chr tx ln p = 64
  · skip
    refine wc_in (ls0 := [some (.ref 56), some (.int (zI (chr tx ln p))), some (.int (zI (p : Int))), some (.int (zI dp)), some (.int (zI s)), none, none]) (by decide) (Nat.le_of_ble_eq_true rfl) rfl rfl ?_
    refine wp_iload_n d140_0 rfl ?_
    refine wz_bipush d140_1 (by decide) ?_
    refine wz_icmp_lt (t := 27) d140_3 (by decide) ⟨by omega, by omega⟩ ⟨by omega, by omega⟩ (fun _ => ?_) (fun hb => absurd (by omega) hb)
    refine wp_iload_n d140_27 rfl ?_
    refine wz_bipush d140_28 (by decide) ?_
    refine wz_icmp_ne (t := 55) d140_30 (by decide) ⟨by omega, by omega⟩ ⟨by omega, by omega⟩ (fun _ => ?_) (fun hb => absurd hb (by omega))
    refine wp_iload_n d140_55 rfl ?_
    refine wz_bipush d140_56 (by decide) ?_
    refine wz_icmp_ne (t := 63) d140_58 (by decide) ⟨by omega, by omega⟩ ⟨by omega, by omega⟩ (fun _ => ?_) (fun hb => absurd hb (by omega))
    refine wp_iload_n d140_63 rfl ?_
    refine wz_bipush d140_64 (by decide) ?_
    refine wz_icmp_eq (t := 75) d140_66 (by decide) ⟨by omega, by omega⟩ ⟨by omega, by omega⟩ (fun hb => absurd hb (by omega)) (fun _ => ?_)
    refine wp_iload_n d140_69 rfl ?_
    refine wz_bipush d140_70 (by decide) ?_
    refine wz_icmp_ne (t := 195) d140_72 (by decide) ⟨by omega, by omega⟩ ⟨by omega, by omega⟩ (fun _ => ?_) (fun hb => absurd hb (by omega))
    refine wp_iload_n d140_195 rfl ?_
    refine wz_bipush d140_196 (by decide) ?_
    refine wz_icmp_ne (t := 206) d140_198 (by decide) ⟨by omega, by omega⟩ ⟨by omega, by omega⟩ (fun _ => ?_) (fun hb => absurd hb (by omega))
    refine wp_iload_n d140_206 rfl ?_
    refine wz_bipush d140_207 (by decide) ?_
    refine wz_icmp_ne (t := 217) d140_209 (by decide) ⟨by omega, by omega⟩ ⟨by omega, by omega⟩ (fun hb => absurd (by omega) hb) (fun _ => ?_)
    refine wz_bipush d140_212 (by decide) ?_
    refine wp_goto (t := 240) d140_214 (by decide) ?_
    refine wp_istore d140_240 (Nat.le_of_ble_eq_true rfl) rfl ?_
    refine wp_iload d140_242 rfl ?_
    refine wz_if_ge (t := 249) d140_244 (by decide) ⟨by omega, by omega⟩ (fun _ => ?_) (fun hb => absurd (by omega) hb)
    refine wp_aload_n d140_249 rfl ?_
    refine wp_iload d140_250 rfl ?_
    refine wz_iconst d140_252 ?_
    refine wp_iload_n d140_253 rfl ?_
    refine wp_iload d140_254 rfl ?_
    refine wp_virt (as := [.int (zI s), .int (zI (p : Int)), .int (zI 0), .int (zI 9)]) (rest := []) d140_256 rfl rfl rfl (hG.o (by decide) rfl) rfl rfl (Nat.le_of_ble_eq_true rfl) ?_
    refine m_addE (sc := sc) hG g1 g4 (by omega) ⟨by omega, by omega⟩ ⟨by omega, by omega⟩ ⟨by omega, by omega⟩ ⟨by omega, by omega⟩ (fun N2 f2 a5 a11 a16 a59 a60 a61 a62 r2 => ?_)
    have e2 : N2 56 16 = (l.length : Int) := a16.trans g6
    have x2 : EX N2 l := EX.same (f2 l.length) (Nat.le_refl _) g7
    refine wp_istore d140_259 (Nat.le_of_ble_eq_true rfl) rfl ?_
    refine wp_iload_n d140_261 rfl ?_
    refine wz_bipush d140_262 (by decide) ?_
    refine wz_icmp_ne (t := 278) d140_264 (by decide) ⟨by omega, by omega⟩ ⟨by omega, by omega⟩ (fun _ => ?_) (fun hb => absurd hb (by omega))
    refine wp_iload_n d140_278 rfl ?_
    refine wz_bipush d140_279 (by decide) ?_
    refine wz_icmp_eq (t := 310) d140_281 (by decide) ⟨by omega, by omega⟩ ⟨by omega, by omega⟩ (fun hb => absurd hb (by omega)) (fun _ => ?_)
    refine wp_aload_n d140_284 rfl ?_
    refine wp_iload_n d140_285 rfl ?_
    refine wz_bipush d140_286 (by decide) ?_
    refine wz_icmp_ne (t := 297) d140_288 (by decide) ⟨by omega, by omega⟩ ⟨by omega, by omega⟩ (fun hb => absurd (by omega) hb) (fun _ => ?_)
    refine wz_sipush d140_291 (by decide) ?_
    refine wp_goto (t := 300) d140_294 (by decide) ?_
    refine wp_iload_n d140_300 rfl ?_
    refine wz_iconst d140_301 ?_
    refine wz_iadd d140_302 ?_
    refine wp_iload d140_303 rfl ?_
    refine wp_iload d140_305 rfl ?_
    refine wp_virt (as := [.int (zI (nd : Int)), .int (zI s), .int (zI (dp + 1)), .int (zI 200)]) (rest := []) d140_307 rfl rfl rfl (hG.o (by decide) rfl) rfl rfl (Nat.le_of_ble_eq_true rfl) ?_
    refine m_expectE (nd := nd) (sc := sc) (l := l) hG r2 e2 (by first | omega | (simp only [List.length_cons]; omega)) x2 ⟨by omega, by omega⟩ ⟨by omega, by omega⟩ ⟨by omega, by omega⟩ ⟨by omega, by omega⟩ (fun N3 f3 b53 b113 e3 x3 bo3 r3 => ?_)
    refine wp_aload_n d140_310 rfl ?_
    refine wz_sipush d140_311 (by decide) ?_
    refine wp_iload_n d140_314 rfl ?_
    refine wz_iconst d140_315 ?_
    refine wz_iadd d140_316 ?_
    refine wp_iload d140_317 rfl ?_
    refine wp_iload d140_319 rfl ?_
    refine wp_virt (as := [.int (zI (nd : Int)), .int (zI s), .int (zI (dp + 1)), .int (zI 201)]) (rest := []) d140_321 rfl rfl rfl (hG.o (by decide) rfl) rfl rfl (Nat.le_of_ble_eq_true rfl) ?_
    refine m_expectE (nd := nd) (sc := sc) (l := ((200, dp + 1, s, (nd : Int)) :: l)) hG r3 e3 (by first | omega | (simp only [List.length_cons]; omega)) x3 ⟨by omega, by omega⟩ ⟨by omega, by omega⟩ ⟨by omega, by omega⟩ ⟨by omega, by omega⟩ (fun N4 f4 b54 b114 e4 x4 bo4 r4 => ?_)
    refine wp_iload_n d140_324 rfl ?_
    refine wz_bipush d140_325 (by decide) ?_
    refine wz_icmp_eq (t := 336) d140_327 (by decide) ⟨by omega, by omega⟩ ⟨by omega, by omega⟩ (fun hb => absurd hb (by omega)) (fun _ => ?_)
    refine wp_iload_n d140_330 rfl ?_
    refine wz_bipush d140_331 (by decide) ?_
    refine wz_icmp_ne (t := 360) d140_333 (by decide) ⟨by omega, by omega⟩ ⟨by omega, by omega⟩ (fun _ => ?_) (fun hb => absurd hb (by omega))
    refine wz_iconst d140_360 ?_
    have fr : MFr nd sc l.length N1 N4 := (((f2 l.length).trans (f3.low (Nat.le_refl _) (Nat.le_refl _) (by first | exact Nat.le_refl _ | (simp only [List.length_cons]; omega)))).trans (f4.low (Nat.le_refl _) (Nat.le_refl _) (by first | exact Nat.le_refl _ | (simp only [List.length_cons]; omega))))
    exact wp_ret d140_361 rfl (ret 1 N4 (fun _ => h64 c64 (by omega) N4 ⟨r4, MT.same fr g2, by omega, (b54.trans (b53.trans a5)), (b114.trans (b113.trans (a11.trans g5))), e4, x4, by omega, by omega, by omega, by omega⟩ ((fr0 nd sc l.length).trans fr) ⟨((bo4 59 _ (by decide) (by decide)).trans ((bo3 59 _ (by decide) (by decide)).trans a59)), ((bo4 61 _ (by decide) (by decide)).trans ((bo3 61 _ (by decide) (by decide)).trans a61)), ((bo4 62 _ (by decide) (by decide)).trans ((bo3 62 _ (by decide) (by decide)).trans a62))⟩) (fun e => by omega) (Or.inr rfl))
  by_cases c46 : chr tx ln p = 46
  · skip
    refine wc_in (ls0 := [some (.ref 56), some (.int (zI (chr tx ln p))), some (.int (zI (p : Int))), some (.int (zI dp)), some (.int (zI s)), none, none]) (by decide) (Nat.le_of_ble_eq_true rfl) rfl rfl ?_
    refine wp_iload_n d140_0 rfl ?_
    refine wz_bipush d140_1 (by decide) ?_
    refine wz_icmp_lt (t := 27) d140_3 (by decide) ⟨by omega, by omega⟩ ⟨by omega, by omega⟩ (fun _ => ?_) (fun hb => absurd (by omega) hb)
    refine wp_iload_n d140_27 rfl ?_
    refine wz_bipush d140_28 (by decide) ?_
    refine wz_icmp_ne (t := 55) d140_30 (by decide) ⟨by omega, by omega⟩ ⟨by omega, by omega⟩ (fun _ => ?_) (fun hb => absurd hb (by omega))
    refine wp_iload_n d140_55 rfl ?_
    refine wz_bipush d140_56 (by decide) ?_
    refine wz_icmp_ne (t := 63) d140_58 (by decide) ⟨by omega, by omega⟩ ⟨by omega, by omega⟩ (fun _ => ?_) (fun hb => absurd hb (by omega))
    refine wp_iload_n d140_63 rfl ?_
    refine wz_bipush d140_64 (by decide) ?_
    refine wz_icmp_eq (t := 75) d140_66 (by decide) ⟨by omega, by omega⟩ ⟨by omega, by omega⟩ (fun hb => absurd hb (by omega)) (fun _ => ?_)
    refine wp_iload_n d140_69 rfl ?_
    refine wz_bipush d140_70 (by decide) ?_
    refine wz_icmp_ne (t := 195) d140_72 (by decide) ⟨by omega, by omega⟩ ⟨by omega, by omega⟩ (fun _ => ?_) (fun hb => absurd hb (by omega))
    refine wp_iload_n d140_195 rfl ?_
    refine wz_bipush d140_196 (by decide) ?_
    refine wz_icmp_ne (t := 206) d140_198 (by decide) ⟨by omega, by omega⟩ ⟨by omega, by omega⟩ (fun _ => ?_) (fun hb => absurd hb (by omega))
    refine wp_iload_n d140_206 rfl ?_
    refine wz_bipush d140_207 (by decide) ?_
    refine wz_icmp_ne (t := 217) d140_209 (by decide) ⟨by omega, by omega⟩ ⟨by omega, by omega⟩ (fun _ => ?_) (fun hb => absurd hb (by omega))
    refine wp_iload_n d140_217 rfl ?_
    refine wz_bipush d140_218 (by decide) ?_
    refine wz_icmp_ne (t := 228) d140_220 (by decide) ⟨by omega, by omega⟩ ⟨by omega, by omega⟩ (fun hb => absurd (by omega) hb) (fun _ => ?_)
    refine wz_bipush d140_223 (by decide) ?_
    refine wp_goto (t := 240) d140_225 (by decide) ?_
    refine wp_istore d140_240 (Nat.le_of_ble_eq_true rfl) rfl ?_
    refine wp_iload d140_242 rfl ?_
    refine wz_if_ge (t := 249) d140_244 (by decide) ⟨by omega, by omega⟩ (fun _ => ?_) (fun hb => absurd (by omega) hb)
    refine wp_aload_n d140_249 rfl ?_
    refine wp_iload d140_250 rfl ?_
    refine wz_iconst d140_252 ?_
    refine wp_iload_n d140_253 rfl ?_
    refine wp_iload d140_254 rfl ?_
    refine wp_virt (as := [.int (zI s), .int (zI (p : Int)), .int (zI 0), .int (zI 11)]) (rest := []) d140_256 rfl rfl rfl (hG.o (by decide) rfl) rfl rfl (Nat.le_of_ble_eq_true rfl) ?_
    refine m_addE (sc := sc) hG g1 g4 (by omega) ⟨by omega, by omega⟩ ⟨by omega, by omega⟩ ⟨by omega, by omega⟩ ⟨by omega, by omega⟩ (fun N2 f2 a5 a11 a16 a59 a60 a61 a62 r2 => ?_)
    have e2 : N2 56 16 = (l.length : Int) := a16.trans g6
    have x2 : EX N2 l := EX.same (f2 l.length) (Nat.le_refl _) g7
    refine wp_istore d140_259 (Nat.le_of_ble_eq_true rfl) rfl ?_
    refine wp_iload_n d140_261 rfl ?_
    refine wz_bipush d140_262 (by decide) ?_
    refine wz_icmp_ne (t := 278) d140_264 (by decide) ⟨by omega, by omega⟩ ⟨by omega, by omega⟩ (fun _ => ?_) (fun hb => absurd hb (by omega))
    refine wp_iload_n d140_278 rfl ?_
    refine wz_bipush d140_279 (by decide) ?_
    refine wz_icmp_eq (t := 310) d140_281 (by decide) ⟨by omega, by omega⟩ ⟨by omega, by omega⟩ (fun _ => ?_) (fun hb => absurd (by omega) hb)
    refine wp_aload_n d140_310 rfl ?_
    refine wz_sipush d140_311 (by decide) ?_
    refine wp_iload_n d140_314 rfl ?_
    refine wz_iconst d140_315 ?_
    refine wz_iadd d140_316 ?_
    refine wp_iload d140_317 rfl ?_
    refine wp_iload d140_319 rfl ?_
    refine wp_virt (as := [.int (zI (nd : Int)), .int (zI s), .int (zI (dp + 1)), .int (zI 201)]) (rest := []) d140_321 rfl rfl rfl (hG.o (by decide) rfl) rfl rfl (Nat.le_of_ble_eq_true rfl) ?_
    refine m_expectE (nd := nd) (sc := sc) (l := l) hG r2 e2 (by first | omega | (simp only [List.length_cons]; omega)) x2 ⟨by omega, by omega⟩ ⟨by omega, by omega⟩ ⟨by omega, by omega⟩ ⟨by omega, by omega⟩ (fun N3 f3 b53 b113 e3 x3 bo3 r3 => ?_)
    refine wp_iload_n d140_324 rfl ?_
    refine wz_bipush d140_325 (by decide) ?_
    refine wz_icmp_eq (t := 336) d140_327 (by decide) ⟨by omega, by omega⟩ ⟨by omega, by omega⟩ (fun _ => ?_) (fun hb => absurd (by omega) hb)
    refine wp_aload_n d140_336 rfl ?_
    refine wp_iload_n d140_337 rfl ?_
    refine wz_bipush d140_338 (by decide) ?_
    refine wz_icmp_ne (t := 349) d140_340 (by decide) ⟨by omega, by omega⟩ ⟨by omega, by omega⟩ (fun hb => absurd (by omega) hb) (fun _ => ?_)
    refine wz_sipush d140_343 (by decide) ?_
    refine wp_goto (t := 352) d140_346 (by decide) ?_
    refine wp_iload_n d140_352 rfl ?_
    refine wp_iload d140_353 rfl ?_
    refine wp_iload d140_355 rfl ?_
    refine wp_virt (as := [.int (zI (nd : Int)), .int (zI s), .int (zI dp), .int (zI 210)]) (rest := []) d140_357 rfl rfl rfl (hG.o (by decide) rfl) rfl rfl (Nat.le_of_ble_eq_true rfl) ?_
    refine m_expectE (nd := nd) (sc := sc) (l := ((201, dp + 1, s, (nd : Int)) :: l)) hG r3 e3 (by first | omega | (simp only [List.length_cons]; omega)) x3 ⟨by omega, by omega⟩ ⟨by omega, by omega⟩ ⟨by omega, by omega⟩ ⟨by omega, by omega⟩ (fun N4 f4 b54 b114 e4 x4 bo4 r4 => ?_)
    refine wz_iconst d140_360 ?_
    have fr : MFr nd sc l.length N1 N4 := (((f2 l.length).trans (f3.low (Nat.le_refl _) (Nat.le_refl _) (by first | exact Nat.le_refl _ | (simp only [List.length_cons]; omega)))).trans (f4.low (Nat.le_refl _) (Nat.le_refl _) (by first | exact Nat.le_refl _ | (simp only [List.length_cons]; omega))))
    exact wp_ret d140_361 rfl (ret 1 N4 (fun _ => h46 c46 (by omega) N4 ⟨r4, MT.same fr g2, by omega, (b54.trans (b53.trans a5)), (b114.trans (b113.trans (a11.trans g5))), e4, x4, by omega, by omega, by omega, by omega⟩ ((fr0 nd sc l.length).trans fr) ⟨((bo4 59 _ (by decide) (by decide)).trans ((bo3 59 _ (by decide) (by decide)).trans a59)), ((bo4 61 _ (by decide) (by decide)).trans ((bo3 61 _ (by decide) (by decide)).trans a61)), ((bo4 62 _ (by decide) (by decide)).trans ((bo3 62 _ (by decide) (by decide)).trans a62))⟩) (fun e => by omega) (Or.inr rfl))
  by_cases c63 : chr tx ln p = 63
  · skip
    refine wc_in (ls0 := [some (.ref 56), some (.int (zI (chr tx ln p))), some (.int (zI (p : Int))), some (.int (zI dp)), some (.int (zI s)), none, none]) (by decide) (Nat.le_of_ble_eq_true rfl) rfl rfl ?_
    refine wp_iload_n d140_0 rfl ?_
    refine wz_bipush d140_1 (by decide) ?_
    refine wz_icmp_lt (t := 27) d140_3 (by decide) ⟨by omega, by omega⟩ ⟨by omega, by omega⟩ (fun _ => ?_) (fun hb => absurd (by omega) hb)
    refine wp_iload_n d140_27 rfl ?_
    refine wz_bipush d140_28 (by decide) ?_
    refine wz_icmp_ne (t := 55) d140_30 (by decide) ⟨by omega, by omega⟩ ⟨by omega, by omega⟩ (fun _ => ?_) (fun hb => absurd hb (by omega))
    refine wp_iload_n d140_55 rfl ?_
    refine wz_bipush d140_56 (by decide) ?_
    refine wz_icmp_ne (t := 63) d140_58 (by decide) ⟨by omega, by omega⟩ ⟨by omega, by omega⟩ (fun _ => ?_) (fun hb => absurd hb (by omega))
    refine wp_iload_n d140_63 rfl ?_
    refine wz_bipush d140_64 (by decide) ?_
    refine wz_icmp_eq (t := 75) d140_66 (by decide) ⟨by omega, by omega⟩ ⟨by omega, by omega⟩ (fun hb => absurd hb (by omega)) (fun _ => ?_)
    refine wp_iload_n d140_69 rfl ?_
    refine wz_bipush d140_70 (by decide) ?_
    refine wz_icmp_ne (t := 195) d140_72 (by decide) ⟨by omega, by omega⟩ ⟨by omega, by omega⟩ (fun _ => ?_) (fun hb => absurd hb (by omega))
    refine wp_iload_n d140_195 rfl ?_
    refine wz_bipush d140_196 (by decide) ?_
    refine wz_icmp_ne (t := 206) d140_198 (by decide) ⟨by omega, by omega⟩ ⟨by omega, by omega⟩ (fun _ => ?_) (fun hb => absurd hb (by omega))
    refine wp_iload_n d140_206 rfl ?_
    refine wz_bipush d140_207 (by decide) ?_
    refine wz_icmp_ne (t := 217) d140_209 (by decide) ⟨by omega, by omega⟩ ⟨by omega, by omega⟩ (fun _ => ?_) (fun hb => absurd hb (by omega))
    refine wp_iload_n d140_217 rfl ?_
    refine wz_bipush d140_218 (by decide) ?_
    refine wz_icmp_ne (t := 228) d140_220 (by decide) ⟨by omega, by omega⟩ ⟨by omega, by omega⟩ (fun _ => ?_) (fun hb => absurd hb (by omega))
    refine wp_iload_n d140_228 rfl ?_
    refine wz_bipush d140_229 (by decide) ?_
    refine wz_icmp_ne (t := 239) d140_231 (by decide) ⟨by omega, by omega⟩ ⟨by omega, by omega⟩ (fun hb => absurd (by omega) hb) (fun _ => ?_)
    refine wz_bipush d140_234 (by decide) ?_
    refine wp_goto (t := 240) d140_236 (by decide) ?_
    refine wp_istore d140_240 (Nat.le_of_ble_eq_true rfl) rfl ?_
    refine wp_iload d140_242 rfl ?_
    refine wz_if_ge (t := 249) d140_244 (by decide) ⟨by omega, by omega⟩ (fun _ => ?_) (fun hb => absurd (by omega) hb)
    refine wp_aload_n d140_249 rfl ?_
    refine wp_iload d140_250 rfl ?_
    refine wz_iconst d140_252 ?_
    refine wp_iload_n d140_253 rfl ?_
    refine wp_iload d140_254 rfl ?_
    refine wp_virt (as := [.int (zI s), .int (zI (p : Int)), .int (zI 0), .int (zI 12)]) (rest := []) d140_256 rfl rfl rfl (hG.o (by decide) rfl) rfl rfl (Nat.le_of_ble_eq_true rfl) ?_
    refine m_addE (sc := sc) hG g1 g4 (by omega) ⟨by omega, by omega⟩ ⟨by omega, by omega⟩ ⟨by omega, by omega⟩ ⟨by omega, by omega⟩ (fun N2 f2 a5 a11 a16 a59 a60 a61 a62 r2 => ?_)
    have e2 : N2 56 16 = (l.length : Int) := a16.trans g6
    have x2 : EX N2 l := EX.same (f2 l.length) (Nat.le_refl _) g7
    refine wp_istore d140_259 (Nat.le_of_ble_eq_true rfl) rfl ?_
    refine wp_iload_n d140_261 rfl ?_
    refine wz_bipush d140_262 (by decide) ?_
    refine wz_icmp_ne (t := 278) d140_264 (by decide) ⟨by omega, by omega⟩ ⟨by omega, by omega⟩ (fun _ => ?_) (fun hb => absurd hb (by omega))
    refine wp_iload_n d140_278 rfl ?_
    refine wz_bipush d140_279 (by decide) ?_
    refine wz_icmp_eq (t := 310) d140_281 (by decide) ⟨by omega, by omega⟩ ⟨by omega, by omega⟩ (fun hb => absurd hb (by omega)) (fun _ => ?_)
    refine wp_aload_n d140_284 rfl ?_
    refine wp_iload_n d140_285 rfl ?_
    refine wz_bipush d140_286 (by decide) ?_
    refine wz_icmp_ne (t := 297) d140_288 (by decide) ⟨by omega, by omega⟩ ⟨by omega, by omega⟩ (fun _ => ?_) (fun hb => absurd hb (by omega))
    refine wz_sipush d140_297 (by decide) ?_
    refine wp_iload_n d140_300 rfl ?_
    refine wz_iconst d140_301 ?_
    refine wz_iadd d140_302 ?_
    refine wp_iload d140_303 rfl ?_
    refine wp_iload d140_305 rfl ?_
    refine wp_virt (as := [.int (zI (nd : Int)), .int (zI s), .int (zI (dp + 1)), .int (zI 201)]) (rest := []) d140_307 rfl rfl rfl (hG.o (by decide) rfl) rfl rfl (Nat.le_of_ble_eq_true rfl) ?_
    refine m_expectE (nd := nd) (sc := sc) (l := l) hG r2 e2 (by first | omega | (simp only [List.length_cons]; omega)) x2 ⟨by omega, by omega⟩ ⟨by omega, by omega⟩ ⟨by omega, by omega⟩ ⟨by omega, by omega⟩ (fun N3 f3 b53 b113 e3 x3 bo3 r3 => ?_)
    refine wp_aload_n d140_310 rfl ?_
    refine wz_sipush d140_311 (by decide) ?_
    refine wp_iload_n d140_314 rfl ?_
    refine wz_iconst d140_315 ?_
    refine wz_iadd d140_316 ?_
    refine wp_iload d140_317 rfl ?_
    refine wp_iload d140_319 rfl ?_
    refine wp_virt (as := [.int (zI (nd : Int)), .int (zI s), .int (zI (dp + 1)), .int (zI 201)]) (rest := []) d140_321 rfl rfl rfl (hG.o (by decide) rfl) rfl rfl (Nat.le_of_ble_eq_true rfl) ?_
    refine m_expectE (nd := nd) (sc := sc) (l := ((201, dp + 1, s, (nd : Int)) :: l)) hG r3 e3 (by first | omega | (simp only [List.length_cons]; omega)) x3 ⟨by omega, by omega⟩ ⟨by omega, by omega⟩ ⟨by omega, by omega⟩ ⟨by omega, by omega⟩ (fun N4 f4 b54 b114 e4 x4 bo4 r4 => ?_)
    refine wp_iload_n d140_324 rfl ?_
    refine wz_bipush d140_325 (by decide) ?_
    refine wz_icmp_eq (t := 336) d140_327 (by decide) ⟨by omega, by omega⟩ ⟨by omega, by omega⟩ (fun hb => absurd hb (by omega)) (fun _ => ?_)
    refine wp_iload_n d140_330 rfl ?_
    refine wz_bipush d140_331 (by decide) ?_
    refine wz_icmp_ne (t := 360) d140_333 (by decide) ⟨by omega, by omega⟩ ⟨by omega, by omega⟩ (fun hb => absurd (by omega) hb) (fun _ => ?_)
    refine wp_aload_n d140_336 rfl ?_
    refine wp_iload_n d140_337 rfl ?_
    refine wz_bipush d140_338 (by decide) ?_
    refine wz_icmp_ne (t := 349) d140_340 (by decide) ⟨by omega, by omega⟩ ⟨by omega, by omega⟩ (fun _ => ?_) (fun hb => absurd hb (by omega))
    refine wz_sipush d140_349 (by decide) ?_
    refine wp_iload_n d140_352 rfl ?_
    refine wp_iload d140_353 rfl ?_
    refine wp_iload d140_355 rfl ?_
    refine wp_virt (as := [.int (zI (nd : Int)), .int (zI s), .int (zI dp), .int (zI 211)]) (rest := []) d140_357 rfl rfl rfl (hG.o (by decide) rfl) rfl rfl (Nat.le_of_ble_eq_true rfl) ?_
    refine m_expectE (nd := nd) (sc := sc) (l := ((201, dp + 1, s, (nd : Int)) :: ((201, dp + 1, s, (nd : Int)) :: l))) hG r4 e4 (by first | omega | (simp only [List.length_cons]; omega)) x4 ⟨by omega, by omega⟩ ⟨by omega, by omega⟩ ⟨by omega, by omega⟩ ⟨by omega, by omega⟩ (fun N5 f5 b55 b115 e5 x5 bo5 r5 => ?_)
    refine wz_iconst d140_360 ?_
    have fr : MFr nd sc l.length N1 N5 := ((((f2 l.length).trans (f3.low (Nat.le_refl _) (Nat.le_refl _) (by first | exact Nat.le_refl _ | (simp only [List.length_cons]; omega)))).trans (f4.low (Nat.le_refl _) (Nat.le_refl _) (by first | exact Nat.le_refl _ | (simp only [List.length_cons]; omega)))).trans (f5.low (Nat.le_refl _) (Nat.le_refl _) (by first | exact Nat.le_refl _ | (simp only [List.length_cons]; omega))))
    exact wp_ret d140_361 rfl (ret 1 N5 (fun _ => h63 c63 (by omega) N5 ⟨r5, MT.same fr g2, by omega, (b55.trans (b54.trans (b53.trans a5))), (b115.trans (b114.trans (b113.trans (a11.trans g5)))), e5, x5, by omega, by omega, by omega, by omega⟩ ((fr0 nd sc l.length).trans fr) ⟨((bo5 59 _ (by decide) (by decide)).trans ((bo4 59 _ (by decide) (by decide)).trans ((bo3 59 _ (by decide) (by decide)).trans a59))), ((bo5 61 _ (by decide) (by decide)).trans ((bo4 61 _ (by decide) (by decide)).trans ((bo3 61 _ (by decide) (by decide)).trans a61))), ((bo5 62 _ (by decide) (by decide)).trans ((bo4 62 _ (by decide) (by decide)).trans ((bo3 62 _ (by decide) (by decide)).trans a62)))⟩) (fun e => by omega) (Or.inr rfl))
  by_cases clo : chr tx ln p < 97
  · skip
    refine wc_in (ls0 := [some (.ref 56), some (.int (zI (chr tx ln p))), some (.int (zI (p : Int))), some (.int (zI dp)), some (.int (zI s)), none, none]) (by decide) (Nat.le_of_ble_eq_true rfl) rfl rfl ?_
    refine wp_iload_n d140_0 rfl ?_
    refine wz_bipush d140_1 (by decide) ?_
    refine wz_icmp_lt (t := 27) d140_3 (by decide) ⟨by omega, by omega⟩ ⟨by omega, by omega⟩ (fun _ => ?_) (fun hb => absurd (by omega) hb)
    refine wp_iload_n d140_27 rfl ?_
    refine wz_bipush d140_28 (by decide) ?_
    refine wz_icmp_ne (t := 55) d140_30 (by decide) ⟨by omega, by omega⟩ ⟨by omega, by omega⟩ (fun _ => ?_) (fun hb => absurd hb (by omega))
    refine wp_iload_n d140_55 rfl ?_
    refine wz_bipush d140_56 (by decide) ?_
    refine wz_icmp_ne (t := 63) d140_58 (by decide) ⟨by omega, by omega⟩ ⟨by omega, by omega⟩ (fun _ => ?_) (fun hb => absurd hb (by omega))
    refine wp_iload_n d140_63 rfl ?_
    refine wz_bipush d140_64 (by decide) ?_
    refine wz_icmp_eq (t := 75) d140_66 (by decide) ⟨by omega, by omega⟩ ⟨by omega, by omega⟩ (fun hb => absurd hb (by omega)) (fun _ => ?_)
    refine wp_iload_n d140_69 rfl ?_
    refine wz_bipush d140_70 (by decide) ?_
    refine wz_icmp_ne (t := 195) d140_72 (by decide) ⟨by omega, by omega⟩ ⟨by omega, by omega⟩ (fun _ => ?_) (fun hb => absurd hb (by omega))
    refine wp_iload_n d140_195 rfl ?_
    refine wz_bipush d140_196 (by decide) ?_
    refine wz_icmp_ne (t := 206) d140_198 (by decide) ⟨by omega, by omega⟩ ⟨by omega, by omega⟩ (fun _ => ?_) (fun hb => absurd hb (by omega))
    refine wp_iload_n d140_206 rfl ?_
    refine wz_bipush d140_207 (by decide) ?_
    refine wz_icmp_ne (t := 217) d140_209 (by decide) ⟨by omega, by omega⟩ ⟨by omega, by omega⟩ (fun _ => ?_) (fun hb => absurd hb (by omega))
    refine wp_iload_n d140_217 rfl ?_
    refine wz_bipush d140_218 (by decide) ?_
    refine wz_icmp_ne (t := 228) d140_220 (by decide) ⟨by omega, by omega⟩ ⟨by omega, by omega⟩ (fun _ => ?_) (fun hb => absurd hb (by omega))
    refine wp_iload_n d140_228 rfl ?_
    refine wz_bipush d140_229 (by decide) ?_
    refine wz_icmp_ne (t := 239) d140_231 (by decide) ⟨by omega, by omega⟩ ⟨by omega, by omega⟩ (fun _ => ?_) (fun hb => absurd hb (by omega))
    refine wz_iconst d140_239 ?_
    refine wp_istore d140_240 (Nat.le_of_ble_eq_true rfl) rfl ?_
    refine wp_iload d140_242 rfl ?_
    refine wz_if_ge (t := 249) d140_244 (by decide) ⟨by omega, by omega⟩ (fun hb => absurd hb (by omega)) (fun _ => ?_)
    refine wz_iconst d140_247 ?_
    exact wp_ret d140_248 rfl (ret 0 N1 (fun e => by omega) (fun _ => h0 cW c123 (Or.inr ⟨c92, c47, c40, c64, c46, c63⟩) N1 fr0 g1) (Or.inl rfl))
  · skip
    refine wc_in (ls0 := [some (.ref 56), some (.int (zI (chr tx ln p))), some (.int (zI (p : Int))), some (.int (zI dp)), some (.int (zI s)), none, none]) (by decide) (Nat.le_of_ble_eq_true rfl) rfl rfl ?_
    refine wp_iload_n d140_0 rfl ?_
    refine wz_bipush d140_1 (by decide) ?_
    refine wz_icmp_lt (t := 27) d140_3 (by decide) ⟨by omega, by omega⟩ ⟨by omega, by omega⟩ (fun hb => absurd hb (by omega)) (fun _ => ?_)
    refine wp_iload_n d140_6 rfl ?_
    refine wz_bipush d140_7 (by decide) ?_
    refine wz_icmp_gt (t := 27) d140_9 (by decide) ⟨by omega, by omega⟩ ⟨by omega, by omega⟩ (fun _ => ?_) (fun hb => absurd (by omega) hb)
    refine wp_iload_n d140_27 rfl ?_
    refine wz_bipush d140_28 (by decide) ?_
    refine wz_icmp_ne (t := 55) d140_30 (by decide) ⟨by omega, by omega⟩ ⟨by omega, by omega⟩ (fun _ => ?_) (fun hb => absurd hb (by omega))
    refine wp_iload_n d140_55 rfl ?_
    refine wz_bipush d140_56 (by decide) ?_
    refine wz_icmp_ne (t := 63) d140_58 (by decide) ⟨by omega, by omega⟩ ⟨by omega, by omega⟩ (fun _ => ?_) (fun hb => absurd hb (by omega))
    refine wp_iload_n d140_63 rfl ?_
    refine wz_bipush d140_64 (by decide) ?_
    refine wz_icmp_eq (t := 75) d140_66 (by decide) ⟨by omega, by omega⟩ ⟨by omega, by omega⟩ (fun hb => absurd hb (by omega)) (fun _ => ?_)
    refine wp_iload_n d140_69 rfl ?_
    refine wz_bipush d140_70 (by decide) ?_
    refine wz_icmp_ne (t := 195) d140_72 (by decide) ⟨by omega, by omega⟩ ⟨by omega, by omega⟩ (fun _ => ?_) (fun hb => absurd hb (by omega))
    refine wp_iload_n d140_195 rfl ?_
    refine wz_bipush d140_196 (by decide) ?_
    refine wz_icmp_ne (t := 206) d140_198 (by decide) ⟨by omega, by omega⟩ ⟨by omega, by omega⟩ (fun _ => ?_) (fun hb => absurd hb (by omega))
    refine wp_iload_n d140_206 rfl ?_
    refine wz_bipush d140_207 (by decide) ?_
    refine wz_icmp_ne (t := 217) d140_209 (by decide) ⟨by omega, by omega⟩ ⟨by omega, by omega⟩ (fun _ => ?_) (fun hb => absurd hb (by omega))
    refine wp_iload_n d140_217 rfl ?_
    refine wz_bipush d140_218 (by decide) ?_
    refine wz_icmp_ne (t := 228) d140_220 (by decide) ⟨by omega, by omega⟩ ⟨by omega, by omega⟩ (fun _ => ?_) (fun hb => absurd hb (by omega))
    refine wp_iload_n d140_228 rfl ?_
    refine wz_bipush d140_229 (by decide) ?_
    refine wz_icmp_ne (t := 239) d140_231 (by decide) ⟨by omega, by omega⟩ ⟨by omega, by omega⟩ (fun _ => ?_) (fun hb => absurd hb (by omega))
    refine wz_iconst d140_239 ?_
    refine wp_istore d140_240 (Nat.le_of_ble_eq_true rfl) rfl ?_
    refine wp_iload d140_242 rfl ?_
    refine wz_if_ge (t := 249) d140_244 (by decide) ⟨by omega, by omega⟩ (fun hb => absurd hb (by omega)) (fun _ => ?_)
    refine wz_iconst d140_247 ?_
    exact wp_ret d140_248 rfl (ret 0 N1 (fun e => by omega) (fun _ => h0 cW c123 (Or.inr ⟨c92, c47, c40, c64, c46, c63⟩) N1 fr0 g1) (Or.inl rfl))
theorem l_arg210 {b c : Int} {m nd0 : Nat} (hG : pm_G Rf K L n) (h : MS tx ln N p nd sc ((210, b, c, (m : Int)) :: l)) (hl : l.length < 250) (hm : m < 128) (hnd : nd0 ≤ m) (h1 : 120 ≤ chr tx ln p ∧ chr tx ln p ≤ 122 → p < ln → ∀ N' : pm_M, MS tx ln N' (p + 1) nd sc l → (∀ b c, MFr nd0 b c N N') → N' 60 m = chr tx ln p - 120 → (∀ q i, ¬ (q = 60 ∧ i = (m : Int)) → q ≠ 56 → N' q i = N q i) → LH (d + 1) wt (p + 1) (zM N', Rf, K, L, n, s0) Q) (h0 : ¬ (120 ≤ chr tx ln p ∧ chr tx ln p ≤ 122) → ∀ N' : pm_M, (∀ b c, MFr nd0 b c N N') → (∀ p i, R32 (N' p i)) → Q (some (.int (zI (p : Int)))) (zM N', Rf, K, L, n, s0)) : LH (d + 1) wt p (zM N, Rf, K, L, n, s0) Q := by
  have hc := h.2.1.cha p
  have l60 := h.2.1.2.1
  have hpl := h.2.2.1
  by_cases hlt : p < ln
  · refine m_step hG h.2.1 hlt ?_
    refine m_takeH hG h.2.2.2.2.2.1 hl h.2.2.2.2.2.2.1 ?_
    obtain ⟨P1, P2⟩ := h.pop hlt
    have fr : ∀ b c, MFr nd0 b c N (mset (mset N 56 16 (l.length : Int)) 60 (m : Int) (chr tx ln p - 120)) := fun b c => ((MFr.refl N).set (by unfold WMr; omega)).set (by unfold WMr; omega)
    have r32 : ∀ p' i, R32 ((mset (mset N 56 16 (l.length : Int)) 60 (m : Int) (chr tx ln p - 120)) p' i) := mset_R32 P1.1 ⟨by omega, by omega⟩
    have key : ∀ v : Int, (v = 1 ∧ (120 ≤ chr tx ln p ∧ chr tx ln p ≤ 122)) ∨ (v = 0 ∧ ¬ (120 ≤ chr tx ln p ∧ chr tx ln p ≤ 122)) → pm_Wp none (d + 1) 143 46 [some (.ref 56), some (.int (zI wt)), some (.int (zI (p : Int)))] [.int (zI v)] (zM (mset (mset N 56 16 (l.length : Int)) 60 (m : Int) (chr tx ln p - 120)), Rf, K, L, n, s0) Q := by
      intro v hv
      rcases hv with ⟨rfl, e'⟩ | ⟨rfl, e'⟩
      · refine m_go1 (by omega) (h1 e' hlt _ ?_ fr (mset_s _ _ _ _) (fun q i q1 q2 => by unfold mset; rw [if_neg q1, if_neg (by omega)]))
        have fr2 : ∀ c, MFr 0 0 c (mset N 56 16 (l.length : Int)) (mset (mset N 56 16 (l.length : Int)) 60 (m : Int) (chr tx ln p - 120)) := fun c => (MFr.refl _).set (by unfold WMr; omega)
        obtain ⟨g1, g2, g3, g4, g5, g6, g7, g8, g9, g10, g11⟩ := P1
        exact ⟨r32, MT.same (fr2 0) g2, g3, by rw [mset_p _ _ _ _ (by decide)]; exact g4, by rw [mset_p _ _ _ _ (by decide)]; exact g5, by rw [mset_p _ _ _ _ (by decide)]; exact g6, EX.same (fr2 l.length) (Nat.le_refl _) g7, g8, g9, g10, g11⟩
      · exact m_go0 (h0 e' _ fr r32)
    have et : tx p = chr tx ln p := by omega
    rw [et]
    refine wp_iload_n d142_62 rfl ?_
    refine wz_sipush d142_63 (by decide) ?_
    refine wz_icmp_ne (t := 80) d142_66 (by decide) ⟨by omega, by omega⟩ ⟨by omega, by omega⟩ (fun _ => ?_) (fun hb => absurd hb (by decide))
    refine wp_iload_n d142_80 rfl ?_
    refine wz_sipush d142_81 (by decide) ?_
    refine wz_icmp_ne (t := 98) d142_84 (by decide) ⟨by omega, by omega⟩ ⟨by omega, by omega⟩ (fun _ => ?_) (fun hb => absurd hb (by decide))
    refine wp_iload_n d142_98 rfl ?_
    refine wz_sipush d142_99 (by decide) ?_
    refine wz_icmp_eq (t := 112) d142_102 (by decide) ⟨by omega, by omega⟩ ⟨by omega, by omega⟩ (fun hb => absurd hb (by decide)) (fun _ => ?_)
    refine wp_iload_n d142_105 rfl ?_
    refine wz_sipush d142_106 (by decide) ?_
    refine wz_icmp_ne (t := 164) d142_109 (by decide) ⟨by omega, by omega⟩ ⟨by omega, by omega⟩ (fun _ => ?_) (fun hb => absurd hb (by decide))
    refine wp_iload_n d142_164 rfl ?_
    refine wz_sipush d142_165 (by decide) ?_
    refine wz_icmp_eq (t := 178) d142_168 (by decide) ⟨by omega, by omega⟩ ⟨by omega, by omega⟩ (fun _ => ?_) (fun hb => absurd (by decide) hb)
    refine wp_iload_n d142_178 rfl ?_
    refine wz_sipush d142_179 (by decide) ?_
    refine wz_icmp_ne (t := 190) d142_182 (by decide) ⟨by omega, by omega⟩ ⟨by omega, by omega⟩ (fun hb => absurd (by decide) hb) (fun _ => ?_)
    refine wz_bipush d142_185 (by decide) ?_
    refine wp_goto (t := 192) d142_187 (by decide) ?_
    refine wp_istore d142_192 (Nat.le_of_ble_eq_true rfl) rfl ?_
    refine wp_aload_n d142_194 rfl ?_
    refine wp_getR (q := 60) d142_195 rfl (hG.o (by decide) rfl) (by decide) (hG.r (by decide +kernel)) (by decide) ?_
    refine wp_iload d142_198 rfl ?_
    refine wp_iload_n d142_200 rfl ?_
    refine wp_iload d142_201 rfl ?_
    refine wz_isub d142_203 ?_
    refine wz_iast (z := 128) d142_204 (hG.a (by decide) rfl rfl) (by omega) (by omega) (by decide) ?_
    refine wp_iload_n d142_205 rfl ?_
    refine wp_iload d142_206 rfl ?_
    refine wz_icmp_lt (t := 233) d142_208 (by decide) ⟨by omega, by omega⟩ ⟨by omega, by omega⟩ (fun hb1 => ?_) (fun hb1 => ?_)
    · skip
      refine wz_iconst d142_233 ?_
      exact wp_ret d142_234 rfl (key 0 (Or.inr ⟨rfl, by omega⟩))
    refine wp_iload_n d142_211 rfl ?_
    refine wp_iload_n d142_212 rfl ?_
    refine wz_sipush d142_213 (by decide) ?_
    refine wz_icmp_ne (t := 224) d142_216 (by decide) ⟨by omega, by omega⟩ ⟨by omega, by omega⟩ (fun hb => absurd (by decide) hb) (fun _ => ?_)
    refine wz_bipush d142_219 (by decide) ?_
    refine wp_goto (t := 226) d142_221 (by decide) ?_
    refine wz_icmp_gt (t := 233) d142_226 (by decide) ⟨by omega, by omega⟩ ⟨by omega, by omega⟩ (fun hb2 => ?_) (fun hb2 => ?_)
    · skip
      refine wz_iconst d142_233 ?_
      exact wp_ret d142_234 rfl (key 0 (Or.inr ⟨rfl, by omega⟩))
    · skip
      refine wz_iconst d142_229 ?_
      refine wp_goto (t := 234) d142_230 (by decide) ?_
      exact wp_ret d142_234 rfl (key 1 (Or.inl ⟨rfl, by omega, by omega⟩))
  · have e : p = ln := by omega
    have he := h.2.2.2.2.2.1
    rw [List.length_cons] at he
    refine m_over hG h.2.1 e he (by omega) (fun _ => ?_) (fun e => by omega)
    rw [← e]
    exact h0 (by omega) N (fun a c => MFr.refl _) h.1
theorem l_arg211 {b c : Int} {m nd0 : Nat} (hG : pm_G Rf K L n) (h : MS tx ln N p nd sc ((211, b, c, (m : Int)) :: l)) (hl : l.length < 250) (hm : m < 128) (hnd : nd0 ≤ m) (h1 : 48 ≤ chr tx ln p ∧ chr tx ln p ≤ 49 → p < ln → ∀ N' : pm_M, MS tx ln N' (p + 1) nd sc l → (∀ b c, MFr nd0 b c N N') → N' 60 m = chr tx ln p - 48 → (∀ q i, ¬ (q = 60 ∧ i = (m : Int)) → q ≠ 56 → N' q i = N q i) → LH (d + 1) wt (p + 1) (zM N', Rf, K, L, n, s0) Q) (h0 : ¬ (48 ≤ chr tx ln p ∧ chr tx ln p ≤ 49) → ∀ N' : pm_M, (∀ b c, MFr nd0 b c N N') → (∀ p i, R32 (N' p i)) → Q (some (.int (zI (p : Int)))) (zM N', Rf, K, L, n, s0)) : LH (d + 1) wt p (zM N, Rf, K, L, n, s0) Q := by
  have hc := h.2.1.cha p
  have l60 := h.2.1.2.1
  have hpl := h.2.2.1
  by_cases hlt : p < ln
  · refine m_step hG h.2.1 hlt ?_
    refine m_takeH hG h.2.2.2.2.2.1 hl h.2.2.2.2.2.2.1 ?_
    obtain ⟨P1, P2⟩ := h.pop hlt
    have fr : ∀ b c, MFr nd0 b c N (mset (mset N 56 16 (l.length : Int)) 60 (m : Int) (chr tx ln p - 48)) := fun b c => ((MFr.refl N).set (by unfold WMr; omega)).set (by unfold WMr; omega)
    have r32 : ∀ p' i, R32 ((mset (mset N 56 16 (l.length : Int)) 60 (m : Int) (chr tx ln p - 48)) p' i) := mset_R32 P1.1 ⟨by omega, by omega⟩
    have key : ∀ v : Int, (v = 1 ∧ (48 ≤ chr tx ln p ∧ chr tx ln p ≤ 49)) ∨ (v = 0 ∧ ¬ (48 ≤ chr tx ln p ∧ chr tx ln p ≤ 49)) → pm_Wp none (d + 1) 143 46 [some (.ref 56), some (.int (zI wt)), some (.int (zI (p : Int)))] [.int (zI v)] (zM (mset (mset N 56 16 (l.length : Int)) 60 (m : Int) (chr tx ln p - 48)), Rf, K, L, n, s0) Q := by
      intro v hv
      rcases hv with ⟨rfl, e'⟩ | ⟨rfl, e'⟩
      · refine m_go1 (by omega) (h1 e' hlt _ ?_ fr (mset_s _ _ _ _) (fun q i q1 q2 => by unfold mset; rw [if_neg q1, if_neg (by omega)]))
        have fr2 : ∀ c, MFr 0 0 c (mset N 56 16 (l.length : Int)) (mset (mset N 56 16 (l.length : Int)) 60 (m : Int) (chr tx ln p - 48)) := fun c => (MFr.refl _).set (by unfold WMr; omega)
        obtain ⟨g1, g2, g3, g4, g5, g6, g7, g8, g9, g10, g11⟩ := P1
        exact ⟨r32, MT.same (fr2 0) g2, g3, by rw [mset_p _ _ _ _ (by decide)]; exact g4, by rw [mset_p _ _ _ _ (by decide)]; exact g5, by rw [mset_p _ _ _ _ (by decide)]; exact g6, EX.same (fr2 l.length) (Nat.le_refl _) g7, g8, g9, g10, g11⟩
      · exact m_go0 (h0 e' _ fr r32)
    have et : tx p = chr tx ln p := by omega
    rw [et]
    refine wp_iload_n d142_62 rfl ?_
    refine wz_sipush d142_63 (by decide) ?_
    refine wz_icmp_ne (t := 80) d142_66 (by decide) ⟨by omega, by omega⟩ ⟨by omega, by omega⟩ (fun _ => ?_) (fun hb => absurd hb (by decide))
    refine wp_iload_n d142_80 rfl ?_
    refine wz_sipush d142_81 (by decide) ?_
    refine wz_icmp_ne (t := 98) d142_84 (by decide) ⟨by omega, by omega⟩ ⟨by omega, by omega⟩ (fun _ => ?_) (fun hb => absurd hb (by decide))
    refine wp_iload_n d142_98 rfl ?_
    refine wz_sipush d142_99 (by decide) ?_
    refine wz_icmp_eq (t := 112) d142_102 (by decide) ⟨by omega, by omega⟩ ⟨by omega, by omega⟩ (fun hb => absurd hb (by decide)) (fun _ => ?_)
    refine wp_iload_n d142_105 rfl ?_
    refine wz_sipush d142_106 (by decide) ?_
    refine wz_icmp_ne (t := 164) d142_109 (by decide) ⟨by omega, by omega⟩ ⟨by omega, by omega⟩ (fun _ => ?_) (fun hb => absurd hb (by decide))
    refine wp_iload_n d142_164 rfl ?_
    refine wz_sipush d142_165 (by decide) ?_
    refine wz_icmp_eq (t := 178) d142_168 (by decide) ⟨by omega, by omega⟩ ⟨by omega, by omega⟩ (fun hb => absurd hb (by decide)) (fun _ => ?_)
    refine wp_iload_n d142_171 rfl ?_
    refine wz_sipush d142_172 (by decide) ?_
    refine wz_icmp_ne (t := 235) d142_175 (by decide) ⟨by omega, by omega⟩ ⟨by omega, by omega⟩ (fun hb => absurd (by decide) hb) (fun _ => ?_)
    refine wp_iload_n d142_178 rfl ?_
    refine wz_sipush d142_179 (by decide) ?_
    refine wz_icmp_ne (t := 190) d142_182 (by decide) ⟨by omega, by omega⟩ ⟨by omega, by omega⟩ (fun _ => ?_) (fun hb => absurd hb (by decide))
    refine wz_bipush d142_190 (by decide) ?_
    refine wp_istore d142_192 (Nat.le_of_ble_eq_true rfl) rfl ?_
    refine wp_aload_n d142_194 rfl ?_
    refine wp_getR (q := 60) d142_195 rfl (hG.o (by decide) rfl) (by decide) (hG.r (by decide +kernel)) (by decide) ?_
    refine wp_iload d142_198 rfl ?_
    refine wp_iload_n d142_200 rfl ?_
    refine wp_iload d142_201 rfl ?_
    refine wz_isub d142_203 ?_
    refine wz_iast (z := 128) d142_204 (hG.a (by decide) rfl rfl) (by omega) (by omega) (by decide) ?_
    refine wp_iload_n d142_205 rfl ?_
    refine wp_iload d142_206 rfl ?_
    refine wz_icmp_lt (t := 233) d142_208 (by decide) ⟨by omega, by omega⟩ ⟨by omega, by omega⟩ (fun hb1 => ?_) (fun hb1 => ?_)
    · skip
      refine wz_iconst d142_233 ?_
      exact wp_ret d142_234 rfl (key 0 (Or.inr ⟨rfl, by omega⟩))
    refine wp_iload_n d142_211 rfl ?_
    refine wp_iload_n d142_212 rfl ?_
    refine wz_sipush d142_213 (by decide) ?_
    refine wz_icmp_ne (t := 224) d142_216 (by decide) ⟨by omega, by omega⟩ ⟨by omega, by omega⟩ (fun _ => ?_) (fun hb => absurd hb (by decide))
    refine wz_bipush d142_224 (by decide) ?_
    refine wz_icmp_gt (t := 233) d142_226 (by decide) ⟨by omega, by omega⟩ ⟨by omega, by omega⟩ (fun hb2 => ?_) (fun hb2 => ?_)
    · skip
      refine wz_iconst d142_233 ?_
      exact wp_ret d142_234 rfl (key 0 (Or.inr ⟨rfl, by omega⟩))
    · skip
      refine wz_iconst d142_229 ?_
      refine wp_goto (t := 234) d142_230 (by decide) ?_
      exact wp_ret d142_234 rfl (key 1 (Or.inl ⟨rfl, by omega, by omega⟩))
  · have e : p = ln := by omega
    have he := h.2.2.2.2.2.1
    rw [List.length_cons] at he
    refine m_over hG h.2.1 e he (by omega) (fun _ => ?_) (fun e => by omega)
    rw [← e]
    exact h0 (by omega) N (fun a c => MFr.refl _) h.1
end PmM40
