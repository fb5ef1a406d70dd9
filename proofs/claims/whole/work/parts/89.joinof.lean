/-! THE CLASS: joinOf; joins and meets of every height. -/
/-- a bound's bounds stand further out -/
theorem exps_lv {Γ : List Ty} {k k' : Nat} (hcx : okc Γ) (hk : k < Γ.length) (e : lft k (Γ.length - k) (bnd Γ k) = tVar k') : k' < k := by
  have ob := okc_bnd hcx hk
  rcases ok_cases ob with e' | ⟨v, hv', e'⟩ | ⟨x, y, e', -, -⟩ | ⟨x, y, e', -, -⟩ | ⟨m, x, y, w, hm, e', -, -, -⟩
  · rw [e', lft_top] at e
    have e2 : hd tTop = hd (tVar k') := by rw [e]
    rw [hd_top, hd_var] at e2; omega
  · rw [e', lft_var, if_neg (by omega)] at e
    have : v = k' := by
      have e2 : hd (tVar v) = hd (tVar k') := by rw [e]
      rw [hd_var, hd_var] at e2
      omega
    omega
  · rw [e', lft_fun] at e
    have e2 : hd (tFun (lft k (Γ.length - k) x) (lft k (Γ.length - k) y)) = hd (tVar k') := by rw [e]
    rw [hd_fun, hd_var] at e2; omega
  · rw [e', lft_all] at e
    have e2 : hd (tAll (lft k (Γ.length - k) x) (lft k (Γ.length - k) y)) = hd (tVar k') := by rw [e]
    rw [hd_all, hd_var] at e2; omega
  · rw [e', lft_rec hm] at e
    have e2 : hd (tRec m (lft k (Γ.length - k) x) (lft k (Γ.length - k) y) (lft k (Γ.length - k) w)) = hd (tVar k') := by rw [e]
    rw [hd_rec, hd_var] at e2; omega
/-- how often a type may still be put up to its bound -/
def lv (S : Ty) : Nat := hd S - 15
theorem lv_var (k : Nat) : lv (tVar k) = k + 1 := by unfold lv; rw [hd_var]; omega
theorem lv_le {d : Nat} {t : Ty} (h : ok d t = true) : lv t ≤ d := by
  by_cases hv : 16 ≤ hd t
  · obtain ⟨k', hk', e⟩ := hd_is_var h hv
    rw [e, lv_var]
    omega
  · unfold lv; omega
theorem lv_exps {Γ : List Ty} {k : Nat} (hcx : okc Γ) (hk : k < Γ.length) : lv (lft k (Γ.length - k) (bnd Γ k)) ≤ k := by
  by_cases hv : 16 ≤ hd (lft k (Γ.length - k) (bnd Γ k))
  · obtain ⟨k', hk', e⟩ := hd_is_var (ok_expose hcx hk) hv
    rw [e, lv_var]
    have := exps_lv hcx hk e
    omega
  · unfold lv; omega
theorem ndf_top {M : pm_M} {Rf : Nat → Nat → Nat} {cn : Int} {N : Nat} : ndf M Rf cn 1 tTop 0 → ndf M Rf cn (N + 1) tTop 0 := fun h => ndf_mono (fun _ _ _ _ _ => rfl) (Int.le_refl _) (by omega) h
set_option maxRecDepth 20000 in
set_option maxHeartbeats 2000000 in
theorem c_joinOf {F d : Nat} (IHj : JC 0 52 d F) (IHm : JC 1 55 d F) : JC 0 52 d (F + 1) := by
  intro Γ S T i j deep M Rf K L n s z cn Q bh top hh hc hdp hΓ hw h
  have bh0 := bh
  obtain ⟨hG, hR, hM, hcn, c1, cz, tk, bn, nS, nT, lS, lT⟩ := bh
  have hn := hG.1
  have hcx : okc Γ := tk.1
  have loop : ∀ (r c : Nat) (S1 T1 : Ty) (f g : Int) (M1 : pm_M) (R1 : Nat → Nat → Nat) (K1 L1 : Nat → Nat) (n1 s1 z1 : Nat) (cn1 : Int), c + r = 2 * Γ.length + 1 → lv S1 + lv T1 + 1 ≤ r → CX (WB Γ.length) M Rf K L n s z cn M1 R1 K1 L1 n1 s1 z1 → cn ≤ cn1 → BH M1 R1 K1 L1 n1 z1 cn1 Γ S1 T1 f g → cmu 0 Γ S T = cmu 0 Γ S1 T1 → hgt (oh Γ) S1 + hgt (oh Γ) T1 ≤ 2 * (F + 1) → hgt (oh Γ) S1 + hgt (oh Γ) T1 ≤ hgt (oh Γ) S + hgt (oh Γ) T → cn1 + (nbm 0 Γ S1 T1 : Nat) ≤ cn + (nbm 0 Γ S T : Nat) → gn (0, Γ, S1, T1) ≤ gn (0, Γ, S, T) → pm_Wp none (d + 8 * (F + 1) + 89) 52 18 [some (.ref 6), some (.int (zI i)), some (.int (zI j)), some (.int (zI (Γ.length : Int))), some (.int (zI (deep : Int))), some (.int (zI f)), some (.int (zI g)), some (.int (zI (c : Int)))] [] (zM M1, R1, K1, L1, n1, s1) Q := by
    intro r
    induction r with
    | zero => intro c S1 T1 f g M1 R1 K1 L1 n1 s1 z1 cn1 hcr hlv; omega
    | succ r ih =>
      intro c S1 T1 f g M1 R1 K1 L1 n1 s1 z1 cn1 hcr hlv cx hcc bh1 ev hh1 hh2 hc1 hw1
      refine wp_iload d52_18 rfl ?_
      refine wz_iconst d52_20 ?_
      refine wp_iload_n d52_21 rfl ?_
      refine wz_imul d52_22 ?_
      refine wz_icmp_gt (t := 120) d52_23 (by decide) ⟨by omega, by omega⟩ ⟨by omega, by omega⟩ (fun hb => absurd hb (by omega)) (fun _ => ?_)
      refine wp_aload_n d52_26 rfl ?_
      refine wp_iload d52_27 rfl ?_
      refine wp_iload d52_29 rfl ?_
      refine wp_iload_n d52_31 rfl ?_
      refine wp_iload d52_32 rfl ?_
      refine wp_virt (as := [.int (zI (deep : Int)), .int (zI (Γ.length : Int)), .int (zI g), .int (zI f)]) (rest := []) d52_34 rfl rfl rfl (cx.g.o (by decide) rfl) rfl rfl (Nat.le_of_ble_eq_true rfl) ?_
      refine wc_deep (show 0 + 3 * (F + 1) + 26 ≤ d + 8 * (F + 1) + 89 by omega) ?_
      refine c_isBelow (F + 1) 0 Γ S1 T1 f g deep M1 R1 K1 L1 n1 s1 z1 cn1 _ bh1 hh1 (by omega) hdp hΓ (fun M2 R2 K2 L2 n2 s2 z2 cx2 m62 => ?_)
      have bh2 := bh1.move cx2 m62
      have cxx := cx.trans cx2 hcc
      have tk1 : tok (Γ, S1, T1) := by obtain ⟨-, -, -, -, -, -, t, -⟩ := bh1; exact t
      have cz1 : cn1 ≤ z1 := by obtain ⟨-, -, -, -, -, t, -⟩ := bh1; exact t
      have hz2 := cx2.zz
      by_cases b1 : bel Γ S1 T1 = true
      · rw [if_pos b1]
        refine wz_if_eq (t := 43) d52_37 (by decide) ⟨by omega, by omega⟩ (fun hb => absurd hb (by decide)) (fun _ => ?_)
        refine wp_iload d52_40 rfl ?_
        refine wp_ret d52_42 rfl (h M2 R2 K2 L2 n2 s2 z2 cn1 g cxx m62 hcc (by omega) (by omega) ?_)
        rw [ev, cu_lo tk1 (by decide) b1]
        obtain ⟨-, -, -, -, -, -, -, -, -, nT2, -, -⟩ := bh2
        exact ndf_mono (fun _ _ _ _ _ => rfl) (Int.le_refl _) (by omega) nT2
      rw [if_neg b1]
      refine wz_if_eq (t := 43) d52_37 (by decide) ⟨by omega, by omega⟩ (fun _ => ?_) (fun hb => absurd (by decide) hb)
      refine wp_aload_n d52_43 rfl ?_
      refine wp_iload d52_44 rfl ?_
      refine wp_iload d52_46 rfl ?_
      refine wp_iload_n d52_48 rfl ?_
      refine wp_iload d52_49 rfl ?_
      refine wp_virt (as := [.int (zI (deep : Int)), .int (zI (Γ.length : Int)), .int (zI f), .int (zI g)]) (rest := []) d52_51 rfl rfl rfl (cx2.g.o (by decide) rfl) rfl rfl (Nat.le_of_ble_eq_true rfl) ?_
      refine wc_deep (show 0 + 3 * (F + 1) + 26 ≤ d + 8 * (F + 1) + 89 by omega) ?_
      refine c_isBelow (F + 1) 0 Γ T1 S1 g f deep M2 R2 K2 L2 n2 s2 z2 cn1 _ bh2.swap (by omega) (by omega) hdp hΓ (fun M3 R3 K3 L3 n3 s3 z3 cx3 m63 => ?_)
      have bh3 := bh2.move cx3 m63
      have cx13 := cxx.trans cx3 hcc
      have hz3 := cx3.zz
      by_cases b2 : bel Γ T1 S1 = true
      · rw [if_pos b2]
        refine wz_if_eq (t := 60) d52_54 (by decide) ⟨by omega, by omega⟩ (fun hb => absurd hb (by decide)) (fun _ => ?_)
        refine wp_iload d52_57 rfl ?_
        refine wp_ret d52_59 rfl (h M3 R3 K3 L3 n3 s3 z3 cn1 f cx13 m63 hcc (by omega) (by omega) ?_)
        rw [ev, cu_hi tk1 (by decide) b1 b2]
        obtain ⟨-, -, -, -, -, -, -, -, nS3, -, -, -⟩ := bh3
        exact ndf_mono (fun _ _ _ _ _ => rfl) (Int.le_refl _) (by omega) nS3
      rw [if_neg b2]
      refine wz_if_eq (t := 60) d52_54 (by decide) ⟨by omega, by omega⟩ (fun _ => ?_) (fun hb => absurd (by decide) hb)
      have bh30 := bh3
      obtain ⟨-, -, -, -, c13, cz3, -, bn3, nS3, nT3, lS3, lT3⟩ := bh3
      have nS30 := nS3
      have nT30 := nT3
      obtain ⟨⟨f0, f1, fC, -, -⟩, -⟩ := nS3
      obtain ⟨⟨g0, g1, gC, -, -⟩, -⟩ := nT3
      have oS1 : ok Γ.length S1 = true := tk1.2.1
      have oT1 : ok Γ.length T1 = true := tk1.2.2
      have cS := cc_small oS1 (by omega)
      have cT := cc_small oT1 (by omega)
      have hz33 := cx13.r.2.2.2.2
      refine wp_aload_n d52_60 rfl ?_
      refine wp_iload d52_61 rfl ?_
      refine wp_virt (as := [.int (zI f)]) (rest := []) d52_63 rfl rfl rfl (cx13.g.o (by decide) rfl) rfl rfl (Nat.le_of_ble_eq_true rfl) ?_
      refine c_isVar (c := hd S1) cx13.g cx13.r f0 (by omega) fC cS (fun v1 => ?_) (fun v1 => ?_)
      · refine wz_if_eq (t := 81) d52_66 (by decide) ⟨by omega, by omega⟩ (fun hb => absurd hb (by decide)) (fun _ => ?_)
        obtain ⟨k, hk, rfl⟩ := hd_is_var oS1 v1
        have ev2 := ev.trans (cu_v1 (w := 0) tk1 (by decide) b1 b2 v1)
        rw [if_neg (by decide), exps_var] at ev2
        have hvh : hgt (oh Γ) (tVar k) = 1 + vw (oh Γ) k := hgt_var _ _
        have hex := hgt_expose hcx hk
        have hwx := (gm_v1 (w := 0) tk1 (by decide) (by decide) b1 b2).2
        have nbv := nbm_v1 (w := 0) tk1 (by decide) (by decide) b1 b2
        have lve := lv_exps hcx hk
        rw [lv_var] at hlv
        refine wp_aload_n d52_69 rfl ?_
        refine wp_iload d52_70 rfl ?_
        refine wp_iload_n d52_72 rfl ?_
        refine wp_virt (as := [.int (zI (Γ.length : Int)), .int (zI f)]) (rest := []) d52_73 rfl rfl rfl (cx13.g.o (by decide) rfl) rfl rfl (Nat.le_of_ble_eq_true rfl) ?_
        refine wc_deep (show 0 + 22 ≤ d + 8 * (F + 1) + 89 by omega) ?_
        refine c_boundOf (k := k) cx13.g cx13.r cx13.r32 m63 (by omega) cz3 (by omega) hcx bn3 hk (by omega) f0 f1 fC (fun M4 R4 K4 L4 n4 s4 z4 cn4 r4 cx4 y1 y2 y3 y4 nd4 => ?_)
        have cx4' : CX (WB Γ.length) M3 R3 K3 L3 n3 s3 z3 cn1 M4 R4 K4 L4 n4 s4 z4 := cx4.weak (fun p q hw => Or.inl hw)
        refine wp_istore d52_76 (Nat.le_of_ble_eq_true rfl) rfl ?_
        refine wp_goto (t := 114) d52_78 (by decide) ?_
        refine wz_iinc d52_114 rfl rfl ?_
        refine wp_goto (t := 18) d52_117 (by decide) ?_
        refine ih (c + 1) (lft k (Γ.length - k) (bnd Γ k)) T1 r4 g M4 R4 K4 L4 n4 s4 z4 cn4 (by omega) (by omega) (cx13.trans cx4' hcc) (by omega) ⟨cx4.g, cx4.r, cx4.r32, y1, by omega, y4, ⟨hcx, ok_expose hcx hk, oT1⟩, cx4'.bn cx13.r (by have := cx13.g.1; omega) (Nat.le_refl _) y2 bn3, nd4, ndf_mono cx4.nodes y2 (Nat.le_refl _) nT30, by rw [lft_len]; exact (bn k hk).2, lT3⟩ ev2 (by omega) (by omega) (by omega) (by omega)
      refine wz_if_eq (t := 81) d52_66 (by decide) ⟨by omega, by omega⟩ (fun _ => ?_) (fun hb => absurd (by decide) hb)
      refine wp_aload_n d52_81 rfl ?_
      refine wp_iload d52_82 rfl ?_
      refine wp_virt (as := [.int (zI g)]) (rest := []) d52_84 rfl rfl rfl (cx13.g.o (by decide) rfl) rfl rfl (Nat.le_of_ble_eq_true rfl) ?_
      refine c_isVar (c := hd T1) cx13.g cx13.r g0 (by omega) gC cT (fun v2 => ?_) (fun v2 => ?_)
      · refine wz_if_eq (t := 102) d52_87 (by decide) ⟨by omega, by omega⟩ (fun hb => absurd hb (by decide)) (fun _ => ?_)
        obtain ⟨k, hk, rfl⟩ := hd_is_var oT1 v2
        have ev2 := ev.trans (cu_v2 (w := 0) tk1 (by decide) b1 b2 v1 v2)
        rw [if_neg (by decide), exps_var] at ev2
        have hvh : hgt (oh Γ) (tVar k) = 1 + vw (oh Γ) k := hgt_var _ _
        have hex := hgt_expose hcx hk
        have hwx := (gm_v2 (w := 0) tk1 (by decide) (by decide) v1 b1 b2).2
        have nbv := nbm_v2 (w := 0) tk1 (by decide) (by decide) v1 b1 b2
        have lve := lv_exps hcx hk
        rw [lv_var] at hlv
        refine wp_aload_n d52_90 rfl ?_
        refine wp_iload d52_91 rfl ?_
        refine wp_iload_n d52_93 rfl ?_
        refine wp_virt (as := [.int (zI (Γ.length : Int)), .int (zI g)]) (rest := []) d52_94 rfl rfl rfl (cx13.g.o (by decide) rfl) rfl rfl (Nat.le_of_ble_eq_true rfl) ?_
        refine wc_deep (show 0 + 22 ≤ d + 8 * (F + 1) + 89 by omega) ?_
        refine c_boundOf (k := k) cx13.g cx13.r cx13.r32 m63 (by omega) cz3 (by omega) hcx bn3 hk (by omega) g0 g1 gC (fun M4 R4 K4 L4 n4 s4 z4 cn4 r4 cx4 y1 y2 y3 y4 nd4 => ?_)
        have cx4' : CX (WB Γ.length) M3 R3 K3 L3 n3 s3 z3 cn1 M4 R4 K4 L4 n4 s4 z4 := cx4.weak (fun p q hw => Or.inl hw)
        refine wp_istore d52_97 (Nat.le_of_ble_eq_true rfl) rfl ?_
        refine wp_goto (t := 114) d52_99 (by decide) ?_
        refine wz_iinc d52_114 rfl rfl ?_
        refine wp_goto (t := 18) d52_117 (by decide) ?_
        refine ih (c + 1) S1 (lft k (Γ.length - k) (bnd Γ k)) f r4 M4 R4 K4 L4 n4 s4 z4 cn4 (by omega) (by omega) (cx13.trans cx4' hcc) (by omega) ⟨cx4.g, cx4.r, cx4.r32, y1, by omega, y4, ⟨hcx, oS1, ok_expose hcx hk⟩, cx4'.bn cx13.r (by have := cx13.g.1; omega) (Nat.le_refl _) y2 bn3, ndf_mono cx4.nodes y2 (Nat.le_refl _) nS30, nd4, lS3, by rw [lft_len]; exact (bn k hk).2⟩ ev2 (by omega) (by omega) (by omega) (by omega)
      refine wz_if_eq (t := 102) d52_87 (by decide) ⟨by omega, by omega⟩ (fun _ => ?_) (fun hb => absurd (by decide) hb)
      refine wp_aload_n d52_102 rfl ?_
      refine wp_iload d52_103 rfl ?_
      refine wp_iload d52_105 rfl ?_
      refine wp_iload_n d52_107 rfl ?_
      refine wp_iload d52_108 rfl ?_
      refine wp_virt (as := [.int (zI (deep : Int)), .int (zI (Γ.length : Int)), .int (zI g), .int (zI f)]) (rest := []) d52_110 rfl rfl rfl (cx13.g.o (by decide) rfl) rfl rfl (Nat.le_of_ble_eq_true rfl) ?_
      refine wc_deep (show d + 8 * F + 93 ≤ d + 8 * (F + 1) + 89 by omega) ?_
      have top3 : ndf M3 R3 cn1 1 tTop 0 := ndf_mono cx13.nodes hcc (Nat.le_refl _) top
      have out : ∀ (M' : pm_M) (Rf' : Nat → Nat → Nat) (K' L' : Nat → Nat) (n' s' z' : Nat) (cn' r : Int), CX (WB Γ.length) M3 R3 K3 L3 n3 s3 z3 cn1 M' Rf' K' L' n' s' z' → M' 6 6 = cn' → cn1 ≤ cn' → cn' ≤ cn1 + (nbm 0 Γ S1 T1 : Nat) → cn' ≤ z' → JR M' Rf' cn' (16 + F + 1) (cmu 0 Γ S1 T1) r → pm_Wp none (d + 8 * (F + 1) + 89) 52 113 [some (.ref 6), some (.int (zI i)), some (.int (zI j)), some (.int (zI (Γ.length : Int))), some (.int (zI (deep : Int))), some (.int (zI f)), some (.int (zI g)), some (.int (zI (c : Int)))] [.int (zI r)] (zM M', Rf', K', L', n', s') Q := by
        intro M' Rf' K' L' n' s' z' cn' r cx4 w1 w2 w3 w4 jr
        refine wp_ret d52_113 rfl (h M' Rf' K' L' n' s' z' cn' r (cx13.trans cx4 hcc) w1 (by omega) (by omega) w4 ?_)
        rw [show 16 + (F + 1) = 16 + F + 1 by omega, ev]
        exact jr
      refine c_joinForms IHj IHm bh30 top3 b1 b2 v1 v2 (by omega) (by omega) (by omega) (by omega) (by omega) (fun hr => ?_) out
      obtain ⟨m, X0, X1, X2, hm, rfl⟩ := hd_is_rec oS1 hr.1.1 hr.1.2
      obtain ⟨m', Y0, Y1, Y2, hm', rfl⟩ := hd_is_rec oT1 hr.2.1 hr.2.2
      exact c_joinRecs IHj hm hm' bh30 top3 b1 b2 (by omega) (by omega) (by omega) (by omega) (by omega) out
  refine wc_in (ls0 := [some (.ref 6), some (.int (zI i)), some (.int (zI j)), some (.int (zI (Γ.length : Int))), some (.int (zI (deep : Int))), none, none, none]) (by decide) (Nat.le_of_ble_eq_true rfl) rfl rfl ?_
  refine wp_iload d52_0 rfl ?_
  refine wz_bipush d52_2 (by decide) ?_
  refine wz_icmp_lt (t := 9) d52_4 (by decide) ⟨by omega, by omega⟩ ⟨by omega, by omega⟩ (fun _ => ?_) (fun hb => absurd (by omega) hb)
  refine wp_iload_n d52_9 rfl ?_
  refine wp_istore d52_10 (Nat.le_of_ble_eq_true rfl) rfl ?_
  refine wp_iload_n d52_12 rfl ?_
  refine wp_istore d52_13 (Nat.le_of_ble_eq_true rfl) rfl ?_
  refine wz_iconst d52_15 ?_
  refine wp_istore d52_16 (Nat.le_of_ble_eq_true rfl) rfl ?_
  have hS := lv_le (show ok Γ.length S = true from tk.2.1)
  have hT := lv_le (show ok Γ.length T = true from tk.2.2)
  refine loop (2 * Γ.length + 1) 0 S T i j M Rf K L n s z cn (by omega) (by omega) (CX.refl hG hR hM) (Int.le_refl _) bh0 rfl hh (Nat.le_refl _) (Int.le_refl _) (Nat.le_refl _)
/-- joinOf and meetOf, at every height -/
theorem c_both (d : Nat) : ∀ F, JC 0 52 d F ∧ JC 1 55 d F
  | 0 => by
    refine ⟨?_, ?_⟩ <;>
    · intro Γ S T i j deep M Rf K L n s z cn Q bh _ hh
      obtain ⟨-, -, -, -, -, -, tk, -⟩ := bh
      have h1 : 1 ≤ hgt (oh Γ) S := hgt_pos tk.2.1 (oh Γ)
      omega
  | F + 1 => ⟨c_joinOf (c_both d F).1 (c_both d F).2, c_meetOf (c_both d F).1 (c_both d F).2⟩
