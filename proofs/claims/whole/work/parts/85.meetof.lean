/-! THE CLASS: meetOf. -/
theorem BH.swap {M : pm_M} {Rf : Nat → Nat → Nat} {K L : Nat → Nat} {n z : Nat} {cn : Int} {Γ : List Ty} {S T : Ty} {i j : Int} (h : BH M Rf K L n z cn Γ S T i j) : BH M Rf K L n z cn Γ T S j i := by
  obtain ⟨h1, h2, h3, h4, h5, h6, h7, h8, h9, h10, h11, h12⟩ := h
  exact ⟨h1, h2, h3, h4, h5, h6, ⟨h7.1, h7.2.2, h7.2.1⟩, h8, h10, h9, h12, h11⟩
theorem BH.move {M : pm_M} {Rf : Nat → Nat → Nat} {K L : Nat → Nat} {n s z : Nat} {cn : Int} {Γ : List Ty} {S T : Ty} {i j : Int} {M' : pm_M} {Rf' : Nat → Nat → Nat} {K' L' : Nat → Nat} {n' s' z' : Nat} (h : BH M Rf K L n z cn Γ S T i j) (cx : CX (WB Γ.length) M Rf K L n s z cn M' Rf' K' L' n' s' z') (m6 : M' 6 6 = cn) : BH M' Rf' K' L' n' z' cn Γ S T i j := by
  obtain ⟨h1, h2, h3, h4, h5, h6, h7, h8, h9, h10, h11, h12⟩ := h
  have hzz := cx.zz
  exact ⟨cx.g, cx.r, cx.r32, m6, h5, by omega, h7, cx.bn h2 h1.1 (Nat.le_refl _) (Int.le_refl _) h8, ndf_mono cx.nodes (Int.le_refl _) (Nat.le_refl _) h9, ndf_mono cx.nodes (Int.le_refl _) (Nat.le_refl _) h10, h11, h12⟩
theorem c_meetOf {F d : Nat} (IHj : JC 0 52 d F) (IHm : JC 1 55 d F) : JC 1 55 d (F + 1) := by
  intro Γ S T i j deep M Rf K L n s z cn Q bh top hh hc hdp hΓ hw h
  have bh0 := bh
  obtain ⟨hG, hR, hM, hcn, c1, cz, tk, bn, nS, nT, lS, lT⟩ := bh
  have oS : ok Γ.length S = true := tk.2.1
  have oT : ok Γ.length T = true := tk.2.2
  have cS := cc_small oS (by omega)
  have cT := cc_small oT (by omega)
  have tk' : tok (Γ, T, S) := ⟨tk.1, tk.2.2, tk.2.1⟩
  refine wc_in (ls0 := [some (.ref 6), some (.int (zI i)), some (.int (zI j)), some (.int (zI (Γ.length : Int))), some (.int (zI (deep : Int)))]) (by decide) (Nat.le_of_ble_eq_true rfl) rfl rfl ?_
  refine wp_iload d55_0 rfl ?_
  refine wz_bipush d55_2 (by decide) ?_
  refine wz_icmp_lt (t := 9) d55_4 (by decide) ⟨by omega, by omega⟩ ⟨by omega, by omega⟩ (fun _ => ?_) (fun hb => absurd (by omega) hb)
  refine wp_aload_n d55_9 rfl ?_
  refine wp_iload_n d55_10 rfl ?_
  refine wp_iload_n d55_11 rfl ?_
  refine wp_iload_n d55_12 rfl ?_
  refine wp_iload d55_13 rfl ?_
  refine wp_virt (as := [.int (zI (deep : Int)), .int (zI (Γ.length : Int)), .int (zI j), .int (zI i)]) (rest := []) d55_15 rfl rfl rfl (hG.o (by decide) rfl) rfl rfl (Nat.le_of_ble_eq_true rfl) ?_
  refine wc_deep (show 0 + 3 * (F + 1) + 26 ≤ d + 8 * (F + 1) + 89 by omega) ?_
  refine c_isBelow (F + 1) 0 Γ S T i j deep M Rf K L n s z cn _ bh0 hh (by omega) hdp hΓ (fun M1 R1 K1 L1 n1 s1 z1 cx1 m61 => ?_)
  have bh1 := bh0.move cx1 m61
  have hz1 := cx1.zz
  by_cases b1 : bel Γ S T = true
  · rw [if_pos b1]
    refine wz_if_eq (t := 23) d55_18 (by decide) ⟨by omega, by omega⟩ (fun hb => absurd hb (by decide)) (fun _ => ?_)
    refine wp_iload_n d55_21 rfl ?_
    refine wp_ret d55_22 rfl (h M1 R1 K1 L1 n1 s1 z1 cn i cx1 m61 (Int.le_refl _) (by omega) (by omega) ?_)
    rw [cu_lo tk (by decide) b1]
    exact ndf_mono cx1.nodes (Int.le_refl _) (by omega) nS
  rw [if_neg b1]
  refine wz_if_eq (t := 23) d55_18 (by decide) ⟨by omega, by omega⟩ (fun _ => ?_) (fun hb => absurd (by decide) hb)
  refine wp_aload_n d55_23 rfl ?_
  refine wp_iload_n d55_24 rfl ?_
  refine wp_iload_n d55_25 rfl ?_
  refine wp_iload_n d55_26 rfl ?_
  refine wp_iload d55_27 rfl ?_
  refine wp_virt (as := [.int (zI (deep : Int)), .int (zI (Γ.length : Int)), .int (zI i), .int (zI j)]) (rest := []) d55_29 rfl rfl rfl (cx1.g.o (by decide) rfl) rfl rfl (Nat.le_of_ble_eq_true rfl) ?_
  refine wc_deep (show 0 + 3 * (F + 1) + 26 ≤ d + 8 * (F + 1) + 89 by omega) ?_
  refine c_isBelow (F + 1) 0 Γ T S j i deep M1 R1 K1 L1 n1 s1 z1 cn _ bh1.swap (by omega) (by omega) hdp hΓ (fun M2 R2 K2 L2 n2 s2 z2 cx2 m62 => ?_)
  have cx12 := cx1.trans cx2 (Int.le_refl _)
  have bh2 := bh1.move cx2 m62
  have hz2 := cx2.zz
  by_cases b2 : bel Γ T S = true
  · rw [if_pos b2]
    refine wz_if_eq (t := 37) d55_32 (by decide) ⟨by omega, by omega⟩ (fun hb => absurd hb (by decide)) (fun _ => ?_)
    refine wp_iload_n d55_35 rfl ?_
    refine wp_ret d55_36 rfl (h M2 R2 K2 L2 n2 s2 z2 cn j cx12 m62 (Int.le_refl _) (by omega) (by omega) ?_)
    rw [cu_hi tk (by decide) b1 b2]
    exact ndf_mono cx12.nodes (Int.le_refl _) (by omega) nT
  rw [if_neg b2]
  refine wz_if_eq (t := 37) d55_32 (by decide) ⟨by omega, by omega⟩ (fun _ => ?_) (fun hb => absurd (by decide) hb)
  have bh20 := bh2
  obtain ⟨-, -, -, -, -, -, -, -, nS2, nT2, -, -⟩ := bh2
  obtain ⟨⟨i0, i1, iC, -, -⟩, -⟩ := nS2
  obtain ⟨⟨j0, j1, jC, -, -⟩, -⟩ := nT2
  have no : cmu 1 Γ S T = none → pm_Wp none (d + 8 * (F + 1) + 89) 55 53 [some (.ref 6), some (.int (zI i)), some (.int (zI j)), some (.int (zI (Γ.length : Int))), some (.int (zI (deep : Int)))] [] (zM M2, R2, K2, L2, n2, s2) Q := by
    intro e
    refine wz_iconst d55_53 ?_
    exact wp_ret d55_54 rfl (h M2 R2 K2 L2 n2 s2 z2 cn (-1) cx12 m62 (Int.le_refl _) (by omega) (by omega) (by rw [e]; rfl))
  refine wp_aload_n d55_37 rfl ?_
  refine wp_iload_n d55_38 rfl ?_
  refine wp_virt (as := [.int (zI i)]) (rest := []) d55_39 rfl rfl rfl (cx12.g.o (by decide) rfl) rfl rfl (Nat.le_of_ble_eq_true rfl) ?_
  refine c_isVar (c := hd S) cx12.g cx12.r i0 (by omega) iC cS (fun v1 => ?_) (fun v1 => ?_)
  · refine wz_if_ne (t := 53) d55_42 (by decide) ⟨by omega, by omega⟩ (fun _ => ?_) (fun hb => absurd hb (by decide))
    exact no ((cu_v1 tk (by decide) b1 b2 v1).trans (if_pos rfl))
  refine wz_if_ne (t := 53) d55_42 (by decide) ⟨by omega, by omega⟩ (fun hb => absurd (by decide) hb) (fun _ => ?_)
  refine wp_aload_n d55_45 rfl ?_
  refine wp_iload_n d55_46 rfl ?_
  refine wp_virt (as := [.int (zI j)]) (rest := []) d55_47 rfl rfl rfl (cx12.g.o (by decide) rfl) rfl rfl (Nat.le_of_ble_eq_true rfl) ?_
  refine c_isVar (c := hd T) cx12.g cx12.r j0 (by omega) jC cT (fun v2 => ?_) (fun v2 => ?_)
  · refine wz_if_eq (t := 55) d55_50 (by decide) ⟨by omega, by omega⟩ (fun hb => absurd hb (by decide)) (fun _ => ?_)
    exact no ((cu_v2 tk (by decide) b1 b2 v1 v2).trans (if_pos rfl))
  refine wz_if_eq (t := 55) d55_50 (by decide) ⟨by omega, by omega⟩ (fun _ => ?_) (fun hb => absurd (by decide) hb)
  refine wp_aload_n d55_55 rfl ?_
  refine wp_iload_n d55_56 rfl ?_
  refine wp_iload_n d55_57 rfl ?_
  refine wp_iload_n d55_58 rfl ?_
  refine wp_iload d55_59 rfl ?_
  refine wp_virt (as := [.int (zI (deep : Int)), .int (zI (Γ.length : Int)), .int (zI j), .int (zI i)]) (rest := []) d55_61 rfl rfl rfl (cx12.g.o (by decide) rfl) rfl rfl (Nat.le_of_ble_eq_true rfl) ?_
  refine wc_deep (show d + 8 * F + 93 ≤ d + 8 * (F + 1) + 89 by omega) ?_
  refine c_meetForms IHj IHm bh20 (ndf_mono cx12.nodes (Int.le_refl _) (Nat.le_refl _) top) b1 b2 v1 v2 (by omega) hc (by omega) (by omega) hw (fun M3 R3 K3 L3 n3 s3 z3 cn3 r cx3 w1 w2 w3 w4 jr => ?_)
  refine wp_ret d55_64 rfl (h M3 R3 K3 L3 n3 s3 z3 cn3 r (cx12.trans cx3 (Int.le_refl _)) w1 w2 w3 w4 ?_)
  rw [show 16 + (F + 1) = 16 + F + 1 by omega]
  exact jr
