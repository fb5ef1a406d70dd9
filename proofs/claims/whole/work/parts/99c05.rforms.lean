/-! THE CLASS: reading each form of a term. -/
theorem pm_G.tm {Rf : Nat → Nat → Nat} {K L : Nat → Nat} {n X : Nat} (h : pm_G Rf K L n) (hX : X = 16 ∨ X = 23) : pm_At K n X 4 := by
  rcases hX with rfl | rfl <;> exact h.o (by decide) rfl
section PmC36
variable {tx : Nat → Int} {ln d : Nat}
set_option maxRecDepth 20000 in
set_option maxHeartbeats 1000000 in
theorem c_function {r X v p0 dp : Nat} {e : List (Nat × Int × Nat)} {M0 M : pm_M} {Rf : Nat → Nat → Nat} {K L : Nat → Nat} {n s z : Nat} {cn : Int} {Q : Option Value → pm_S → Prop} (IH : TmC tx ln d r) (F : FT tx ln X e p0 v ((6 : Int) - 5) M0 Rf K L n s z cn e (p0 + 1) (v + 1) M Rf K L n s z cn (GF M0)) (hdp : dp + r + 1 = 24) (he : e.length + r + 1 ≤ 24) (h : RmQ X e (r + 2) p0 v (if 97 ≤ chr tx ln (p0 + 1) ∧ chr tx ln (p0 + 1) ≤ 100 then (if chr tx ln (p0 + 1 + 1) = 58 then thn (pT tx ln r (tnm e) (p0 + 1 + 1 + 1)) (fun a q => if chr tx ln q = 46 then thn (pM tx ln r ((1, chr tx ln (p0 + 1), p0) :: e) (q + 1)) (fun b q' => (q', some (mN p0 6 (tnm e).length a.1 b.1 .nil, gud a && b.2))) else (q, none)) else (p0 + 1 + 1, none)) else (p0 + 1, none)) M0 Rf K L n s z cn Q) : pm_Wc (d + 8 * r + 176) 94 [.ref 38, .int (zI (v : Int)), .int (zI (dp : Int))] (zM M, Rf, K, L, n, s) Q := by
  have hX := F.1.2.1
  have le0 := F.le
  refine wc_in (ls0 := [some (.ref 38), some (.int (zI (v : Int))), some (.int (zI (dp : Int))), none, none, none]) (by decide) (Nat.le_of_ble_eq_true rfl) rfl rfl ?_
  refine wp_aload_n d94_0 rfl ?_
  refine wz_bipush d94_1 (by decide) ?_
  refine wz_bipush d94_3 (by decide) ?_
  refine wp_virt (as := [.int (zI 100), .int (zI 97)]) (rest := []) d94_5 rfl rfl rfl (F.1.1.1.o (by decide) rfl) rfl rfl (Nat.le_of_ble_eq_true rfl) ?_
  refine F.takeB (by omega) (by decide) (by decide) (by decide) (by decide) (fun hna Ma Fa kpa => ?_) (fun hna => ?_)
  rotate_left
  · skip
    rw [if_neg hna] at h
    refine wp_istore_n d94_8 (Nat.le_of_ble_eq_true rfl) rfl ?_
    refine wp_iload_n d94_9 rfl ?_
    refine wz_if_eq (t := 22) d94_10 (by decide) ⟨by omega, by omega⟩ (fun _ => ?_) (fun hb => absurd (by decide) hb)
    refine wz_iconst d94_22 ?_
    exact wp_ret d94_23 rfl (F.out h)
  rw [if_pos hna] at h
  refine wp_istore_n d94_8 (Nat.le_of_ble_eq_true rfl) rfl ?_
  refine wp_iload_n d94_9 rfl ?_
  refine wz_if_eq (t := 22) d94_10 (by decide) ⟨by omega, by omega⟩ (fun hb => absurd hb (by omega)) (fun _ => ?_)
  refine wp_aload_n d94_13 rfl ?_
  refine wz_bipush d94_14 (by decide) ?_
  refine wp_virt (as := [.int (zI 58)]) (rest := []) d94_16 rfl rfl rfl (Fa.1.1.1.o (by decide) rfl) rfl rfl (Nat.le_of_ble_eq_true rfl) ?_
  refine Fa.take (by omega) (by decide) (by decide) (fun hnb Mb Fb kpb => ?_) (fun hnb => ?_)
  rotate_left
  · skip
    rw [if_neg hnb] at h
    refine wz_if_ne (t := 24) d94_19 (by decide) ⟨by omega, by omega⟩ (fun hb => absurd (by decide) hb) (fun _ => ?_)
    refine wz_iconst d94_22 ?_
    exact wp_ret d94_23 rfl (Fa.out h)
  rw [if_pos hnb] at h
  refine wz_if_ne (t := 24) d94_19 (by decide) ⟨by omega, by omega⟩ (fun _ => ?_) (fun hb => absurd hb (by decide))
  refine wp_aload_n d94_24 rfl ?_
  refine wp_iload_n d94_25 rfl ?_
  refine wz_iconst d94_26 ?_
  refine wz_iadd d94_27 ?_
  refine wp_virt (as := [.int (zI ((dp : Int) + 1))]) (rest := []) d94_28 rfl rfl rfl (Fb.1.1.1.o (by decide) rfl) rfl rfl (Nat.le_of_ble_eq_true rfl) ?_
  refine Fb.typ (r := r) (by omega) hdp he (fun q1 M1 R1 K1 L1 n1 s1 z1 cn1 hp1 F1 => ?_) (fun q1 a1 i1 M1 R1 K1 L1 n1 s1 z1 cn1 hp1 F1 kp1 nd1 => ?_)
  · skip
    rw [thn_none hp1] at h
    refine wp_istore d94_31 (Nat.le_of_ble_eq_true rfl) rfl ?_
    refine wp_iload d94_33 rfl ?_
    refine wz_iconst d94_35 ?_
    refine wz_icmp_eq (t := 48) d94_36 (by decide) ⟨by omega, by omega⟩ ⟨by omega, by omega⟩ (fun _ => ?_) (fun hb => absurd (rfl) hb)
    refine wz_iconst d94_48 ?_
    exact wp_ret d94_49 rfl (F1.out h)
  rw [thn_some hp1] at h
  have rr1 := ndf_rng nd1
  have cz1 := F1.cz
  refine wp_istore d94_31 (Nat.le_of_ble_eq_true rfl) rfl ?_
  refine wp_iload d94_33 rfl ?_
  refine wz_iconst d94_35 ?_
  refine wz_icmp_eq (t := 48) d94_36 (by decide) ⟨by omega, by omega⟩ ⟨by omega, by omega⟩ (fun hb => absurd hb (by omega)) (fun _ => ?_)
  refine wp_aload_n d94_39 rfl ?_
  refine wz_bipush d94_40 (by decide) ?_
  refine wp_virt (as := [.int (zI 46)]) (rest := []) d94_42 rfl rfl rfl (F1.1.1.1.o (by decide) rfl) rfl rfl (Nat.le_of_ble_eq_true rfl) ?_
  refine F1.take (by omega) (by decide) (by decide) (fun hnc Mc Fc kpc => ?_) (fun hnc => ?_)
  rotate_left
  · skip
    rw [if_neg hnc] at h
    refine wz_if_ne (t := 50) d94_45 (by decide) ⟨by omega, by omega⟩ (fun hb => absurd (by decide) hb) (fun _ => ?_)
    refine wz_iconst d94_48 ?_
    exact wp_ret d94_49 rfl (F1.out h)
  rw [if_pos hnc] at h
  refine wz_if_ne (t := 50) d94_45 (by decide) ⟨by omega, by omega⟩ (fun _ => ?_) (fun hb => absurd hb (by decide))
  refine wp_aload_n d94_50 rfl ?_
  refine wp_iload_n d94_51 rfl ?_
  refine wp_iload_n d94_52 rfl ?_
  refine wp_virt (as := [.int (zI (v : Int)), .int (zI (chr tx ln (p0 + 1)))]) (rest := []) d94_53 rfl rfl rfl (Fc.1.1.1.o (by decide) rfl) rfl rfl (Nat.le_of_ble_eq_true rfl) ?_
  refine Fc.opnN (by omega) (by omega) ⟨by omega, by omega⟩ (fun M3 F3 kp3 => ?_)
  refine wp_aload_n d94_56 rfl ?_
  refine wp_iload_n d94_57 rfl ?_
  refine wz_iconst d94_58 ?_
  refine wz_iadd d94_59 ?_
  refine wp_virt (as := [.int (zI ((dp : Int) + 1))]) (rest := []) d94_60 rfl rfl rfl (F3.1.1.1.o (by decide) rfl) rfl rfl (Nat.le_of_ble_eq_true rfl) ?_
  refine F3.trm IH (by omega) hdp (by rw [List.length_cons]; omega) (WTm.subN (by have := F3.le; omega)) (fun q4 c4 M4 R4 K4 L4 n4 s4 z4 cn4 hp4 F4 => ?_) (fun q4 b1 c4 i4 M4 R4 K4 L4 n4 s4 z4 cn4 hp4 F4 kp4 rg4 nd4 => ?_)
  · skip
    rw [thn_none hp4] at h
    have lz4 := F4.le
    obtain ⟨F5, kp5, u5⟩ := F4.clsN
    refine wp_istore d94_63 (Nat.le_of_ble_eq_true rfl) rfl ?_
    refine wp_aload_n d94_65 rfl ?_
    refine wp_dupr d94_66 ?_
    refine wz_getI (v := ((nct e + 1 : Nat) : Int)) d94_67 rfl (F4.1.1.1.o (by decide) rfl) (by decide) (u5) ?_
    refine wz_iconst d94_70 ?_
    refine wz_isub d94_71 ?_
    refine wz_putI (i := 9) d94_72 rfl (F4.1.1.1.o (by decide) rfl) rfl (by decide) rfl ?_
    rw [show ((nct e + 1 : Nat) : Int) - 1 = ((nct e : Nat) : Int) by omega]
    refine wp_aload_n d94_75 rfl ?_
    refine wp_getR (q := X) d94_76 rfl (F5.1.1.1.o (by decide) rfl) (by decide) F5.1.2.2.1 (by rcases hX with e | e <;> omega) ?_
    refine wp_iload_n d94_79 rfl ?_
    refine wp_aload_n d94_80 rfl ?_
    refine wz_getI (v := ((tnm e).length : Int)) d94_81 rfl (F5.1.1.1.o (by decide) rfl) (by decide) (F5.1.1.2.2.2.2.2.2.2.2.2.2.2.1) ?_
    refine wp_iload d94_84 rfl ?_
    refine wp_iload d94_86 rfl ?_
    refine wz_iconst d94_88 ?_
    refine wp_virt (as := [.int (zI 0), .int (zI (-1)), .int (zI i1), .int (zI (((tnm e).length : Int))), .int (zI (v : Int))]) (rest := []) d94_89 rfl rfl rfl (F5.1.1.1.tm hX) rfl rfl (Nat.le_of_ble_eq_true rfl) ?_
    have nl := nct_len e
    refine F5.fil (by omega) (⟨by omega, by omega⟩) (⟨by omega, by omega⟩) (⟨by omega, by omega⟩) ⟨by omega, by omega⟩ (fun M6 F6 kp6 fm6 fx6 fy6 fz6 => ?_)
    refine wp_iload d94_92 rfl ?_
    refine wz_iconst d94_94 ?_
    refine wz_icmp_ne (t := 102) d94_95 (by decide) ⟨by omega, by omega⟩ ⟨by omega, by omega⟩ (fun hb => absurd (rfl) hb) (fun _ => ?_)
    refine wz_iconst d94_98 ?_
    refine wp_goto (t := 103) d94_99 (by decide) ?_
    exact wp_ret d94_103 rfl (F6.out h)
  · skip
    rw [thn_some hp4] at h
    have lz4 := F4.le
    obtain ⟨F5, kp5, u5⟩ := F4.clsN
    refine wp_istore d94_63 (Nat.le_of_ble_eq_true rfl) rfl ?_
    refine wp_aload_n d94_65 rfl ?_
    refine wp_dupr d94_66 ?_
    refine wz_getI (v := ((nct e + 1 : Nat) : Int)) d94_67 rfl (F4.1.1.1.o (by decide) rfl) (by decide) (u5) ?_
    refine wz_iconst d94_70 ?_
    refine wz_isub d94_71 ?_
    refine wz_putI (i := 9) d94_72 rfl (F4.1.1.1.o (by decide) rfl) rfl (by decide) rfl ?_
    rw [show ((nct e + 1 : Nat) : Int) - 1 = ((nct e : Nat) : Int) by omega]
    refine wp_aload_n d94_75 rfl ?_
    refine wp_getR (q := X) d94_76 rfl (F5.1.1.1.o (by decide) rfl) (by decide) F5.1.2.2.1 (by rcases hX with e | e <;> omega) ?_
    refine wp_iload_n d94_79 rfl ?_
    refine wp_aload_n d94_80 rfl ?_
    refine wz_getI (v := ((tnm e).length : Int)) d94_81 rfl (F5.1.1.1.o (by decide) rfl) (by decide) (F5.1.1.2.2.2.2.2.2.2.2.2.2.2.1) ?_
    refine wp_iload d94_84 rfl ?_
    refine wp_iload d94_86 rfl ?_
    refine wz_iconst d94_88 ?_
    refine wp_virt (as := [.int (zI 0), .int (zI i4), .int (zI i1), .int (zI (((tnm e).length : Int))), .int (zI (v : Int))]) (rest := []) d94_89 rfl rfl rfl (F5.1.1.1.tm hX) rfl rfl (Nat.le_of_ble_eq_true rfl) ?_
    have nl := nct_len e
    refine F5.fil (by omega) (⟨by omega, by omega⟩) (⟨by omega, by omega⟩) (⟨by omega, by omega⟩) ⟨by omega, by omega⟩ (fun M6 F6 kp6 fm6 fx6 fy6 fz6 => ?_)
    refine wp_iload d94_92 rfl ?_
    refine wz_iconst d94_94 ?_
    refine wz_icmp_ne (t := 102) d94_95 (by decide) ⟨by omega, by omega⟩ ⟨by omega, by omega⟩ (fun _ => ?_) (fun hb => absurd hb (by omega))
    refine wp_iload_n d94_102 rfl ?_
    refine wp_ret d94_103 rfl (F6.fin h (fun hg => ?_) (by rw [Bool.and_eq_true, and_assoc]))
    · have hg := (Bool.and_eq_true _ _).mp hg
      exact CNd.mk ⟨Int.le_refl _, by have := F6.le; omega⟩ (by decide) F6.2.2.2.2.2.1 F6.2.2.2.2.2.2.1 fm6 ⟨fun k => absurd (show (2 : Nat) = 1 from k) (by decide), fun _ => by rw [fx6]; exact kp6.nd (kp5.nd (kp4.nd (kp3.nd (kpc.nd nd1))))⟩ ⟨fun _ => by rw [fy6]; exact (kp6.cnd (kp5.cnd (nd4 hg.2))).down (by omega), fun k => absurd (show (1 : Nat) = 2 from k) (by decide)⟩ ⟨fun k => absurd (show (0 : Nat) = 1 from k) (by decide), fun k => absurd (show (0 : Nat) = 2 from k) (by decide)⟩
set_option maxRecDepth 20000 in
set_option maxHeartbeats 1000000 in
theorem c_general {r X v p0 dp : Nat} {e : List (Nat × Int × Nat)} {M0 M : pm_M} {Rf : Nat → Nat → Nat} {K L : Nat → Nat} {n s z : Nat} {cn : Int} {Q : Option Value → pm_S → Prop} (IH : TmC tx ln d r) (F : FT tx ln X e p0 v ((8 : Int) - 5) M0 Rf K L n s z cn e (p0 + 1) (v + 1) M Rf K L n s z cn (GF M0)) (hdp : dp + r + 1 = 24) (he : e.length + r + 1 ≤ 24) (h : RmQ X e (r + 2) p0 v (if 80 ≤ chr tx ln (p0 + 1) ∧ chr tx ln (p0 + 1) ≤ 83 then (if chr tx ln (p0 + 1 + 1) = 58 then thn (pT tx ln r (tnm e) (p0 + 1 + 1 + 1)) (fun a q => if chr tx ln q = 46 then thn (pM tx ln r ((0, chr tx ln (p0 + 1), p0) :: e) (q + 1)) (fun b q' => (q', some (mN p0 8 0 a.1 b.1 .nil, gud a && b.2))) else (q, none)) else (p0 + 1 + 1, none)) else (p0 + 1, none)) M0 Rf K L n s z cn Q) : pm_Wc (d + 8 * r + 176) 96 [.ref 38, .int (zI (v : Int)), .int (zI (dp : Int))] (zM M, Rf, K, L, n, s) Q := by
  have hX := F.1.2.1
  have le0 := F.le
  refine wc_in (ls0 := [some (.ref 38), some (.int (zI (v : Int))), some (.int (zI (dp : Int))), none, none, none]) (by decide) (Nat.le_of_ble_eq_true rfl) rfl rfl ?_
  refine wp_aload_n d96_0 rfl ?_
  refine wz_bipush d96_1 (by decide) ?_
  refine wz_bipush d96_3 (by decide) ?_
  refine wp_virt (as := [.int (zI 83), .int (zI 80)]) (rest := []) d96_5 rfl rfl rfl (F.1.1.1.o (by decide) rfl) rfl rfl (Nat.le_of_ble_eq_true rfl) ?_
  refine F.takeB (by omega) (by decide) (by decide) (by decide) (by decide) (fun hna Ma Fa kpa => ?_) (fun hna => ?_)
  rotate_left
  · skip
    rw [if_neg hna] at h
    refine wp_istore_n d96_8 (Nat.le_of_ble_eq_true rfl) rfl ?_
    refine wp_iload_n d96_9 rfl ?_
    refine wz_if_eq (t := 22) d96_10 (by decide) ⟨by omega, by omega⟩ (fun _ => ?_) (fun hb => absurd (by decide) hb)
    refine wz_iconst d96_22 ?_
    exact wp_ret d96_23 rfl (F.out h)
  rw [if_pos hna] at h
  refine wp_istore_n d96_8 (Nat.le_of_ble_eq_true rfl) rfl ?_
  refine wp_iload_n d96_9 rfl ?_
  refine wz_if_eq (t := 22) d96_10 (by decide) ⟨by omega, by omega⟩ (fun hb => absurd hb (by omega)) (fun _ => ?_)
  refine wp_aload_n d96_13 rfl ?_
  refine wz_bipush d96_14 (by decide) ?_
  refine wp_virt (as := [.int (zI 58)]) (rest := []) d96_16 rfl rfl rfl (Fa.1.1.1.o (by decide) rfl) rfl rfl (Nat.le_of_ble_eq_true rfl) ?_
  refine Fa.take (by omega) (by decide) (by decide) (fun hnb Mb Fb kpb => ?_) (fun hnb => ?_)
  rotate_left
  · skip
    rw [if_neg hnb] at h
    refine wz_if_ne (t := 24) d96_19 (by decide) ⟨by omega, by omega⟩ (fun hb => absurd (by decide) hb) (fun _ => ?_)
    refine wz_iconst d96_22 ?_
    exact wp_ret d96_23 rfl (Fa.out h)
  rw [if_pos hnb] at h
  refine wz_if_ne (t := 24) d96_19 (by decide) ⟨by omega, by omega⟩ (fun _ => ?_) (fun hb => absurd hb (by decide))
  refine wp_aload_n d96_24 rfl ?_
  refine wp_iload_n d96_25 rfl ?_
  refine wz_iconst d96_26 ?_
  refine wz_iadd d96_27 ?_
  refine wp_virt (as := [.int (zI ((dp : Int) + 1))]) (rest := []) d96_28 rfl rfl rfl (Fb.1.1.1.o (by decide) rfl) rfl rfl (Nat.le_of_ble_eq_true rfl) ?_
  refine Fb.typ (r := r) (by omega) hdp he (fun q1 M1 R1 K1 L1 n1 s1 z1 cn1 hp1 F1 => ?_) (fun q1 a1 i1 M1 R1 K1 L1 n1 s1 z1 cn1 hp1 F1 kp1 nd1 => ?_)
  · skip
    rw [thn_none hp1] at h
    refine wp_istore d96_31 (Nat.le_of_ble_eq_true rfl) rfl ?_
    refine wp_iload d96_33 rfl ?_
    refine wz_iconst d96_35 ?_
    refine wz_icmp_eq (t := 48) d96_36 (by decide) ⟨by omega, by omega⟩ ⟨by omega, by omega⟩ (fun _ => ?_) (fun hb => absurd (rfl) hb)
    refine wz_iconst d96_48 ?_
    exact wp_ret d96_49 rfl (F1.out h)
  rw [thn_some hp1] at h
  have rr1 := ndf_rng nd1
  have cz1 := F1.cz
  refine wp_istore d96_31 (Nat.le_of_ble_eq_true rfl) rfl ?_
  refine wp_iload d96_33 rfl ?_
  refine wz_iconst d96_35 ?_
  refine wz_icmp_eq (t := 48) d96_36 (by decide) ⟨by omega, by omega⟩ ⟨by omega, by omega⟩ (fun hb => absurd hb (by omega)) (fun _ => ?_)
  refine wp_aload_n d96_39 rfl ?_
  refine wz_bipush d96_40 (by decide) ?_
  refine wp_virt (as := [.int (zI 46)]) (rest := []) d96_42 rfl rfl rfl (F1.1.1.1.o (by decide) rfl) rfl rfl (Nat.le_of_ble_eq_true rfl) ?_
  refine F1.take (by omega) (by decide) (by decide) (fun hnc Mc Fc kpc => ?_) (fun hnc => ?_)
  rotate_left
  · skip
    rw [if_neg hnc] at h
    refine wz_if_ne (t := 50) d96_45 (by decide) ⟨by omega, by omega⟩ (fun hb => absurd (by decide) hb) (fun _ => ?_)
    refine wz_iconst d96_48 ?_
    exact wp_ret d96_49 rfl (F1.out h)
  rw [if_pos hnc] at h
  refine wz_if_ne (t := 50) d96_45 (by decide) ⟨by omega, by omega⟩ (fun _ => ?_) (fun hb => absurd hb (by decide))
  refine wp_aload_n d96_50 rfl ?_
  refine wp_iload_n d96_51 rfl ?_
  refine wp_virt (as := [.int (zI (chr tx ln (p0 + 1)))]) (rest := []) d96_52 rfl rfl rfl (Fc.1.1.1.o (by decide) rfl) rfl rfl (Nat.le_of_ble_eq_true rfl) ?_
  refine Fc.opnT (by omega) (by omega) ⟨by omega, by omega⟩ (fun M3 F3 kp3 => ?_)
  refine wp_aload_n d96_55 rfl ?_
  refine wp_iload_n d96_56 rfl ?_
  refine wz_iconst d96_57 ?_
  refine wz_iadd d96_58 ?_
  refine wp_virt (as := [.int (zI ((dp : Int) + 1))]) (rest := []) d96_59 rfl rfl rfl (F3.1.1.1.o (by decide) rfl) rfl rfl (Nat.le_of_ble_eq_true rfl) ?_
  refine F3.trm IH (by omega) hdp (by rw [List.length_cons]; omega) (WTm.subT (by have := F3.le; omega)) (fun q4 c4 M4 R4 K4 L4 n4 s4 z4 cn4 hp4 F4 => ?_) (fun q4 b1 c4 i4 M4 R4 K4 L4 n4 s4 z4 cn4 hp4 F4 kp4 rg4 nd4 => ?_)
  · skip
    rw [thn_none hp4] at h
    have lz4 := F4.le
    obtain ⟨F5, kp5, u5⟩ := F4.clsT
    refine wp_istore d96_62 (Nat.le_of_ble_eq_true rfl) rfl ?_
    refine wp_aload_n d96_64 rfl ?_
    refine wp_dupr d96_65 ?_
    refine wz_getI (v := (((tnm e).length + 1 : Nat) : Int)) d96_66 rfl (F4.1.1.1.o (by decide) rfl) (by decide) (u5) ?_
    refine wz_iconst d96_69 ?_
    refine wz_isub d96_70 ?_
    refine wz_putI (i := 8) d96_71 rfl (F4.1.1.1.o (by decide) rfl) rfl (by decide) rfl ?_
    rw [show (((tnm e).length + 1 : Nat) : Int) - 1 = (((tnm e).length : Nat) : Int) by omega]
    refine wp_aload_n d96_74 rfl ?_
    refine wp_getR (q := X) d96_75 rfl (F5.1.1.1.o (by decide) rfl) (by decide) F5.1.2.2.1 (by rcases hX with e | e <;> omega) ?_
    refine wp_iload_n d96_78 rfl ?_
    refine wz_iconst d96_79 ?_
    refine wp_iload d96_80 rfl ?_
    refine wp_iload d96_82 rfl ?_
    refine wz_iconst d96_84 ?_
    refine wp_virt (as := [.int (zI 0), .int (zI (-1)), .int (zI i1), .int (zI 0), .int (zI (v : Int))]) (rest := []) d96_85 rfl rfl rfl (F5.1.1.1.tm hX) rfl rfl (Nat.le_of_ble_eq_true rfl) ?_
    have nl := nct_len e
    refine F5.fil (by omega) (⟨by omega, by omega⟩) (⟨by omega, by omega⟩) (⟨by omega, by omega⟩) ⟨by omega, by omega⟩ (fun M6 F6 kp6 fm6 fx6 fy6 fz6 => ?_)
    refine wp_iload d96_88 rfl ?_
    refine wz_iconst d96_90 ?_
    refine wz_icmp_ne (t := 98) d96_91 (by decide) ⟨by omega, by omega⟩ ⟨by omega, by omega⟩ (fun hb => absurd (rfl) hb) (fun _ => ?_)
    refine wz_iconst d96_94 ?_
    refine wp_goto (t := 99) d96_95 (by decide) ?_
    exact wp_ret d96_99 rfl (F6.out h)
  · skip
    rw [thn_some hp4] at h
    have lz4 := F4.le
    obtain ⟨F5, kp5, u5⟩ := F4.clsT
    refine wp_istore d96_62 (Nat.le_of_ble_eq_true rfl) rfl ?_
    refine wp_aload_n d96_64 rfl ?_
    refine wp_dupr d96_65 ?_
    refine wz_getI (v := (((tnm e).length + 1 : Nat) : Int)) d96_66 rfl (F4.1.1.1.o (by decide) rfl) (by decide) (u5) ?_
    refine wz_iconst d96_69 ?_
    refine wz_isub d96_70 ?_
    refine wz_putI (i := 8) d96_71 rfl (F4.1.1.1.o (by decide) rfl) rfl (by decide) rfl ?_
    rw [show (((tnm e).length + 1 : Nat) : Int) - 1 = (((tnm e).length : Nat) : Int) by omega]
    refine wp_aload_n d96_74 rfl ?_
    refine wp_getR (q := X) d96_75 rfl (F5.1.1.1.o (by decide) rfl) (by decide) F5.1.2.2.1 (by rcases hX with e | e <;> omega) ?_
    refine wp_iload_n d96_78 rfl ?_
    refine wz_iconst d96_79 ?_
    refine wp_iload d96_80 rfl ?_
    refine wp_iload d96_82 rfl ?_
    refine wz_iconst d96_84 ?_
    refine wp_virt (as := [.int (zI 0), .int (zI i4), .int (zI i1), .int (zI 0), .int (zI (v : Int))]) (rest := []) d96_85 rfl rfl rfl (F5.1.1.1.tm hX) rfl rfl (Nat.le_of_ble_eq_true rfl) ?_
    have nl := nct_len e
    refine F5.fil (by omega) (⟨by omega, by omega⟩) (⟨by omega, by omega⟩) (⟨by omega, by omega⟩) ⟨by omega, by omega⟩ (fun M6 F6 kp6 fm6 fx6 fy6 fz6 => ?_)
    refine wp_iload d96_88 rfl ?_
    refine wz_iconst d96_90 ?_
    refine wz_icmp_ne (t := 98) d96_91 (by decide) ⟨by omega, by omega⟩ ⟨by omega, by omega⟩ (fun _ => ?_) (fun hb => absurd hb (by omega))
    refine wp_iload_n d96_98 rfl ?_
    refine wp_ret d96_99 rfl (F6.fin h (fun hg => ?_) (by rw [Bool.and_eq_true, and_assoc]))
    · have hg := (Bool.and_eq_true _ _).mp hg
      exact CNd.mk ⟨Int.le_refl _, by have := F6.le; omega⟩ (by decide) F6.2.2.2.2.2.1 F6.2.2.2.2.2.2.1 fm6 ⟨fun k => absurd (show (2 : Nat) = 1 from k) (by decide), fun _ => by rw [fx6]; exact kp6.nd (kp5.nd (kp4.nd (kp3.nd (kpc.nd nd1))))⟩ ⟨fun _ => by rw [fy6]; exact (kp6.cnd (kp5.cnd (nd4 hg.2))).down (by omega), fun k => absurd (show (1 : Nat) = 2 from k) (by decide)⟩ ⟨fun k => absurd (show (0 : Nat) = 1 from k) (by decide), fun k => absurd (show (0 : Nat) = 2 from k) (by decide)⟩
set_option maxRecDepth 20000 in
set_option maxHeartbeats 1000000 in
theorem c_application {r X v p0 dp : Nat} {e : List (Nat × Int × Nat)} {M0 M : pm_M} {Rf : Nat → Nat → Nat} {K L : Nat → Nat} {n s z : Nat} {cn : Int} {Q : Option Value → pm_S → Prop} (IH : TmC tx ln d r) (F : FT tx ln X e p0 v ((7 : Int) - 5) M0 Rf K L n s z cn e (p0 + 1) (v + 1) M Rf K L n s z cn (GF M0)) (hdp : dp + r + 1 = 24) (he : e.length + r + 1 ≤ 24) (h : RmQ X e (r + 2) p0 v (thn (pM tx ln r e (p0 + 1)) (fun a q => thn (pM tx ln r e q) (fun b q' => if chr tx ln q' = 41 then (q' + 1, some (mN p0 7 0 a.1 b.1 .nil, a.2 && b.2)) else (q', none)))) M0 Rf K L n s z cn Q) : pm_Wc (d + 8 * r + 176) 95 [.ref 38, .int (zI (v : Int)), .int (zI (dp : Int))] (zM M, Rf, K, L, n, s) Q := by
  have hX := F.1.2.1
  have le0 := F.le
  refine wc_in (ls0 := [some (.ref 38), some (.int (zI (v : Int))), some (.int (zI (dp : Int))), none, none]) (by decide) (Nat.le_of_ble_eq_true rfl) rfl rfl ?_
  refine wp_aload_n d95_0 rfl ?_
  refine wp_iload_n d95_1 rfl ?_
  refine wz_iconst d95_2 ?_
  refine wz_iadd d95_3 ?_
  refine wp_virt (as := [.int (zI ((dp : Int) + 1))]) (rest := []) d95_4 rfl rfl rfl (F.1.1.1.o (by decide) rfl) rfl rfl (Nat.le_of_ble_eq_true rfl) ?_
  refine F.trm IH (by omega) hdp (by omega) (F.wv) (fun q1 c1 M1 R1 K1 L1 n1 s1 z1 cn1 hp1 F1 => ?_) (fun q1 a1 c1 i1 M1 R1 K1 L1 n1 s1 z1 cn1 hp1 F1 kp1 rg1 nd1 => ?_)
  · skip
    rw [thn_none hp1] at h
    refine wp_istore_n d95_7 (Nat.le_of_ble_eq_true rfl) rfl ?_
    refine wp_iload_n d95_8 rfl ?_
    refine wz_iconst d95_9 ?_
    refine wz_icmp_ne (t := 17) d95_10 (by decide) ⟨by omega, by omega⟩ ⟨by omega, by omega⟩ (fun hb => absurd (rfl) hb) (fun _ => ?_)
    refine wz_iconst d95_13 ?_
    refine wp_goto (t := 24) d95_14 (by decide) ?_
    refine wp_istore d95_24 (Nat.le_of_ble_eq_true rfl) rfl ?_
    refine wp_iload d95_26 rfl ?_
    refine wz_iconst d95_28 ?_
    refine wz_icmp_eq (t := 41) d95_29 (by decide) ⟨by omega, by omega⟩ ⟨by omega, by omega⟩ (fun _ => ?_) (fun hb => absurd (rfl) hb)
    refine wz_iconst d95_41 ?_
    exact wp_ret d95_42 rfl (F1.out h)
  rw [thn_some hp1] at h
  have lz1 := F1.le
  refine wp_istore_n d95_7 (Nat.le_of_ble_eq_true rfl) rfl ?_
  refine wp_iload_n d95_8 rfl ?_
  refine wz_iconst d95_9 ?_
  refine wz_icmp_ne (t := 17) d95_10 (by decide) ⟨by omega, by omega⟩ ⟨by omega, by omega⟩ (fun _ => ?_) (fun hb => absurd hb (by omega))
  refine wp_aload_n d95_17 rfl ?_
  refine wp_iload_n d95_18 rfl ?_
  refine wz_iconst d95_19 ?_
  refine wz_iadd d95_20 ?_
  refine wp_virt (as := [.int (zI ((dp : Int) + 1))]) (rest := []) d95_21 rfl rfl rfl (F1.1.1.1.o (by decide) rfl) rfl rfl (Nat.le_of_ble_eq_true rfl) ?_
  refine F1.trm IH (by omega) hdp (by omega) (F1.wv) (fun q2 c2 M2 R2 K2 L2 n2 s2 z2 cn2 hp2 F2 => ?_) (fun q2 b1 c2 i2 M2 R2 K2 L2 n2 s2 z2 cn2 hp2 F2 kp2 rg2 nd2 => ?_)
  · skip
    rw [thn_none hp2] at h
    refine wp_istore d95_24 (Nat.le_of_ble_eq_true rfl) rfl ?_
    refine wp_iload d95_26 rfl ?_
    refine wz_iconst d95_28 ?_
    refine wz_icmp_eq (t := 41) d95_29 (by decide) ⟨by omega, by omega⟩ ⟨by omega, by omega⟩ (fun _ => ?_) (fun hb => absurd (rfl) hb)
    refine wz_iconst d95_41 ?_
    exact wp_ret d95_42 rfl (F2.out h)
  rw [thn_some hp2] at h
  have lz2 := F2.le
  refine wp_istore d95_24 (Nat.le_of_ble_eq_true rfl) rfl ?_
  refine wp_iload d95_26 rfl ?_
  refine wz_iconst d95_28 ?_
  refine wz_icmp_eq (t := 41) d95_29 (by decide) ⟨by omega, by omega⟩ ⟨by omega, by omega⟩ (fun hb => absurd hb (by omega)) (fun _ => ?_)
  refine wp_aload_n d95_32 rfl ?_
  refine wz_bipush d95_33 (by decide) ?_
  refine wp_virt (as := [.int (zI 41)]) (rest := []) d95_35 rfl rfl rfl (F2.1.1.1.o (by decide) rfl) rfl rfl (Nat.le_of_ble_eq_true rfl) ?_
  refine F2.take (by omega) (by decide) (by decide) (fun hnc Mc Fc kpc => ?_) (fun hnc => ?_)
  rotate_left
  · skip
    rw [if_neg hnc] at h
    refine wz_if_ne (t := 43) d95_38 (by decide) ⟨by omega, by omega⟩ (fun hb => absurd (by decide) hb) (fun _ => ?_)
    refine wz_iconst d95_41 ?_
    exact wp_ret d95_42 rfl (F2.out h)
  rw [if_pos hnc] at h
  refine wz_if_ne (t := 43) d95_38 (by decide) ⟨by omega, by omega⟩ (fun _ => ?_) (fun hb => absurd hb (by decide))
  refine wp_aload_n d95_43 rfl ?_
  refine wp_getR (q := X) d95_44 rfl (Fc.1.1.1.o (by decide) rfl) (by decide) Fc.1.2.2.1 (by rcases hX with e | e <;> omega) ?_
  refine wp_iload_n d95_47 rfl ?_
  refine wz_iconst d95_48 ?_
  refine wp_iload_n d95_49 rfl ?_
  refine wp_iload d95_50 rfl ?_
  refine wz_iconst d95_52 ?_
  refine wp_virt (as := [.int (zI 0), .int (zI i2), .int (zI i1), .int (zI 0), .int (zI (v : Int))]) (rest := []) d95_53 rfl rfl rfl (Fc.1.1.1.tm hX) rfl rfl (Nat.le_of_ble_eq_true rfl) ?_
  refine Fc.fil (by omega) (⟨by omega, by omega⟩) (⟨by omega, by omega⟩) (⟨by omega, by omega⟩) ⟨by omega, by omega⟩ (fun M6 F6 kp6 fm6 fx6 fy6 fz6 => ?_)
  refine wp_iload_n d95_56 rfl ?_
  refine wp_ret d95_57 rfl (F6.fin h (fun hg => ?_) (by rw [Bool.and_eq_true, and_assoc]))
  · have hg := (Bool.and_eq_true _ _).mp hg
    exact CNd.mk ⟨Int.le_refl _, by have := F6.le; omega⟩ (by decide) F6.2.2.2.2.2.1 F6.2.2.2.2.2.2.1 fm6 ⟨fun _ => by rw [fx6]; exact (kp6.cnd (kpc.cnd (kp2.cnd (nd1 hg.1)))).down (by omega), fun k => absurd (show (1 : Nat) = 2 from k) (by decide)⟩ ⟨fun _ => by rw [fy6]; exact (kp6.cnd (kpc.cnd (nd2 hg.2))).down (by omega), fun k => absurd (show (1 : Nat) = 2 from k) (by decide)⟩ ⟨fun k => absurd (show (0 : Nat) = 1 from k) (by decide), fun k => absurd (show (0 : Nat) = 2 from k) (by decide)⟩
set_option maxRecDepth 20000 in
set_option maxHeartbeats 1000000 in
theorem c_special {r X v p0 dp : Nat} {e : List (Nat × Int × Nat)} {M0 M : pm_M} {Rf : Nat → Nat → Nat} {K L : Nat → Nat} {n s z : Nat} {cn : Int} {Q : Option Value → pm_S → Prop} (IH : TmC tx ln d r) (F : FT tx ln X e p0 v ((9 : Int) - 5) M0 Rf K L n s z cn e (p0 + 1) (v + 1) M Rf K L n s z cn (GF M0)) (hdp : dp + r + 1 = 24) (he : e.length + r + 1 ≤ 24) (h : RmQ X e (r + 2) p0 v (thn (pM tx ln r e (p0 + 1)) (fun a q => thn (pT tx ln r (tnm e) q) (fun b q' => (q', some (mN p0 9 0 a.1 b.1 .nil, a.2 && gud b))))) M0 Rf K L n s z cn Q) : pm_Wc (d + 8 * r + 176) 97 [.ref 38, .int (zI (v : Int)), .int (zI (dp : Int))] (zM M, Rf, K, L, n, s) Q := by
  have hX := F.1.2.1
  have le0 := F.le
  refine wc_in (ls0 := [some (.ref 38), some (.int (zI (v : Int))), some (.int (zI (dp : Int))), none, none]) (by decide) (Nat.le_of_ble_eq_true rfl) rfl rfl ?_
  refine wp_aload_n d97_0 rfl ?_
  refine wp_iload_n d97_1 rfl ?_
  refine wz_iconst d97_2 ?_
  refine wz_iadd d97_3 ?_
  refine wp_virt (as := [.int (zI ((dp : Int) + 1))]) (rest := []) d97_4 rfl rfl rfl (F.1.1.1.o (by decide) rfl) rfl rfl (Nat.le_of_ble_eq_true rfl) ?_
  refine F.trm IH (by omega) hdp (by omega) (F.wv) (fun q1 c1 M1 R1 K1 L1 n1 s1 z1 cn1 hp1 F1 => ?_) (fun q1 a1 c1 i1 M1 R1 K1 L1 n1 s1 z1 cn1 hp1 F1 kp1 rg1 nd1 => ?_)
  · skip
    rw [thn_none hp1] at h
    refine wp_istore_n d97_7 (Nat.le_of_ble_eq_true rfl) rfl ?_
    refine wp_iload_n d97_8 rfl ?_
    refine wz_iconst d97_9 ?_
    refine wz_icmp_ne (t := 17) d97_10 (by decide) ⟨by omega, by omega⟩ ⟨by omega, by omega⟩ (fun hb => absurd (rfl) hb) (fun _ => ?_)
    refine wz_iconst d97_13 ?_
    refine wp_goto (t := 24) d97_14 (by decide) ?_
    refine wp_istore d97_24 (Nat.le_of_ble_eq_true rfl) rfl ?_
    refine wp_aload_n d97_26 rfl ?_
    refine wp_getR (q := X) d97_27 rfl (F1.1.1.1.o (by decide) rfl) (by decide) F1.1.2.2.1 (by rcases hX with e | e <;> omega) ?_
    refine wp_iload_n d97_30 rfl ?_
    refine wz_iconst d97_31 ?_
    refine wp_iload_n d97_32 rfl ?_
    refine wp_iload d97_33 rfl ?_
    refine wz_iconst d97_35 ?_
    refine wp_virt (as := [.int (zI 0), .int (zI (-1)), .int (zI (-1)), .int (zI 0), .int (zI (v : Int))]) (rest := []) d97_36 rfl rfl rfl (F1.1.1.1.tm hX) rfl rfl (Nat.le_of_ble_eq_true rfl) ?_
    refine F1.fil (by omega) (⟨by omega, by omega⟩) (⟨by omega, by omega⟩) (⟨by omega, by omega⟩) ⟨by omega, by omega⟩ (fun M6 F6 kp6 fm6 fx6 fy6 fz6 => ?_)
    refine wp_iload d97_39 rfl ?_
    refine wz_iconst d97_41 ?_
    refine wz_icmp_ne (t := 49) d97_42 (by decide) ⟨by omega, by omega⟩ ⟨by omega, by omega⟩ (fun hb => absurd (rfl) hb) (fun _ => ?_)
    refine wz_iconst d97_45 ?_
    refine wp_goto (t := 50) d97_46 (by decide) ?_
    exact wp_ret d97_50 rfl (F6.out h)
  rw [thn_some hp1] at h
  have lz1 := F1.le
  refine wp_istore_n d97_7 (Nat.le_of_ble_eq_true rfl) rfl ?_
  refine wp_iload_n d97_8 rfl ?_
  refine wz_iconst d97_9 ?_
  refine wz_icmp_ne (t := 17) d97_10 (by decide) ⟨by omega, by omega⟩ ⟨by omega, by omega⟩ (fun _ => ?_) (fun hb => absurd hb (by omega))
  refine wp_aload_n d97_17 rfl ?_
  refine wp_iload_n d97_18 rfl ?_
  refine wz_iconst d97_19 ?_
  refine wz_iadd d97_20 ?_
  refine wp_virt (as := [.int (zI ((dp : Int) + 1))]) (rest := []) d97_21 rfl rfl rfl (F1.1.1.1.o (by decide) rfl) rfl rfl (Nat.le_of_ble_eq_true rfl) ?_
  refine F1.typ (r := r) (by omega) hdp he (fun q2 M2 R2 K2 L2 n2 s2 z2 cn2 hp2 F2 => ?_) (fun q2 b1 i2 M2 R2 K2 L2 n2 s2 z2 cn2 hp2 F2 kp2 nd2 => ?_)
  · skip
    rw [thn_none hp2] at h
    refine wp_istore d97_24 (Nat.le_of_ble_eq_true rfl) rfl ?_
    refine wp_aload_n d97_26 rfl ?_
    refine wp_getR (q := X) d97_27 rfl (F2.1.1.1.o (by decide) rfl) (by decide) F2.1.2.2.1 (by rcases hX with e | e <;> omega) ?_
    refine wp_iload_n d97_30 rfl ?_
    refine wz_iconst d97_31 ?_
    refine wp_iload_n d97_32 rfl ?_
    refine wp_iload d97_33 rfl ?_
    refine wz_iconst d97_35 ?_
    refine wp_virt (as := [.int (zI 0), .int (zI (-1)), .int (zI i1), .int (zI 0), .int (zI (v : Int))]) (rest := []) d97_36 rfl rfl rfl (F2.1.1.1.tm hX) rfl rfl (Nat.le_of_ble_eq_true rfl) ?_
    refine F2.fil (by omega) (⟨by omega, by omega⟩) (⟨by omega, by omega⟩) (⟨by omega, by omega⟩) ⟨by omega, by omega⟩ (fun M6 F6 kp6 fm6 fx6 fy6 fz6 => ?_)
    refine wp_iload d97_39 rfl ?_
    refine wz_iconst d97_41 ?_
    refine wz_icmp_ne (t := 49) d97_42 (by decide) ⟨by omega, by omega⟩ ⟨by omega, by omega⟩ (fun hb => absurd (rfl) hb) (fun _ => ?_)
    refine wz_iconst d97_45 ?_
    refine wp_goto (t := 50) d97_46 (by decide) ?_
    exact wp_ret d97_50 rfl (F6.out h)
  rw [thn_some hp2] at h
  have rr2 := ndf_rng nd2
  have cz2 := F2.cz
  refine wp_istore d97_24 (Nat.le_of_ble_eq_true rfl) rfl ?_
  refine wp_aload_n d97_26 rfl ?_
  refine wp_getR (q := X) d97_27 rfl (F2.1.1.1.o (by decide) rfl) (by decide) F2.1.2.2.1 (by rcases hX with e | e <;> omega) ?_
  refine wp_iload_n d97_30 rfl ?_
  refine wz_iconst d97_31 ?_
  refine wp_iload_n d97_32 rfl ?_
  refine wp_iload d97_33 rfl ?_
  refine wz_iconst d97_35 ?_
  refine wp_virt (as := [.int (zI 0), .int (zI i2), .int (zI i1), .int (zI 0), .int (zI (v : Int))]) (rest := []) d97_36 rfl rfl rfl (F2.1.1.1.tm hX) rfl rfl (Nat.le_of_ble_eq_true rfl) ?_
  refine F2.fil (by omega) (⟨by omega, by omega⟩) (⟨by omega, by omega⟩) (⟨by omega, by omega⟩) ⟨by omega, by omega⟩ (fun M6 F6 kp6 fm6 fx6 fy6 fz6 => ?_)
  refine wp_iload d97_39 rfl ?_
  refine wz_iconst d97_41 ?_
  refine wz_icmp_ne (t := 49) d97_42 (by decide) ⟨by omega, by omega⟩ ⟨by omega, by omega⟩ (fun _ => ?_) (fun hb => absurd hb (by omega))
  refine wp_iload_n d97_49 rfl ?_
  refine wp_ret d97_50 rfl (F6.fin h (fun hg => ?_) (by rw [Bool.and_eq_true, and_assoc]))
  · have hg := (Bool.and_eq_true _ _).mp hg
    exact CNd.mk ⟨Int.le_refl _, by have := F6.le; omega⟩ (by decide) F6.2.2.2.2.2.1 F6.2.2.2.2.2.2.1 fm6 ⟨fun _ => by rw [fx6]; exact (kp6.cnd (kp2.cnd (nd1 hg.1))).down (by omega), fun k => absurd (show (1 : Nat) = 2 from k) (by decide)⟩ ⟨fun k => absurd (show (2 : Nat) = 1 from k) (by decide), fun _ => by rw [fy6]; exact kp6.nd nd2⟩ ⟨fun k => absurd (show (0 : Nat) = 1 from k) (by decide), fun k => absurd (show (0 : Nat) = 2 from k) (by decide)⟩
set_option maxRecDepth 20000 in
set_option maxHeartbeats 1000000 in
theorem c_selection {r X v p0 dp : Nat} {e : List (Nat × Int × Nat)} {M0 M : pm_M} {Rf : Nat → Nat → Nat} {K L : Nat → Nat} {n s z : Nat} {cn : Int} {Q : Option Value → pm_S → Prop} (IH : TmC tx ln d r) (F : FT tx ln X e p0 v ((11 : Int) - 5) M0 Rf K L n s z cn e (p0 + 1) (v + 1) M Rf K L n s z cn (GF M0)) (hdp : dp + r + 1 = 24) (he : e.length + r + 1 ≤ 24) (h : RmQ X e (r + 2) p0 v (if 120 ≤ chr tx ln (p0 + 1) ∧ chr tx ln (p0 + 1) ≤ 122 then thn (pM tx ln r e (p0 + 1 + 1)) (fun a q => (q, some (mN p0 11 (chr tx ln (p0 + 1) - 120).toNat a.1 .nil .nil, a.2))) else (p0 + 1, none)) M0 Rf K L n s z cn Q) : pm_Wc (d + 8 * r + 176) 98 [.ref 38, .int (zI (v : Int)), .int (zI (dp : Int))] (zM M, Rf, K, L, n, s) Q := by
  have hX := F.1.2.1
  have le0 := F.le
  refine wc_in (ls0 := [some (.ref 38), some (.int (zI (v : Int))), some (.int (zI (dp : Int))), none, none]) (by decide) (Nat.le_of_ble_eq_true rfl) rfl rfl ?_
  refine wp_aload_n d98_0 rfl ?_
  refine wz_iconst d98_1 ?_
  refine wp_iload_n d98_2 rfl ?_
  refine wp_virt (as := [.int (zI (dp : Int)), .int (zI 0)]) (rest := []) d98_3 rfl rfl rfl (F.1.1.1.o (by decide) rfl) rfl rfl (Nat.le_of_ble_eq_true rfl) ?_
  refine F.takeL (l := 0) (by omega) (by decide) (by omega) (fun hna hd24 Ma Fa kpa => ?_) (fun hna => ?_)
  rotate_left
  · skip
    rw [if_neg (by omega)] at h
    refine wp_istore_n d98_6 (Nat.le_of_ble_eq_true rfl) rfl ?_
    refine wp_iload_n d98_7 rfl ?_
    refine wz_iconst d98_8 ?_
    refine wz_icmp_ne (t := 16) d98_9 (by decide) ⟨by omega, by omega⟩ ⟨by omega, by omega⟩ (fun hb => absurd (rfl) hb) (fun _ => ?_)
    refine wz_iconst d98_12 ?_
    refine wp_goto (t := 23) d98_13 (by decide) ?_
    refine wp_istore d98_23 (Nat.le_of_ble_eq_true rfl) rfl ?_
    refine wp_aload_n d98_25 rfl ?_
    refine wp_getR (q := X) d98_26 rfl (F.1.1.1.o (by decide) rfl) (by decide) F.1.2.2.1 (by rcases hX with e | e <;> omega) ?_
    refine wp_iload_n d98_29 rfl ?_
    refine wp_iload_n d98_30 rfl ?_
    refine wp_iload d98_31 rfl ?_
    refine wz_iconst d98_33 ?_
    refine wz_iconst d98_34 ?_
    refine wp_virt (as := [.int (zI 0), .int (zI 0), .int (zI (-1)), .int (zI (-1)), .int (zI (v : Int))]) (rest := []) d98_35 rfl rfl rfl (F.1.1.1.tm hX) rfl rfl (Nat.le_of_ble_eq_true rfl) ?_
    refine F.fil (by omega) (⟨by omega, by omega⟩) (⟨by omega, by omega⟩) (⟨by omega, by omega⟩) ⟨by omega, by omega⟩ (fun M6 F6 kp6 fm6 fx6 fy6 fz6 => ?_)
    refine wp_iload d98_38 rfl ?_
    refine wz_iconst d98_40 ?_
    refine wz_icmp_ne (t := 48) d98_41 (by decide) ⟨by omega, by omega⟩ ⟨by omega, by omega⟩ (fun hb => absurd (rfl) hb) (fun _ => ?_)
    refine wz_iconst d98_44 ?_
    refine wp_goto (t := 49) d98_45 (by decide) ?_
    exact wp_ret d98_49 rfl (F6.out h)
  rw [if_pos (by omega)] at h
  obtain ⟨lb, hlb⟩ : ∃ lb, (chr tx ln (p0 + 1) - 120).toNat = lb := ⟨_, rfl⟩
  have hlb3 : lb < 3 := by omega
  rw [hlb] at h ⊢
  refine wp_istore_n d98_6 (Nat.le_of_ble_eq_true rfl) rfl ?_
  refine wp_iload_n d98_7 rfl ?_
  refine wz_iconst d98_8 ?_
  refine wz_icmp_ne (t := 16) d98_9 (by decide) ⟨by omega, by omega⟩ ⟨by omega, by omega⟩ (fun _ => ?_) (fun hb => absurd hb (by omega))
  refine wp_aload_n d98_16 rfl ?_
  refine wp_iload_n d98_17 rfl ?_
  refine wz_iconst d98_18 ?_
  refine wz_iadd d98_19 ?_
  refine wp_virt (as := [.int (zI ((dp : Int) + 1))]) (rest := []) d98_20 rfl rfl rfl (Fa.1.1.1.o (by decide) rfl) rfl rfl (Nat.le_of_ble_eq_true rfl) ?_
  refine Fa.trm IH (by omega) hdp (by omega) (Fa.wv) (fun q1 c1 M1 R1 K1 L1 n1 s1 z1 cn1 hp1 F1 => ?_) (fun q1 a1 c1 i1 M1 R1 K1 L1 n1 s1 z1 cn1 hp1 F1 kp1 rg1 nd1 => ?_)
  · skip
    rw [thn_none hp1] at h
    refine wp_istore d98_23 (Nat.le_of_ble_eq_true rfl) rfl ?_
    refine wp_aload_n d98_25 rfl ?_
    refine wp_getR (q := X) d98_26 rfl (F1.1.1.1.o (by decide) rfl) (by decide) F1.1.2.2.1 (by rcases hX with e | e <;> omega) ?_
    refine wp_iload_n d98_29 rfl ?_
    refine wp_iload_n d98_30 rfl ?_
    refine wp_iload d98_31 rfl ?_
    refine wz_iconst d98_33 ?_
    refine wz_iconst d98_34 ?_
    refine wp_virt (as := [.int (zI 0), .int (zI 0), .int (zI (-1)), .int (zI (lb : Int)), .int (zI (v : Int))]) (rest := []) d98_35 rfl rfl rfl (F1.1.1.1.tm hX) rfl rfl (Nat.le_of_ble_eq_true rfl) ?_
    refine F1.fil (by omega) (⟨by omega, by omega⟩) (⟨by omega, by omega⟩) (⟨by omega, by omega⟩) ⟨by omega, by omega⟩ (fun M6 F6 kp6 fm6 fx6 fy6 fz6 => ?_)
    refine wp_iload d98_38 rfl ?_
    refine wz_iconst d98_40 ?_
    refine wz_icmp_ne (t := 48) d98_41 (by decide) ⟨by omega, by omega⟩ ⟨by omega, by omega⟩ (fun hb => absurd (rfl) hb) (fun _ => ?_)
    refine wz_iconst d98_44 ?_
    refine wp_goto (t := 49) d98_45 (by decide) ?_
    exact wp_ret d98_49 rfl (F6.out h)
  rw [thn_some hp1] at h
  have lz1 := F1.le
  refine wp_istore d98_23 (Nat.le_of_ble_eq_true rfl) rfl ?_
  refine wp_aload_n d98_25 rfl ?_
  refine wp_getR (q := X) d98_26 rfl (F1.1.1.1.o (by decide) rfl) (by decide) F1.1.2.2.1 (by rcases hX with e | e <;> omega) ?_
  refine wp_iload_n d98_29 rfl ?_
  refine wp_iload_n d98_30 rfl ?_
  refine wp_iload d98_31 rfl ?_
  refine wz_iconst d98_33 ?_
  refine wz_iconst d98_34 ?_
  refine wp_virt (as := [.int (zI 0), .int (zI 0), .int (zI i1), .int (zI (lb : Int)), .int (zI (v : Int))]) (rest := []) d98_35 rfl rfl rfl (F1.1.1.1.tm hX) rfl rfl (Nat.le_of_ble_eq_true rfl) ?_
  refine F1.fil (by omega) (⟨by omega, by omega⟩) (⟨by omega, by omega⟩) (⟨by omega, by omega⟩) ⟨by omega, by omega⟩ (fun M6 F6 kp6 fm6 fx6 fy6 fz6 => ?_)
  refine wp_iload d98_38 rfl ?_
  refine wz_iconst d98_40 ?_
  refine wz_icmp_ne (t := 48) d98_41 (by decide) ⟨by omega, by omega⟩ ⟨by omega, by omega⟩ (fun _ => ?_) (fun hb => absurd hb (by omega))
  refine wp_iload_n d98_48 rfl ?_
  refine wp_ret d98_49 rfl (F6.fin h (fun hg => ?_) Iff.rfl)
  · have hg : a1.2 = true := hg
    exact CNd.mk ⟨Int.le_refl _, by have := F6.le; omega⟩ (by decide) F6.2.2.2.2.2.1 F6.2.2.2.2.2.2.1 fm6 ⟨fun _ => by rw [fx6]; exact (kp6.cnd (nd1 hg)).down (by omega), fun k => absurd (show (1 : Nat) = 2 from k) (by decide)⟩ ⟨fun k => absurd (show (0 : Nat) = 1 from k) (by decide), fun k => absurd (show (0 : Nat) = 2 from k) (by decide)⟩ ⟨fun k => absurd (show (0 : Nat) = 1 from k) (by decide), fun k => absurd (show (0 : Nat) = 2 from k) (by decide)⟩
set_option maxRecDepth 20000 in
set_option maxHeartbeats 1000000 in
theorem c_choice {r X v p0 dp : Nat} {e : List (Nat × Int × Nat)} {M0 M : pm_M} {Rf : Nat → Nat → Nat} {K L : Nat → Nat} {n s z : Nat} {cn : Int} {Q : Option Value → pm_S → Prop} (IH : TmC tx ln d r) (F : FT tx ln X e p0 v ((12 : Int) - 5) M0 Rf K L n s z cn e (p0 + 1) (v + 1) M Rf K L n s z cn (GF M0)) (hdp : dp + r + 1 = 24) (he : e.length + r + 1 ≤ 24) (h : RmQ X e (r + 2) p0 v (if 48 ≤ chr tx ln (p0 + 1) ∧ chr tx ln (p0 + 1) ≤ 49 then thn (pM tx ln r e (p0 + 1 + 1)) (fun a q => thn (pM tx ln r e q) (fun b q' => (q', some (mN p0 12 (chr tx ln (p0 + 1) - 48).toNat a.1 b.1 .nil, a.2 && b.2)))) else (p0 + 1, none)) M0 Rf K L n s z cn Q) : pm_Wc (d + 8 * r + 176) 99 [.ref 38, .int (zI (v : Int)), .int (zI (dp : Int))] (zM M, Rf, K, L, n, s) Q := by
  have hX := F.1.2.1
  have le0 := F.le
  refine wc_in (ls0 := [some (.ref 38), some (.int (zI (v : Int))), some (.int (zI (dp : Int))), none, none, none]) (by decide) (Nat.le_of_ble_eq_true rfl) rfl rfl ?_
  refine wp_aload_n d99_0 rfl ?_
  refine wz_bipush d99_1 (by decide) ?_
  refine wz_bipush d99_3 (by decide) ?_
  refine wp_virt (as := [.int (zI 49), .int (zI 48)]) (rest := []) d99_5 rfl rfl rfl (F.1.1.1.o (by decide) rfl) rfl rfl (Nat.le_of_ble_eq_true rfl) ?_
  refine F.takeB (by omega) (by decide) (by decide) (by decide) (by decide) (fun hna Ma Fa kpa => ?_) (fun hna => ?_)
  rotate_left
  · skip
    rw [if_neg hna] at h
    refine wp_istore_n d99_8 (Nat.le_of_ble_eq_true rfl) rfl ?_
    refine wp_iload_n d99_9 rfl ?_
    refine wz_if_ne (t := 17) d99_10 (by decide) ⟨by omega, by omega⟩ (fun hb => absurd (by decide) hb) (fun _ => ?_)
    refine wz_iconst d99_13 ?_
    refine wp_goto (t := 24) d99_14 (by decide) ?_
    refine wp_istore d99_24 (Nat.le_of_ble_eq_true rfl) rfl ?_
    refine wp_iload d99_26 rfl ?_
    refine wz_iconst d99_28 ?_
    refine wz_icmp_ne (t := 36) d99_29 (by decide) ⟨by omega, by omega⟩ ⟨by omega, by omega⟩ (fun hb => absurd (rfl) hb) (fun _ => ?_)
    refine wz_iconst d99_32 ?_
    refine wp_goto (t := 43) d99_33 (by decide) ?_
    refine wp_istore d99_43 (Nat.le_of_ble_eq_true rfl) rfl ?_
    refine wp_aload_n d99_45 rfl ?_
    refine wp_getR (q := X) d99_46 rfl (F.1.1.1.o (by decide) rfl) (by decide) F.1.2.2.1 (by rcases hX with e | e <;> omega) ?_
    refine wp_iload_n d99_49 rfl ?_
    refine wp_iload_n d99_50 rfl ?_
    refine wz_bipush d99_51 (by decide) ?_
    refine wz_isub d99_53 ?_
    refine wp_iload d99_54 rfl ?_
    refine wp_iload d99_56 rfl ?_
    refine wz_iconst d99_58 ?_
    refine wp_virt (as := [.int (zI 0), .int (zI (-1)), .int (zI (-1)), .int (zI (-48)), .int (zI (v : Int))]) (rest := []) d99_59 rfl rfl rfl (F.1.1.1.tm hX) rfl rfl (Nat.le_of_ble_eq_true rfl) ?_
    refine F.fil (by omega) (⟨by omega, by omega⟩) (⟨by omega, by omega⟩) (⟨by omega, by omega⟩) ⟨by omega, by omega⟩ (fun M6 F6 kp6 fm6 fx6 fy6 fz6 => ?_)
    refine wp_iload d99_62 rfl ?_
    refine wz_iconst d99_64 ?_
    refine wz_icmp_ne (t := 72) d99_65 (by decide) ⟨by omega, by omega⟩ ⟨by omega, by omega⟩ (fun hb => absurd (rfl) hb) (fun _ => ?_)
    refine wz_iconst d99_68 ?_
    refine wp_goto (t := 73) d99_69 (by decide) ?_
    exact wp_ret d99_73 rfl (F6.out h)
  rw [if_pos hna] at h
  obtain ⟨lb, hlb⟩ : ∃ lb, (chr tx ln (p0 + 1) - 48).toNat = lb := ⟨_, rfl⟩
  rw [hlb] at h
  refine wp_istore_n d99_8 (Nat.le_of_ble_eq_true rfl) rfl ?_
  refine wp_iload_n d99_9 rfl ?_
  refine wz_if_ne (t := 17) d99_10 (by decide) ⟨by omega, by omega⟩ (fun _ => ?_) (fun hb => absurd hb (by omega))
  refine wp_aload_n d99_17 rfl ?_
  refine wp_iload_n d99_18 rfl ?_
  refine wz_iconst d99_19 ?_
  refine wz_iadd d99_20 ?_
  refine wp_virt (as := [.int (zI ((dp : Int) + 1))]) (rest := []) d99_21 rfl rfl rfl (Fa.1.1.1.o (by decide) rfl) rfl rfl (Nat.le_of_ble_eq_true rfl) ?_
  refine Fa.trm IH (by omega) hdp (by omega) (Fa.wv) (fun q1 c1 M1 R1 K1 L1 n1 s1 z1 cn1 hp1 F1 => ?_) (fun q1 a1 c1 i1 M1 R1 K1 L1 n1 s1 z1 cn1 hp1 F1 kp1 rg1 nd1 => ?_)
  · skip
    rw [thn_none hp1] at h
    refine wp_istore d99_24 (Nat.le_of_ble_eq_true rfl) rfl ?_
    refine wp_iload d99_26 rfl ?_
    refine wz_iconst d99_28 ?_
    refine wz_icmp_ne (t := 36) d99_29 (by decide) ⟨by omega, by omega⟩ ⟨by omega, by omega⟩ (fun hb => absurd (rfl) hb) (fun _ => ?_)
    refine wz_iconst d99_32 ?_
    refine wp_goto (t := 43) d99_33 (by decide) ?_
    refine wp_istore d99_43 (Nat.le_of_ble_eq_true rfl) rfl ?_
    refine wp_aload_n d99_45 rfl ?_
    refine wp_getR (q := X) d99_46 rfl (F1.1.1.1.o (by decide) rfl) (by decide) F1.1.2.2.1 (by rcases hX with e | e <;> omega) ?_
    refine wp_iload_n d99_49 rfl ?_
    refine wp_iload_n d99_50 rfl ?_
    refine wz_bipush d99_51 (by decide) ?_
    refine wz_isub d99_53 ?_
    refine wp_iload d99_54 rfl ?_
    refine wp_iload d99_56 rfl ?_
    refine wz_iconst d99_58 ?_
    refine wp_virt (as := [.int (zI 0), .int (zI (-1)), .int (zI (-1)), .int (zI ((chr tx ln (p0 + 1)) - 48)), .int (zI (v : Int))]) (rest := []) d99_59 rfl rfl rfl (F1.1.1.1.tm hX) rfl rfl (Nat.le_of_ble_eq_true rfl) ?_
    refine F1.fil (by omega) (⟨by omega, by omega⟩) (⟨by omega, by omega⟩) (⟨by omega, by omega⟩) ⟨by omega, by omega⟩ (fun M6 F6 kp6 fm6 fx6 fy6 fz6 => ?_)
    refine wp_iload d99_62 rfl ?_
    refine wz_iconst d99_64 ?_
    refine wz_icmp_ne (t := 72) d99_65 (by decide) ⟨by omega, by omega⟩ ⟨by omega, by omega⟩ (fun hb => absurd (rfl) hb) (fun _ => ?_)
    refine wz_iconst d99_68 ?_
    refine wp_goto (t := 73) d99_69 (by decide) ?_
    exact wp_ret d99_73 rfl (F6.out h)
  rw [thn_some hp1] at h
  have lz1 := F1.le
  refine wp_istore d99_24 (Nat.le_of_ble_eq_true rfl) rfl ?_
  refine wp_iload d99_26 rfl ?_
  refine wz_iconst d99_28 ?_
  refine wz_icmp_ne (t := 36) d99_29 (by decide) ⟨by omega, by omega⟩ ⟨by omega, by omega⟩ (fun _ => ?_) (fun hb => absurd hb (by omega))
  refine wp_aload_n d99_36 rfl ?_
  refine wp_iload_n d99_37 rfl ?_
  refine wz_iconst d99_38 ?_
  refine wz_iadd d99_39 ?_
  refine wp_virt (as := [.int (zI ((dp : Int) + 1))]) (rest := []) d99_40 rfl rfl rfl (F1.1.1.1.o (by decide) rfl) rfl rfl (Nat.le_of_ble_eq_true rfl) ?_
  refine F1.trm IH (by omega) hdp (by omega) (F1.wv) (fun q2 c2 M2 R2 K2 L2 n2 s2 z2 cn2 hp2 F2 => ?_) (fun q2 b1 c2 i2 M2 R2 K2 L2 n2 s2 z2 cn2 hp2 F2 kp2 rg2 nd2 => ?_)
  · skip
    rw [thn_none hp2] at h
    refine wp_istore d99_43 (Nat.le_of_ble_eq_true rfl) rfl ?_
    refine wp_aload_n d99_45 rfl ?_
    refine wp_getR (q := X) d99_46 rfl (F2.1.1.1.o (by decide) rfl) (by decide) F2.1.2.2.1 (by rcases hX with e | e <;> omega) ?_
    refine wp_iload_n d99_49 rfl ?_
    refine wp_iload_n d99_50 rfl ?_
    refine wz_bipush d99_51 (by decide) ?_
    refine wz_isub d99_53 ?_
    refine wp_iload d99_54 rfl ?_
    refine wp_iload d99_56 rfl ?_
    refine wz_iconst d99_58 ?_
    refine wp_virt (as := [.int (zI 0), .int (zI (-1)), .int (zI i1), .int (zI ((chr tx ln (p0 + 1)) - 48)), .int (zI (v : Int))]) (rest := []) d99_59 rfl rfl rfl (F2.1.1.1.tm hX) rfl rfl (Nat.le_of_ble_eq_true rfl) ?_
    refine F2.fil (by omega) (⟨by omega, by omega⟩) (⟨by omega, by omega⟩) (⟨by omega, by omega⟩) ⟨by omega, by omega⟩ (fun M6 F6 kp6 fm6 fx6 fy6 fz6 => ?_)
    refine wp_iload d99_62 rfl ?_
    refine wz_iconst d99_64 ?_
    refine wz_icmp_ne (t := 72) d99_65 (by decide) ⟨by omega, by omega⟩ ⟨by omega, by omega⟩ (fun hb => absurd (rfl) hb) (fun _ => ?_)
    refine wz_iconst d99_68 ?_
    refine wp_goto (t := 73) d99_69 (by decide) ?_
    exact wp_ret d99_73 rfl (F6.out h)
  rw [thn_some hp2] at h
  have lz2 := F2.le
  refine wp_istore d99_43 (Nat.le_of_ble_eq_true rfl) rfl ?_
  refine wp_aload_n d99_45 rfl ?_
  refine wp_getR (q := X) d99_46 rfl (F2.1.1.1.o (by decide) rfl) (by decide) F2.1.2.2.1 (by rcases hX with e | e <;> omega) ?_
  refine wp_iload_n d99_49 rfl ?_
  refine wp_iload_n d99_50 rfl ?_
  refine wz_bipush d99_51 (by decide) ?_
  refine wz_isub d99_53 ?_
  rw [show chr tx ln (p0 + 1) - 48 = (lb : Int) by omega]
  refine wp_iload d99_54 rfl ?_
  refine wp_iload d99_56 rfl ?_
  refine wz_iconst d99_58 ?_
  refine wp_virt (as := [.int (zI 0), .int (zI i2), .int (zI i1), .int (zI (lb : Int)), .int (zI (v : Int))]) (rest := []) d99_59 rfl rfl rfl (F2.1.1.1.tm hX) rfl rfl (Nat.le_of_ble_eq_true rfl) ?_
  refine F2.fil (by omega) (⟨by omega, by omega⟩) (⟨by omega, by omega⟩) (⟨by omega, by omega⟩) ⟨by omega, by omega⟩ (fun M6 F6 kp6 fm6 fx6 fy6 fz6 => ?_)
  refine wp_iload d99_62 rfl ?_
  refine wz_iconst d99_64 ?_
  refine wz_icmp_ne (t := 72) d99_65 (by decide) ⟨by omega, by omega⟩ ⟨by omega, by omega⟩ (fun _ => ?_) (fun hb => absurd hb (by omega))
  refine wp_iload_n d99_72 rfl ?_
  refine wp_ret d99_73 rfl (F6.fin h (fun hg => ?_) (by rw [Bool.and_eq_true, and_assoc]))
  · have hg := (Bool.and_eq_true _ _).mp hg
    exact CNd.mk ⟨Int.le_refl _, by have := F6.le; omega⟩ (by decide) F6.2.2.2.2.2.1 F6.2.2.2.2.2.2.1 fm6 ⟨fun _ => by rw [fx6]; exact (kp6.cnd (kp2.cnd (nd1 hg.1))).down (by omega), fun k => absurd (show (1 : Nat) = 2 from k) (by decide)⟩ ⟨fun _ => by rw [fy6]; exact (kp6.cnd (nd2 hg.2)).down (by omega), fun k => absurd (show (1 : Nat) = 2 from k) (by decide)⟩ ⟨fun k => absurd (show (0 : Nat) = 1 from k) (by decide), fun k => absurd (show (0 : Nat) = 2 from k) (by decide)⟩
end PmC36
