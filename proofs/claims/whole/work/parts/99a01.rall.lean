/-! THE CLASS: reading a scheme. -/
section PmC29
variable {tx : Nat → Int} {ln d : Nat}
theorem RdS.opn {e : List Int} {p : Nat} {c : Int} {M : pm_M} {Rf : Nat → Nat → Nat} {K L : Nat → Nat} {n z : Nat} {cn : Int} (h : RdS tx ln e p M Rf K L n z cn) (hc : R32 c) (he : e.length ≤ 100) : RdS tx ln (c :: e) p (mset (mset M 39 (e.length : Int) c) 38 8 ((e.length + 1 : Nat) : Int)) Rf K L n z cn := by
  obtain ⟨g1, g2, g3, g4, g5, g6, g7, g8, g9, g10, g11, g12, g13⟩ := h
  have f : ∀ (p : Nat) (i : Int), ¬ (p = 38 ∧ i = 8) → ¬ (p = 39 ∧ i = (e.length : Int)) → mset (mset M 39 (e.length : Int) c) 38 8 ((e.length + 1 : Nat) : Int) p i = M p i := fun p i a b => by
    unfold mset
    rw [if_neg a, if_neg b]
  refine ⟨g1, g2, mset_R32 (mset_R32 g3 hc) ⟨by omega, by omega⟩, (f 6 6 (by omega) (by omega)).trans g4, g5, g6, g7, ndf_mono (fun g hg i _ _ => f _ i (by have := g2.2.1 g hg; omega) (by have := g2.2.1 g hg; omega)) (Int.le_refl _) (Nat.le_refl _) g8, ⟨(f 38 6 (by omega) (by omega)).trans g9.1, g9.2.1, fun i hi => ?_⟩, (f 38 7 (by omega) (by omega)).trans g10, g11, by rw [mset_s, List.length_cons], ?_, TNm.same (fun i _ hi => f 39 i (by omega) (by omega)) g13⟩
  · rw [f 2 i (by omega) (by omega)]
    exact g9.2.2 i hi
  · rw [mset_p _ _ _ _ (by decide), mset_s]
set_option maxRecDepth 20000 in
set_option maxHeartbeats 1000000 in
theorem c_allType {r : Nat} (IH : TyC tx ln d r) {e : List Int} {p dp : Nat} {M : pm_M} {Rf : Nat → Nat → Nat} {K L : Nat → Nat} {n s z : Nat} {cn : Int} {Q : Option Value → pm_S → Prop} (hS : RdS tx ln e p M Rf K L n z cn) (hdp : dp + r + 1 = 24) (he : e.length + r + 1 ≤ 24) (h : RdQ e (r + 2) p (if 80 ≤ chr tx ln p ∧ chr tx ln p ≤ 83 then (if chr tx ln (p + 1) = 58 then thn (pT tx ln r e (p + 2)) (fun a q => if chr tx ln q = 62 then thn (pT tx ln r (chr tx ln p :: e) (q + 1)) (fun b q' => (q', some (tAll a.1 b.1, a.2 && b.2))) else (q, none)) else (p + 1, none)) else (p, none)) M Rf K L n s z cn Q) : pm_Wc (d + 6 * r + 13) 89 [.ref 38, .int (zI (dp : Int))] (zM M, Rf, K, L, n, s) Q := by
  have hp := hS.2.2.2.2.2.2.2.2.2.2.1
  have hb8 := hS.2.2.2.2.2.2.1
  have l60 := hS.2.2.2.2.2.2.2.2.1.2.1
  have hcz := hS.2.2.2.2.2.1
  have h7 := hS.2.2.2.2.2.2.2.2.2.1
  have h8 := hS.2.2.2.2.2.2.2.2.2.2.2.1
  refine wc_in (ls0 := [some (.ref 38), some (.int (zI (dp : Int))), none, none, none]) (by decide) (Nat.le_of_ble_eq_true rfl) rfl rfl ?_
  refine wp_aload_n d89_0 rfl ?_
  refine wz_bipush d89_1 (by decide) ?_
  refine wz_bipush d89_3 (by decide) ?_
  refine wp_virt (as := [.int (zI 83), .int (zI 80)]) (rest := []) d89_5 rfl rfl rfl (hS.1.o (by decide) rfl) rfl rfl (Nat.le_of_ble_eq_true rfl) ?_
  refine c_takeB hS.1 hS.2.2.2.2.2.2.2.2.1 h7 hp (by decide) (by decide) (by decide) (by decide) (fun hn hlt => ?_) (fun hn => ?_)
  rotate_left
  · skip
    rw [if_neg hn] at h
    refine wp_istore_n d89_8 (Nat.le_of_ble_eq_true rfl) rfl ?_
    refine wp_iload_n d89_9 rfl ?_
    refine wz_if_eq (t := 22) d89_10 (by decide) ⟨by omega, by omega⟩ (fun _ => ?_) (fun hb => absurd (by decide) hb)
    refine wz_iconst d89_22 ?_
    exact wp_ret d89_23 rfl (h M Rf K L n s z cn (-1) (CX.refl hS.1 hS.2.1 hS.2.2.1) hS.2.2.2.1 (Int.le_refl _) (by omega) hcz h7 h8 rfl)
  rw [if_pos hn] at h
  have Sa := hS.adv hlt
  have cxa := hS.wset (s := s) ((p + 1 : Nat) : Int) ⟨by omega, by omega⟩
  refine wp_istore_n d89_8 (Nat.le_of_ble_eq_true rfl) rfl ?_
  refine wp_iload_n d89_9 rfl ?_
  refine wz_if_eq (t := 22) d89_10 (by decide) ⟨by omega, by omega⟩ (fun hb => absurd hb (by omega)) (fun _ => ?_)
  refine wp_aload_n d89_13 rfl ?_
  refine wz_bipush d89_14 (by decide) ?_
  refine wp_virt (as := [.int (zI 58)]) (rest := []) d89_16 rfl rfl rfl (Sa.1.o (by decide) rfl) rfl rfl (Nat.le_of_ble_eq_true rfl) ?_
  refine c_take Sa.1 Sa.2.2.2.2.2.2.2.2.1 (mset_s _ _ _ _) (by omega) (by decide) (by decide) (fun hk hlt2 => ?_) (fun hk => ?_)
  rotate_left
  · skip
    rw [if_neg hk] at h
    refine wz_if_ne (t := 24) d89_19 (by decide) ⟨by omega, by omega⟩ (fun hb => absurd (by decide) hb) (fun _ => ?_)
    refine wz_iconst d89_22 ?_
    exact wp_ret d89_23 rfl (h _ Rf K L n s z cn (-1) cxa Sa.2.2.2.1 (Int.le_refl _) (by omega) hcz (mset_s _ _ _ _) (by rw [mset_i _ _ _ _ (by decide)]; exact h8) rfl)
  rw [if_pos hk] at h
  have Sb := Sa.adv hlt2
  have cxb := cxa.trans (Sa.wset (s := s) ((p + 1 + 1 : Nat) : Int) ⟨by omega, by omega⟩) (Int.le_refl _)
  have f1 := pT_fw (tx := tx) (ln := ln) r e (p + 2) (by omega)
  refine wz_if_ne (t := 24) d89_19 (by decide) ⟨by omega, by omega⟩ (fun _ => ?_) (fun hb => absurd hb (by decide))
  refine wp_aload_n d89_24 rfl ?_
  refine wp_iload_n d89_25 rfl ?_
  refine wz_iconst d89_26 ?_
  refine wz_iadd d89_27 ?_
  refine wp_virt (as := [.int (zI ((dp : Int) + 1))]) (rest := []) d89_28 rfl rfl rfl (Sb.1.o (by decide) rfl) rfl rfl (Nat.le_of_ble_eq_true rfl) ?_
  rw [show (dp : Int) + 1 = ((dp + 1 : Nat) : Int) by omega]
  refine IH (dp + 1) e (p + 2) _ Rf K L n s z cn _ (by omega) Sb (by omega) (fun M1 R1 K1 L1 n1 s1 z1 cn1 i1 cx1 u1 u2 u3 u4 u5 u6 t1 => ?_)
  have cx01 := cxb.trans cx1 (Int.le_refl _)
  rw [mset_i _ _ _ _ (by decide), mset_i _ _ _ _ (by decide)] at t1
  cases hpt : pT tx ln r e (p + 2) with
  | mk q o =>
  rw [hpt] at f1 u3 u5 t1
  have q1 : p + 2 ≤ q := f1.1
  have q2 : q ≤ ln := f1.2.1
  have u3 : cn1 ≤ cn + ((q - (p + 2) : Nat) : Int) := u3
  have u5 : M1 38 7 = (q : Int) := u5
  have S1 : RdS tx ln e q M1 R1 K1 L1 n1 z1 cn1 := Sb.cx cx1 u1 u2 (by omega) u4 u5 q2 u6
  have hz1 := S1.2.1.2.2.2.2
  cases o with
  | none =>
    rw [thn_none hpt] at h
    have t1 : i1 = -1 := t1
    subst t1
    refine wp_istore_n d89_31 (Nat.le_of_ble_eq_true rfl) rfl ?_
    refine wp_iload_n d89_32 rfl ?_
    refine wz_iconst d89_33 ?_
    refine wz_icmp_eq (t := 46) d89_34 (by decide) ⟨by omega, by omega⟩ ⟨by omega, by omega⟩ (fun _ => ?_) (fun hb => absurd (rfl) hb)
    refine wz_iconst d89_46 ?_
    exact wp_ret d89_47 rfl (h M1 R1 K1 L1 n1 s1 z1 cn1 (-1) cx01 u1 u2 (by show cn1 ≤ cn + ((q - p : Nat) : Int); omega) u4 u5 u6 rfl)
  | some a =>
  rw [thn_some hpt] at h
  obtain ⟨x1, x2, x3⟩ := pT_ok r e (p + 2) q a hpt
  obtain ⟨nd1, cl1⟩ := t1
  have rr1 := ndf_rng nd1
  refine wp_istore_n d89_31 (Nat.le_of_ble_eq_true rfl) rfl ?_
  refine wp_iload_n d89_32 rfl ?_
  refine wz_iconst d89_33 ?_
  refine wz_icmp_eq (t := 46) d89_34 (by decide) ⟨by omega, by omega⟩ ⟨by omega, by omega⟩ (fun hb => absurd hb (by omega)) (fun _ => ?_)
  refine wp_aload_n d89_37 rfl ?_
  refine wz_bipush d89_38 (by decide) ?_
  refine wp_virt (as := [.int (zI 62)]) (rest := []) d89_40 rfl rfl rfl (S1.1.o (by decide) rfl) rfl rfl (Nat.le_of_ble_eq_true rfl) ?_
  refine c_take S1.1 S1.2.2.2.2.2.2.2.2.1 u5 q2 (by decide) (by decide) (fun hc hlt3 => ?_) (fun hc => ?_)
  rotate_left
  · skip
    rw [if_neg hc] at h
    refine wz_if_ne (t := 48) d89_43 (by decide) ⟨by omega, by omega⟩ (fun hb => absurd (by decide) hb) (fun _ => ?_)
    refine wz_iconst d89_46 ?_
    exact wp_ret d89_47 rfl (h M1 R1 K1 L1 n1 s1 z1 cn1 (-1) cx01 u1 u2 (by show cn1 ≤ cn + ((q - p : Nat) : Int); omega) u4 u5 u6 rfl)
  rw [if_pos hc] at h
  refine wz_if_ne (t := 48) d89_43 (by decide) ⟨by omega, by omega⟩ (fun _ => ?_) (fun hb => absurd hb (by decide))
  have S2 := S1.adv hlt3
  have cx2 := S1.wset (s := s1) ((q + 1 : Nat) : Int) ⟨by omega, by omega⟩
  have f2 := pT_fw (tx := tx) (ln := ln) r (chr tx ln p :: e) (q + 1) (by omega)
  refine wp_aload_n d89_48 rfl ?_
  refine wp_iload_n d89_49 rfl ?_
  refine wp_virt (as := [.int (zI (chr tx ln p))]) (rest := []) d89_50 rfl rfl rfl (S2.1.o (by decide) rfl) rfl rfl (Nat.le_of_ble_eq_true rfl) ?_
  refine c_openType S2.1 S2.2.2.2.2.2.2.2.2.2.2.2.1 (by omega) (by omega) (by omega) ?_
  have S3 := S2.opn (c := chr tx ln p) ⟨by omega, by omega⟩ (by omega)
  have cx3 : CX (WT e.length) (mset M1 38 7 ((q + 1 : Nat) : Int)) R1 K1 L1 n1 s1 z1 cn1 (mset (mset (mset M1 38 7 ((q + 1 : Nat) : Int)) 39 (e.length : Int) (chr tx ln p)) 38 8 ((e.length + 1 : Nat) : Int)) R1 K1 L1 n1 s1 z1 := ((CX.refl S2.1 S2.2.1 S2.2.2.1).set (fun g hg => by have := S2.2.1.2.1 g hg; omega) (by unfold WT; omega) ⟨by omega, by omega⟩).set (fun g hg => by have := S2.2.1.2.1 g hg; omega) (by unfold WT; omega) ⟨by omega, by omega⟩
  refine wp_aload_n d89_53 rfl ?_
  refine wp_iload_n d89_54 rfl ?_
  refine wz_iconst d89_55 ?_
  refine wz_iadd d89_56 ?_
  refine wp_virt (as := [.int (zI ((dp : Int) + 1))]) (rest := []) d89_57 rfl rfl rfl (S3.1.o (by decide) rfl) rfl rfl (Nat.le_of_ble_eq_true rfl) ?_
  rw [show (dp : Int) + 1 = ((dp + 1 : Nat) : Int) by omega]
  refine IH (dp + 1) (chr tx ln p :: e) (q + 1) _ R1 K1 L1 n1 s1 z1 cn1 _ (by omega) S3 (by rw [List.length_cons]; omega) (fun M4 R4 K4 L4 n4 s4 z4 cn4 i4 cx4 v1 v2 v3 v4 v5 v6 t4 => ?_)
  have cx4' : CX (WT e.length) _ R1 K1 L1 n1 s1 z1 cn1 M4 R4 K4 L4 n4 s4 z4 := cx4.weak (fun p q hw => by unfold WT at hw ⊢; rw [List.length_cons] at hw; omega)
  have cx14 := (cx2.trans cx3 (Int.le_refl _)).trans cx4' (Int.le_refl _)
  have cx04 := cx01.trans cx14 u2
  rw [List.length_cons] at v6
  rw [mset_i _ _ _ _ (by decide), mset_p _ _ _ _ (by decide), mset_i _ _ _ _ (by decide)] at t4
  cases hpt2 : pT tx ln r (chr tx ln p :: e) (q + 1) with
  | mk q' o' =>
  rw [hpt2] at f2 v3 v5 t4
  have q3 : q + 1 ≤ q' := f2.1
  have q4 : q' ≤ ln := f2.2.1
  have v3 : cn4 ≤ cn1 + ((q' - (q + 1) : Nat) : Int) := v3
  have v5 : M4 38 7 = (q' : Int) := v5
  have hz4 := cx4.r.2.2.2.2
  -- one name fewer
  have cx5 : CX (WT e.length) M Rf K L n s z cn (mset M4 38 8 ((e.length : Nat) : Int)) R4 K4 L4 n4 s4 z4 := cx04.set (fun g hg => by have := cx4.r.2.1 g hg; omega) (by unfold WT; omega) ⟨by omega, by omega⟩
  have idn : ∀ g, g < 5 → ∀ i : Int, 0 ≤ i → i < cn4 → mset M4 38 8 ((e.length : Nat) : Int) (R4 6 g) i = M4 (R4 6 g) i := fun g hg i _ _ => mset_p _ _ _ _ (by have := cx4.r.2.1 g hg; omega)
  have w6 : mset M4 38 8 ((e.length : Nat) : Int) 6 6 = cn4 := by rw [mset_p _ _ _ _ (by decide)]; exact v1
  have w7 : mset M4 38 8 ((e.length : Nat) : Int) 38 7 = (q' : Int) := by rw [mset_i _ _ _ _ (by decide)]; exact v5
  refine wp_istore d89_60 (Nat.le_of_ble_eq_true rfl) rfl ?_
  refine wp_aload_n d89_62 rfl ?_
  refine wp_dupr d89_63 ?_
  refine wz_getI (v := ((e.length + 1 : Nat) : Int)) d89_64 rfl (cx4.g.o (by decide) rfl) (by decide) (v6) ?_
  refine wz_iconst d89_67 ?_
  refine wz_isub d89_68 ?_
  refine wz_putI (i := 8) d89_69 rfl (cx4.g.o (by decide) rfl) rfl (by decide) rfl ?_
  rw [show ((e.length + 1 : Nat) : Int) - 1 = ((e.length : Nat) : Int) by omega]
  cases o' with
  | none =>
    rw [thn_none hpt2] at h
    have t4 : i4 = -1 := t4
    subst t4
    refine wp_iload d89_72 rfl ?_
    refine wz_iconst d89_74 ?_
    refine wz_icmp_ne (t := 82) d89_75 (by decide) ⟨by omega, by omega⟩ ⟨by omega, by omega⟩ (fun hb => absurd (rfl) hb) (fun _ => ?_)
    refine wz_iconst d89_78 ?_
    refine wp_goto (t := 95) d89_79 (by decide) ?_
    exact wp_ret d89_95 rfl (h _ R4 K4 L4 n4 s4 z4 cn4 (-1) cx5 w6 (by omega) (by show cn4 ≤ cn + ((q' - p : Nat) : Int); omega) v4 w7 (mset_s _ _ _ _) rfl)
  | some b =>
  rw [thn_some hpt2] at h
  obtain ⟨y1, y2, y3⟩ := pT_ok r (chr tx ln p :: e) (q + 1) q' b hpt2
  rw [List.length_cons] at y1 y2
  obtain ⟨nd4, cl4⟩ := t4
  have rr4 := ndf_rng nd4
  have oR : ok (e.length + 1) (tAll a.1 b.1) = true := ok_all.mpr ⟨x1, y1⟩
  have X0f : XF (mset M4 38 8 ((e.length : Nat) : Int)) R4 cn4 (r + 1) (tAll a.1 b.1) 0 i1 := ⟨rr1.1, by omega, fun _ => ndf_mono (fun g hg i i0 i1 => (idn g hg i i0 (by omega)).trans (cx14.nodes g hg i i0 i1)) v2 (Nat.le_refl _) nd1⟩
  have X1f : XF (mset M4 38 8 ((e.length : Nat) : Int)) R4 cn4 (r + 1) (tAll a.1 b.1) 1 i4 := ⟨rr4.1, rr4.2, fun _ => ndf_mono idn (Int.le_refl _) (Nat.le_refl _) nd4⟩
  have X2f : XF (mset M4 38 8 ((e.length : Nat) : Int)) R4 cn4 (r + 1) (tAll a.1 b.1) 2 0 := ⟨Int.le_refl _, by omega, fun hb => by rw [(hp_all a.1 b.1).2.2] at hb; cases hb⟩
  have s0 := X0f.size oR (by decide)
  have s1' := X1f.size oR (by decide)
  have s2' := X2f.size oR (by decide)
  rw [(pt_all a.1 b.1).1] at s0
  rw [(pt_all a.1 b.1).2.1] at s1'
  have s2'' : psz (mset M4 38 8 ((e.length : Nat) : Int)) R4 (cc (hd (tAll a.1 b.1))) 2 0 = 0 := s2'
  refine wp_iload d89_72 rfl ?_
  refine wz_iconst d89_74 ?_
  refine wz_icmp_ne (t := 82) d89_75 (by decide) ⟨by omega, by omega⟩ ⟨by omega, by omega⟩ (fun _ => ?_) (fun hb => absurd hb (by omega))
  refine wp_aload_n d89_82 rfl ?_
  refine wp_getR (q := 6) d89_83 rfl (cx5.g.o (by decide) rfl) (by decide) (cx5.g.r (by decide +kernel)) (by decide) ?_
  refine wz_bipush d89_86 (by decide) ?_
  refine wp_iload_n d89_88 rfl ?_
  refine wp_iload d89_89 rfl ?_
  refine wz_iconst d89_91 ?_
  refine wp_virt (as := [.int (zI 0), .int (zI i4), .int (zI i1), .int (zI 35)]) (rest := []) d89_92 rfl rfl rfl (cx5.g.o (by decide) rfl) rfl rfl (Nat.le_of_ble_eq_true rfl) ?_
  refine wc_deep (show 0 + 3 ≤ d + 6 * r + 12 by omega) ?_
  refine c_make (c := cc (hd (tAll a.1 b.1))) cx5.g cx5.r cx5.r32 w6 v4 (by omega) (by show 35 < 1000000; decide) rr1.1 (by omega) rr4.1 rr4.2 (Int.le_refl _) (by omega) (by rw [s0]; omega) (by rw [s1']; omega) (by rw [s2'']; decide) (fun M5 R5 K5 L5 n5 s5 z5 mk => ?_)
  have nd5 := mk.ndf oR (by omega) X0f X1f X2f
  have mcx := mk.cx
  obtain ⟨-, m6, mz, -⟩ := mk
  have cx15 := cx5.trans (mcx.weak (W' := WT e.length) (fun p q hw => Or.inl hw)) (by omega)
  have g : ∀ i : Int, M5 38 i = mset M4 38 8 ((e.length : Nat) : Int) 38 i := fun i => mcx.mem 38 (by have := cx5.g.1; omega) (fun g hg => by have := cx5.r.2.1 g hg; omega) i (by omega)
  refine wp_ret d89_95 rfl (h M5 R5 K5 L5 n5 s5 z5 (cn4 + 1) cn4 cx15 m6 (by omega) (by show cn4 + 1 ≤ cn + ((q' - p : Nat) : Int); omega) (by omega) ?_ ?_ ⟨nd5, ?_⟩)
  · rw [g 7]; exact w7
  · rw [g 8, mset_s]
  · rw [g 11, mset_i _ _ _ _ (by decide), cl4, cl1]
    show (if b.2 = true then (if a.2 = true then M 38 11 else 0) else 0) = if (a.2 && b.2) = true then M 38 11 else 0
    cases a.2 <;> cases b.2 <;> rfl
end PmC29
