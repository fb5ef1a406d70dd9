/-! THE CLASS: joinOfForms at two records, joinOf. -/
theorem and_bits : ∀ m, m < 8 → ∀ m', m' < 8 → ∀ g, g < 3 → (bit (lset 0 m m') g = true ↔ (bit m g = true ∧ bit m' g = true)) := by decide
theorem PU_join {M : pm_M} {Rf : Nat → Nat → Nat} {cn r : Int} {F m m' g : Nat} {Γ : List Ty} {x y : Ty} {a b : Bool} (hm : m < 8) (hm' : m' < 8) (hg : g < 3) (ea : a = bit m g) (eb : b = bit m' g) (tk : a = true → b = true → tok (Γ, x, y)) (h0 : 0 ≤ r) (h1 : r < cn) (h2 : a = true → b = true → JR M Rf cn (16 + F) (cmu 0 Γ x y) r) : ∃ R, upart (cmu 0 Γ) (lset 0 m m') m m' g x y = some R ∧ (bit (lset 0 m m') g = true → ndf M Rf cn (16 + F) R r) := by
  subst ea eb
  have ab := and_bits m hm m' hm' g hg
  unfold upart
  by_cases c : bit (lset 0 m m') g = true
  · obtain ⟨c1, c2⟩ := ab.mp c
    rw [if_pos c, if_pos c1, if_pos c2]
    obtain ⟨R, eR⟩ := cmu_zero (tk c1 c2)
    have j := h2 c1 c2
    rw [eR] at j
    exact ⟨R, eR, fun _ => j⟩
  · rw [if_neg c]
    exact ⟨.nil, rfl, fun e => absurd e c⟩
section PmC21
variable {d : Nat}
set_option maxRecDepth 20000 in
set_option maxHeartbeats 2000000 in
theorem c_joinRecs {F m m' : Nat} (IH : JC 0 52 d F) {Γ : List Ty} {X0 X1 X2 Y0 Y1 Y2 : Ty} {i j : Int} {deep : Nat} {M : pm_M} {Rf : Nat → Nat → Nat} {K L : Nat → Nat} {n s z : Nat} {cn : Int} {Q : Option Value → pm_S → Prop} (hm : m < 8) (hm' : m' < 8) (bh : BH M Rf K L n z cn Γ (tRec m X0 X1 X2) (tRec m' Y0 Y1 Y2) i j) (top : ndf M Rf cn 1 tTop 0) (nb : ¬ bel Γ (tRec m X0 X1 X2) (tRec m' Y0 Y1 Y2) = true) (nb' : ¬ bel Γ (tRec m' Y0 Y1 Y2) (tRec m X0 X1 X2) = true) (hh : hgt (oh Γ) (tRec m X0 X1 X2) + hgt (oh Γ) (tRec m' Y0 Y1 Y2) ≤ 2 * F + 2) (hc : cn + (nbm 0 Γ (tRec m X0 X1 X2) (tRec m' Y0 Y1 Y2) : Nat) + 16 * ((hgt (oh Γ) (tRec m X0 X1 X2) + hgt (oh Γ) (tRec m' Y0 Y1 Y2) : Nat) : Int) ≤ 16384) (hdp : deep + F + 1 ≤ 40) (hΓ : Γ.length + F ≤ 64) (hw : 17 * gn (0, Γ, tRec m X0 X1 X2, tRec m' Y0 Y1 Y2) ≤ 1000000) (h : ∀ (M' : pm_M) (Rf' : Nat → Nat → Nat) (K' L' : Nat → Nat) (n' s' z' : Nat) (cn' r : Int), CX (WB Γ.length) M Rf K L n s z cn M' Rf' K' L' n' s' z' → M' 6 6 = cn' → cn ≤ cn' → cn' ≤ cn + (nbm 0 Γ (tRec m X0 X1 X2) (tRec m' Y0 Y1 Y2) : Nat) → cn' ≤ z' → JR M' Rf' cn' (16 + F + 1) (cmu 0 Γ (tRec m X0 X1 X2) (tRec m' Y0 Y1 Y2)) r → Q (some (.int (zI r))) (zM M', Rf', K', L', n', s')) : pm_Wp none (d + 8 * F + 92) 53 9 [some (.ref 6), some (.int (zI i)), some (.int (zI j)), some (.int (zI (Γ.length : Int))), some (.int (zI (deep : Int))), none, none] [] (zM M, Rf, K, L, n, s) Q := by
  obtain ⟨hG, hR, hM, hcn, c1, cz, tk, bn, nS, nT, lS, lT⟩ := bh
  have hn := hG.1
  have hz := hR.2.2.2.2
  have oS : ok Γ.length (tRec m X0 X1 X2) = true := tk.2.1
  have oT : ok Γ.length (tRec m' Y0 Y1 Y2) = true := tk.2.2
  have hcx : okc Γ := tk.1
  obtain ⟨p0, p1, p2⟩ := pt_rec hm X0 X1 X2
  obtain ⟨q0, q1, q2⟩ := pt_rec hm' Y0 Y1 Y2
  have hpS := hp_rec hm X0 X1 X2
  have hpT := hp_rec hm' Y0 Y1 Y2
  obtain ⟨oX0, oX1, oX2⟩ := (ok_rec hm).mp oS
  obtain ⟨oY0, oY1, oY2⟩ := (ok_rec hm').mp oT
  have ev := cu_rec (w := 0) hm hm' tk (by decide) nb nb'
  have tkb' : tkb 16 Γ (tRec m X0 X1 X2) (tRec m' Y0 Y1 Y2) := ⟨tk, fun k hk => (bn k hk).2, lS, lT⟩
  have h8 : lset 0 m m' < 8 := (and8 m hm m' hm').2
  have eand : (8 + m) &&& (8 + m') = 8 + lset 0 m m' := (and8 m hm m' hm').1
  have nbe := nbm_rec (w := 0) tk hm hm' (by decide) nb nb'
  have flS : (flat (tRec m X0 X1 X2)).length = 1 + ((flat X0).length + ((flat X1).length + (flat X2).length)) := by
    rw [flat_rec, List.length_cons, List.length_append, List.length_append]; omega
  have flT : (flat (tRec m' Y0 Y1 Y2)).length = 1 + ((flat Y0).length + ((flat Y1).length + (flat Y2).length)) := by
    rw [flat_rec, List.length_cons, List.length_append, List.length_append]; omega
  rw [flS] at lS
  rw [flT] at lT
  rw [hgt_rec, hgt_rec] at hh hc
  have hw0 := hw
  have kS0 : hp (tRec m X0 X1 X2) 0 = true → ok Γ.length X0 = true := fun hb => by rw [hpS 0 (by decide)] at hb; exact okl_on oX0 (bit_iff.mp hb)
  have kS1 : hp (tRec m X0 X1 X2) 1 = true → ok Γ.length X1 = true := fun hb => by rw [hpS 1 (by decide)] at hb; exact okl_on oX1 (bit_iff.mp hb)
  have kS2 : hp (tRec m X0 X1 X2) 2 = true → ok Γ.length X2 = true := fun hb => by rw [hpS 2 (by decide)] at hb; exact okl_on oX2 (bit_iff.mp hb)
  have kT0 : hp (tRec m' Y0 Y1 Y2) 0 = true → ok Γ.length Y0 = true := fun hb => by rw [hpT 0 (by decide)] at hb; exact okl_on oY0 (bit_iff.mp hb)
  have kT1 : hp (tRec m' Y0 Y1 Y2) 1 = true → ok Γ.length Y1 = true := fun hb => by rw [hpT 1 (by decide)] at hb; exact okl_on oY1 (bit_iff.mp hb)
  have kT2 : hp (tRec m' Y0 Y1 Y2) 2 = true → ok Γ.length Y2 = true := fun hb => by rw [hpT 2 (by decide)] at hb; exact okl_on oY2 (bit_iff.mp hb)
  have nS0 := nS
  have nT0 := nT
  obtain ⟨⟨i0, i1, iC, -, -⟩, -⟩ := nS0
  obtain ⟨⟨j0, j1, jC, -, -⟩, -⟩ := nT0
  rw [hd_rec, cc_rec hm] at iC
  rw [hd_rec, cc_rec hm'] at jC
  refine wp_aload_n d53_9 rfl ?_
  refine wp_aload_n d53_10 rfl ?_
  refine wp_getR (q := Rf 6 0) d53_11 rfl (hG.o (by decide) rfl) (by decide) rfl (hR.1 0 (by decide)).1 ?_
  refine wp_iload_n d53_14 rfl ?_
  refine wz_iald (z := z) (v := ((8 + m : Nat) : Int)) d53_15 (hR.1 0 (by decide)) i0 (by omega) (by omega) iC ?_
  refine wp_aload_n d53_16 rfl ?_
  refine wp_getR (q := Rf 6 0) d53_17 rfl (hG.o (by decide) rfl) (by decide) rfl (hR.1 0 (by decide)).1 ?_
  refine wp_iload_n d53_20 rfl ?_
  refine wz_iald (z := z) (v := ((8 + m' : Nat) : Int)) d53_21 (hR.1 0 (by decide)) j0 (by omega) (by omega) jC ?_
  refine wz_iand d53_22 (by omega) (by omega) ?_
  rw [Int.toNat_natCast, Int.toNat_natCast, eand]
  refine wp_aload_n d53_23 rfl ?_
  refine wp_iload_n d53_24 rfl ?_
  refine wp_iload_n d53_25 rfl ?_
  refine wz_iconst d53_26 ?_
  refine wp_iload_n d53_27 rfl ?_
  refine wp_iload d53_28 rfl ?_
  refine wp_virt (as := [.int (zI (deep : Int)), .int (zI (Γ.length : Int)), .int (zI 0), .int (zI j), .int (zI i)]) (rest := [.int (zI ((8 + lset 0 m m' : Nat) : Int)), .ref 6]) d53_30 rfl rfl rfl (hG.o (by decide) rfl) rfl rfl (Nat.le_of_ble_eq_true rfl) ?_
  refine wc_deep (show d + 8 * F + 91 ≤ d + 8 * F + 92 by omega) ?_
  refine c_joinParts (g := 0) IH (by decide) hG hR hM hcn c1 cz hcx oS oT (fun hb => by rw [p0]; exact kS0 hb) (fun hb => by rw [q0]; exact kT0 hb) top bn nS nT (by rw [p0]; omega) (by rw [q0]; omega) (by rw [p0, q0]; omega) (by rw [p0, q0]; omega) hdp hΓ (fun hb1 hb2 => Nat.le_trans (Nat.mul_le_mul_left 17 (gn_part (w := 0) tk hm hm' (by decide) nb nb' (by decide) hb1 hb2)) hw) (fun M1 R1 K1 L1 n1 s1 z1 cn1 x cx1 u1 u2 u3 u4 x0 x1 a1 => ?_)
  rw [p0, q0] at a1
  obtain ⟨A0, eA0, f0⟩ := PU_join hm hm' (by decide) (hpS 0 (by decide)) (hpT 0 (by decide)) (fun a b => ⟨hcx, kS0 a, kT0 b⟩) x0 x1 a1
  clear a1
  refine wp_aload_n d53_33 rfl ?_
  refine wp_iload_n d53_34 rfl ?_
  refine wp_iload_n d53_35 rfl ?_
  refine wz_iconst d53_36 ?_
  refine wp_iload_n d53_37 rfl ?_
  refine wp_iload d53_38 rfl ?_
  refine wp_virt (as := [.int (zI (deep : Int)), .int (zI (Γ.length : Int)), .int (zI 1), .int (zI j), .int (zI i)]) (rest := [.int (zI x), .int (zI ((8 + lset 0 m m' : Nat) : Int)), .ref 6]) d53_40 rfl rfl rfl (cx1.g.o (by decide) rfl) rfl rfl (Nat.le_of_ble_eq_true rfl) ?_
  refine wc_deep (show d + 8 * F + 91 ≤ d + 8 * F + 92 by omega) ?_
  refine c_joinParts (g := 1) IH (by decide) cx1.g cx1.r cx1.r32 u1 (by omega) u4 hcx oS oT (fun hb => by rw [p1]; exact kS1 hb) (fun hb => by rw [q1]; exact kT1 hb) (ndf_mono cx1.nodes u2 (Nat.le_refl _) top) (cx1.bn hR hn (Nat.le_refl _) u2 bn) (ndf_mono cx1.nodes u2 (Nat.le_refl _) nS) (ndf_mono cx1.nodes u2 (Nat.le_refl _) nT) (by rw [p1]; omega) (by rw [q1]; omega) (by rw [p1, q1]; omega) (by rw [p1, q1]; omega) hdp hΓ (fun hb1 hb2 => Nat.le_trans (Nat.mul_le_mul_left 17 (gn_part (w := 0) tk hm hm' (by decide) nb nb' (by decide) hb1 hb2)) hw) (fun M2 R2 K2 L2 n2 s2 z2 cn2 y cx2 v1 v2 v3 v4 y0 y1 a1 => ?_)
  rw [p1, q1] at a1
  obtain ⟨A1, eA1, f1⟩ := PU_join hm hm' (by decide) (hpS 1 (by decide)) (hpT 1 (by decide)) (fun a b => ⟨hcx, kS1 a, kT1 b⟩) y0 y1 a1
  clear a1
  have cx12 := cx1.trans cx2 u2
  refine wp_aload_n d53_43 rfl ?_
  refine wp_iload_n d53_44 rfl ?_
  refine wp_iload_n d53_45 rfl ?_
  refine wz_iconst d53_46 ?_
  refine wp_iload_n d53_47 rfl ?_
  refine wp_iload d53_48 rfl ?_
  refine wp_virt (as := [.int (zI (deep : Int)), .int (zI (Γ.length : Int)), .int (zI 2), .int (zI j), .int (zI i)]) (rest := [.int (zI y), .int (zI x), .int (zI ((8 + lset 0 m m' : Nat) : Int)), .ref 6]) d53_50 rfl rfl rfl (cx2.g.o (by decide) rfl) rfl rfl (Nat.le_of_ble_eq_true rfl) ?_
  refine wc_deep (show d + 8 * F + 91 ≤ d + 8 * F + 92 by omega) ?_
  refine c_joinParts (g := 2) IH (by decide) cx2.g cx2.r cx2.r32 v1 (by omega) v4 hcx oS oT (fun hb => by rw [p2]; exact kS2 hb) (fun hb => by rw [q2]; exact kT2 hb) (ndf_mono cx12.nodes (by omega) (Nat.le_refl _) top) (cx12.bn hR hn (Nat.le_refl _) (by omega) bn) (ndf_mono cx12.nodes (by omega) (Nat.le_refl _) nS) (ndf_mono cx12.nodes (by omega) (Nat.le_refl _) nT) (by rw [p2]; omega) (by rw [q2]; omega) (by rw [p2, q2]; omega) (by rw [p2, q2]; omega) hdp hΓ (fun hb1 hb2 => Nat.le_trans (Nat.mul_le_mul_left 17 (gn_part (w := 0) tk hm hm' (by decide) nb nb' (by decide) hb1 hb2)) hw) (fun M3 R3 K3 L3 n3 s3 z3 cn3 w cx3 w1 w2 w3 w4 z0 zz1 a1 => ?_)
  rw [p2, q2] at a1
  obtain ⟨A2, eA2, f2⟩ := PU_join hm hm' (by decide) (hpS 2 (by decide)) (hpT 2 (by decide)) (fun a b => ⟨hcx, kS2 a, kT2 b⟩) z0 zz1 a1
  clear a1
  have cx13 := cx12.trans cx3 (by omega)
  have cx23 := cx2.trans cx3 v2
  have hz3 := cx13.r.2.2.2.2
  have eR : cmu 0 Γ (tRec m X0 X1 X2) (tRec m' Y0 Y1 Y2) = some (tRec (lset 0 m m') A0 A1 A2) := by rw [ev, eA0, eA1, eA2]; rfl
  obtain ⟨oR, lR⟩ := cmu_ok tkb' eR
  obtain ⟨r0, r1, r2⟩ := pt_rec h8 A0 A1 A2
  have hpR := hp_rec h8 A0 A1 A2
  have X0f : XF M3 R3 cn3 (16 + F) (tRec (lset 0 m m') A0 A1 A2) 0 x := ⟨x0, by omega, fun hb => by rw [hpR 0 (by decide)] at hb; rw [r0]; exact ndf_mono cx23.nodes (by omega) (Nat.le_refl _) (f0 hb)⟩
  have X1f : XF M3 R3 cn3 (16 + F) (tRec (lset 0 m m') A0 A1 A2) 1 y := ⟨y0, by omega, fun hb => by rw [hpR 1 (by decide)] at hb; rw [r1]; exact ndf_mono cx3.nodes w2 (Nat.le_refl _) (f1 hb)⟩
  have X2f : XF M3 R3 cn3 (16 + F) (tRec (lset 0 m m') A0 A1 A2) 2 w := ⟨z0, zz1, fun hb => by rw [hpR 2 (by decide)] at hb; rw [r2]; exact f2 hb⟩
  have s0 := X0f.size oR (by decide)
  have s1' := X1f.size oR (by decide)
  have s2' := X2f.size oR (by decide)
  rw [r0] at s0
  rw [r1] at s1'
  rw [r2] at s2'
  have flR : (flat (tRec (lset 0 m m') A0 A1 A2)).length = 1 + ((flat A0).length + ((flat A1).length + (flat A2).length)) := by
    rw [flat_rec, List.length_cons, List.length_append, List.length_append]; omega
  have ccR : cc (hd (tRec (lset 0 m m') A0 A1 A2)) = 8 + lset 0 m m' := by rw [hd_rec, cc_rec h8]
  rw [← ccR]
  refine wp_virt (as := [.int (zI w), .int (zI y), .int (zI x), .int (zI (cc (hd (tRec (lset 0 m m') A0 A1 A2)) : Int))]) (rest := []) d53_53 rfl rfl rfl (cx13.g.o (by decide) rfl) rfl rfl (Nat.le_of_ble_eq_true rfl) ?_
  refine c_make cx13.g cx13.r cx13.r32 w1 w4 (by omega) (by rw [ccR]; omega) x0 (by omega) y0 (by omega) z0 zz1 (by rw [s0]; omega) (by rw [s1']; omega) (by rw [s2']; omega) (fun M4 R4 K4 L4 n4 s4 z4 mk => ?_)
  have nd4 := mk.ndf oR (by omega) X0f X1f X2f
  have mcx := mk.cx
  obtain ⟨-, m6, mz, -⟩ := mk
  refine wp_ret d53_56 rfl (h M4 R4 K4 L4 n4 s4 z4 (cn3 + 1) cn3 (cx13.trans (mcx.weak (fun p q hw => Or.inl hw)) (by omega)) m6 (by omega) (by omega) (by omega) ?_)
  rw [eR]
  exact nd4
end PmC21
