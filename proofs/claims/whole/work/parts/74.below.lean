/-! THE CLASS: isBelowForm, isBelow. -/
section PmC12
variable {d : Nat}
set_option maxRecDepth 20000 in
set_option maxHeartbeats 2000000 in
theorem c_belowForm {F : Nat} (IH : BelC d F) (IH1 : BelC (d + 1) F) {Γ : List Ty} {S T : Ty} {i j : Int} {deep : Nat} {M : pm_M} {Rf : Nat → Nat → Nat} {K L : Nat → Nat} {n s z : Nat} {cn : Int} {Q : Option Value → pm_S → Prop} (bh : BH M Rf K L n z cn Γ S T i j) (hT0 : hd T ≠ 0) (hh : hgt (oh Γ) S + hgt (oh Γ) T ≤ 2 * F + 2) (hc : cn + 16 * ((hgt (oh Γ) S + hgt (oh Γ) T : Nat) : Int) ≤ 16384) (hdp : deep + F + 1 ≤ 40) (hΓ : Γ.length + F + 1 ≤ 64) (h : ∀ (M' : pm_M) (Rf' : Nat → Nat → Nat) (K' L' : Nat → Nat) (n' s' z' : Nat), CX (WB Γ.length) M Rf K L n s z cn M' Rf' K' L' n' s' z' → Q (some (.int (zI (if bel Γ S T = true then 1 else 0)))) (zM M', Rf', K', L', n', s')) : pm_Wc (d + 1 + 3 * F + 27) 49 [.ref 6, .int (zI i), .int (zI j), .int (zI (Γ.length : Int)), .int (zI (deep : Int))] (zM M, Rf, K, L, n, s) Q := by
  obtain ⟨hG, hR, hM, hcn, c1, cz, tk, bn, nS, nT, lS, lT⟩ := bh
  have hn := hG.1
  have oT : ok Γ.length T = true := tk.2.2
  have hcx : okc Γ := tk.1
  have cT := cc_small oT (by omega)
  have hTd := hd_le oT
  have nT0 := nT
  obtain ⟨⟨j0, j1, jC, -, jL⟩, jP⟩ := nT
  -- the end, where no more bounds are taken
  have fin : ∀ (c : Int) (S1 : Ty) (f : Int) (M1 : pm_M) (R1 : Nat → Nat → Nat) (K1 L1 : Nat → Nat) (n1 s1 z1 : Nat) (cn1 : Int), CX (WB Γ.length) M Rf K L n s z cn M1 R1 K1 L1 n1 s1 z1 → M1 6 6 = cn1 → cn ≤ cn1 → cn1 ≤ z1 → tok (Γ, S1, T) → ndf M1 R1 cn1 16 S1 f → (flat S1).length ≤ 16 → bel Γ S1 T = bel Γ S T → cn1 + 16 * ((hgt (oh Γ) S1 + hgt (oh Γ) T : Nat) : Int) ≤ 16384 → hgt (oh Γ) S1 ≤ hgt (oh Γ) S → (hd S1 < 16 ∨ hd S1 = hd T) → pm_Wp none (d + 1 + 3 * F + 26) 49 52 [some (.ref 6), some (.int (zI i)), some (.int (zI j)), some (.int (zI (Γ.length : Int))), some (.int (zI (deep : Int))), some (.int (zI f)), some (.int (zI c))] [] (zM M1, R1, K1, L1, n1, s1) Q := by
    intro c S1 f M1 R1 K1 L1 n1 s1 z1 cn1 cx m6 hcc hz1 tk1 nd1 l1 eb hc1 hs1 hv
    have hz2 := cx.r.2.2.2.2
    have oS : ok Γ.length S1 = true := tk1.2.1
    have cS := cc_small oS (by omega)
    have hSd := hd_le oS
    have nd0 := nd1
    obtain ⟨⟨f0, f1, fC, -, fL⟩, fP⟩ := nd1
    have ansT : bel Γ S1 T = true → pm_Wp none (d + 1 + 3 * F + 26) 49 52 [some (.ref 6), some (.int (zI i)), some (.int (zI j)), some (.int (zI (Γ.length : Int))), some (.int (zI (deep : Int))), some (.int (zI f)), some (.int (zI c))] [] (zM M1, R1, K1, L1, n1, s1) Q → pm_Wp none (d + 1 + 3 * F + 26) 49 52 [some (.ref 6), some (.int (zI i)), some (.int (zI j)), some (.int (zI (Γ.length : Int))), some (.int (zI (deep : Int))), some (.int (zI f)), some (.int (zI c))] [] (zM M1, R1, K1, L1, n1, s1) Q := fun _ q => q
    have out : ∀ (M2 : pm_M) (R2 : Nat → Nat → Nat) (K2 L2 : Nat → Nat) (n2 s2 z2 : Nat), CX (WB Γ.length) M Rf K L n s z cn M2 R2 K2 L2 n2 s2 z2 → (bel Γ S1 T = true → Q (some (.int (zI 1))) (zM M2, R2, K2, L2, n2, s2)) ∧ (¬ bel Γ S1 T = true → Q (some (.int (zI 0))) (zM M2, R2, K2, L2, n2, s2)) := by
      intro M2 R2 K2 L2 n2 s2 z2 cx2
      have q := h M2 R2 K2 L2 n2 s2 z2 cx2
      rw [← eb] at q
      refine ⟨fun e => ?_, fun e => ?_⟩
      · rw [if_pos e] at q; exact q
      · rw [if_neg e] at q; exact q
    -- equal codes or not, one of the two being a variable
    have k69 : (16 ≤ hd S1 ∨ 16 ≤ hd T) → pm_Wp none (d + 1 + 3 * F + 26) 49 69 [some (.ref 6), some (.int (zI i)), some (.int (zI j)), some (.int (zI (Γ.length : Int))), some (.int (zI (deep : Int))), some (.int (zI f)), some (.int (zI c))] [] (zM M1, R1, K1, L1, n1, s1) Q := by
      intro hvv
      refine wp_aload_n d49_69 rfl ?_
      refine wp_getR (q := R1 6 0) d49_70 rfl (cx.g.o (by decide) rfl) (by decide) rfl (cx.r.1 0 (by decide)).1 ?_
      refine wp_iload d49_73 rfl ?_
      refine wz_iald (z := z1) (v := (cc (hd S1) : Int)) d49_75 (cx.r.1 0 (by decide)) f0 (by omega) (by omega) (fC) ?_
      refine wp_aload_n d49_76 rfl ?_
      refine wp_getR (q := R1 6 0) d49_77 rfl (cx.g.o (by decide) rfl) (by decide) rfl (cx.r.1 0 (by decide)).1 ?_
      refine wp_iload_n d49_80 rfl ?_
      refine wz_iald (z := z1) (v := (cc (hd T) : Int)) d49_81 (cx.r.1 0 (by decide)) j0 (by omega) (by omega) (by rw [cx.nodes 0 (by decide) j j0 j1]; exact jC) ?_
      refine wz_icmp_ne (t := 89) d49_82 (by decide) ⟨by omega, by omega⟩ ⟨by omega, by omega⟩ (fun hb => ?_) (fun hb => ?_)
      · refine wz_iconst d49_89 ?_
        have hne : hd S1 ≠ hd T := fun e => hb (by rw [e])
        have hsn : ¬ 16 ≤ hd S1 := by omega
        exact wp_ret d49_90 rfl ((out M1 R1 K1 L1 n1 s1 z1 cx).2 (by rw [bel_no tk1 hT0 hsn (by omega) hne]; decide))
      · refine wz_iconst d49_85 ?_
        refine wp_goto (t := 90) d49_86 (by decide) ?_
        have he : hd S1 = hd T := cc_eq (by omega)
        exact wp_ret d49_90 rfl ((out M1 R1 K1 L1 n1 s1 z1 cx).1 (bel_veq tk1 (by omega) he))
    refine wp_aload_n d49_52 rfl ?_
    refine wp_iload d49_53 rfl ?_
    refine wp_virt (as := [.int (zI f)]) (rest := []) d49_55 rfl rfl rfl (cx.g.o (by decide) rfl) rfl rfl (Nat.le_of_ble_eq_true rfl) ?_
    refine c_isVar (c := hd S1) cx.g cx.r f0 (by omega) fC cS (fun v1 => ?_) (fun v1 => ?_)
    · refine wz_if_ne (t := 69) d49_58 (by decide) ⟨by omega, by omega⟩ (fun _ => ?_) (fun hb => absurd hb (by decide))
      exact k69 (Or.inl v1)
    refine wz_if_ne (t := 69) d49_58 (by decide) ⟨by omega, by omega⟩ (fun hb => absurd (by decide) hb) (fun _ => ?_)
    refine wp_aload_n d49_61 rfl ?_
    refine wp_iload_n d49_62 rfl ?_
    refine wp_virt (as := [.int (zI j)]) (rest := []) d49_63 rfl rfl rfl (cx.g.o (by decide) rfl) rfl rfl (Nat.le_of_ble_eq_true rfl) ?_
    refine c_isVar (c := hd T) cx.g cx.r j0 (by omega) (by rw [cx.nodes 0 (by decide) j j0 j1]; exact jC) cT (fun v2 => ?_) (fun v2 => ?_)
    · refine wz_if_eq (t := 91) d49_66 (by decide) ⟨by omega, by omega⟩ (fun hb => absurd hb (by decide)) (fun _ => ?_)
      exact k69 (Or.inr v2)
    refine wz_if_eq (t := 91) d49_66 (by decide) ⟨by omega, by omega⟩ (fun _ => ?_) (fun hb => absurd (by decide) hb)
    refine wp_aload_n d49_91 rfl ?_
    refine wp_iload d49_92 rfl ?_
    refine wp_iload_n d49_94 rfl ?_
    refine wp_virt (as := [.int (zI j), .int (zI f)]) (rest := []) d49_95 rfl rfl rfl (cx.g.o (by decide) rfl) rfl rfl (Nat.le_of_ble_eq_true rfl) ?_
    have nT1 : ndf M1 R1 cn1 16 T j := ndf_mono cx.nodes hcc (Nat.le_refl _) nT0
    have bn1 : BN M1 R1 cn1 Γ := cx.bn hR hn (Nat.le_refl _) hcc bn
    refine c_areRecs (c := hd S1) (c' := hd T) cx.g cx.r f0 (by omega) fC cS j0 (by omega) (by rw [cx.nodes 0 (by decide) j j0 j1]; exact jC) cT (fun hr => ?_) (fun hr => ?_)
    · refine wz_if_eq (t := 112) d49_98 (by decide) ⟨by omega, by omega⟩ (fun hb => absurd hb (by decide)) (fun _ => ?_)
      refine wp_aload_n d49_101 rfl ?_
      refine wp_iload d49_102 rfl ?_
      refine wp_iload_n d49_104 rfl ?_
      refine wp_iload_n d49_105 rfl ?_
      refine wp_iload d49_106 rfl ?_
      refine wp_virt (as := [.int (zI (deep : Int)), .int (zI (Γ.length : Int)), .int (zI j), .int (zI f)]) (rest := []) d49_108 rfl rfl rfl (cx.g.o (by decide) rfl) rfl rfl (Nat.le_of_ble_eq_true rfl) ?_
      refine wc_deep (show d + 3 * F + 27 ≤ d + 1 + 3 * F + 26 by omega) ?_
      refine c_recBelow (cn := cn1) IH ⟨cx.g, cx.r, cx.r32, m6, by omega, hz1, tk1, bn1, nd0, nT1, l1, lT⟩ hr.1 hr.2 (by omega) hc1 (by omega) (by omega) (fun M2 R2 K2 L2 n2 s2 z2 cx2 m62 => ?_)
      have o := out M2 R2 K2 L2 n2 s2 z2 (cx.trans cx2 hcc)
      by_cases hb : bel Γ S1 T = true
      · rw [if_pos hb]; exact wp_ret d49_111 rfl (o.1 hb)
      · rw [if_neg hb]; exact wp_ret d49_111 rfl (o.2 hb)
    refine wz_if_eq (t := 112) d49_98 (by decide) ⟨by omega, by omega⟩ (fun _ => ?_) (fun hb => absurd (by decide) hb)
    refine wp_aload_n d49_112 rfl ?_
    refine wp_getR (q := R1 6 0) d49_113 rfl (cx.g.o (by decide) rfl) (by decide) rfl (cx.r.1 0 (by decide)).1 ?_
    refine wp_iload d49_116 rfl ?_
    refine wz_iald (z := z1) (v := (cc (hd S1) : Int)) d49_118 (cx.r.1 0 (by decide)) f0 (by omega) (by omega) (fC) ?_
    refine wp_aload_n d49_119 rfl ?_
    refine wp_getR (q := R1 6 0) d49_120 rfl (cx.g.o (by decide) rfl) (by decide) rfl (cx.r.1 0 (by decide)).1 ?_
    refine wp_iload_n d49_123 rfl ?_
    refine wz_iald (z := z1) (v := (cc (hd T) : Int)) d49_124 (cx.r.1 0 (by decide)) j0 (by omega) (by omega) (by rw [cx.nodes 0 (by decide) j j0 j1]; exact jC) ?_
    refine wz_icmp_eq (t := 130) d49_125 (by decide) ⟨by omega, by omega⟩ ⟨by omega, by omega⟩ (fun hb => ?_) (fun hb => ?_)
    rotate_left
    · refine wz_iconst d49_128 ?_
      have hne : hd S1 ≠ hd T := fun e => hb (by rw [e])
      exact wp_ret d49_129 rfl ((out M1 R1 K1 L1 n1 s1 z1 cx).2 (by rw [bel_no tk1 hT0 v1 hr hne]; decide))
    have he : hd S1 = hd T := cc_eq (by omega)
    have ccs := cc_cases (hd S1)
    refine wp_aload_n d49_130 rfl ?_
    refine wp_getR (q := R1 6 0) d49_131 rfl (cx.g.o (by decide) rfl) (by decide) rfl (cx.r.1 0 (by decide)).1 ?_
    refine wp_iload d49_134 rfl ?_
    refine wz_iald (z := z1) (v := (cc (hd S1) : Int)) d49_136 (cx.r.1 0 (by decide)) f0 (by omega) (by omega) (fC) ?_
    refine wz_bipush d49_137 (by decide) ?_
    refine wz_icmp_ne (t := 198) d49_139 (by decide) ⟨by omega, by omega⟩ ⟨by omega, by omega⟩ (fun hf => ?_) (fun hf => ?_)
    · -- schemes
      have h2 : hd S1 = 2 := by
        rcases ok_cases oS with rfl | ⟨k, hk, rfl⟩ | ⟨a, b, rfl, ha, hb⟩ | ⟨a, b, rfl, ha, hb⟩ | ⟨m, x, y, w, hm, rfl, q0, q1, q2⟩
        · rw [hd_top] at he; omega
        · rw [hd_var] at v1; omega
        · rw [hd_fun] at ccs hf; omega
        · rfl
        · rw [hd_rec] at he hr; omega
      obtain ⟨A, b, rfl, oA, ob⟩ := hd_is_all oS h2
      obtain ⟨A', b', rfl, oA', ob'⟩ := hd_is_all oT (by omega)
      have fA : ndf M1 R1 cn1 15 A (M1 (R1 6 1) f) := fP 0 (by decide) (hp_all A b).1
      have fb : ndf M1 R1 cn1 15 b (M1 (R1 6 2) f) := fP 1 (by decide) (hp_all A b).2.1
      obtain ⟨-, jP1⟩ := nT1
      have fA' : ndf M1 R1 cn1 15 A' (M1 (R1 6 1) j) := jP1 0 (by decide) (hp_all A' b').1
      have fb' : ndf M1 R1 cn1 15 b' (M1 (R1 6 2) j) := jP1 1 (by decide) (hp_all A' b').2.1
      have lA : (flat A).length + (flat b).length + 1 ≤ 16 := by rw [flat_all, List.length_cons, List.length_append] at l1; omega
      have lA' : (flat A').length + (flat b').length + 1 ≤ 16 := by rw [flat_all, List.length_cons, List.length_append] at lT; omega
      have hgS : hgt (oh Γ) (tAll A b) = 1 + max (hgt (oh Γ) A) (hgt (hgt (oh Γ) A :: oh Γ) b) := hgt_all _ _ _
      have hgT : hgt (oh Γ) (tAll A' b') = 1 + max (hgt (oh Γ) A') (hgt (hgt (oh Γ) A' :: oh Γ) b') := hgt_all _ _ _
      refine wp_aload_n d49_198 rfl ?_
      refine wp_iload d49_199 rfl ?_
      refine wp_iload_n d49_201 rfl ?_
      refine wp_virt (as := [.int (zI j), .int (zI f)]) (rest := []) d49_202 rfl rfl rfl (cx.g.o (by decide) rfl) rfl rfl (Nat.le_of_ble_eq_true rfl) ?_
      refine c_sameBound (N := 15) (N' := 15) cx.g cx.r cx.r32 hz1 f0 f1 j0 (by omega) fA fA' oA oA' (by omega) (by decide) (fun eA => ?_) (fun eA => ?_)
      · subst eA
        refine wz_if_eq (t := 254) d49_205 (by decide) ⟨by omega, by omega⟩ (fun hb => absurd hb (by decide)) (fun _ => ?_)
        refine wp_aload_n d49_208 rfl ?_
        refine wp_aload_n d49_209 rfl ?_
        refine wp_getR (q := R1 6 1) d49_210 rfl (cx.g.o (by decide) rfl) (by decide) rfl (cx.r.1 1 (by decide)).1 ?_
        refine wp_iload d49_213 rfl ?_
        refine wz_iald (z := z1) (v := M1 (R1 6 1) f) d49_215 (cx.r.1 1 (by decide)) f0 (by omega) (by omega) (rfl) ?_
        refine wp_iload_n d49_216 rfl ?_
        refine wp_virt (as := [.int (zI (Γ.length : Int)), .int (zI (M1 (R1 6 1) f))]) (rest := []) d49_217 rfl rfl rfl (cx.g.o (by decide) rfl) rfl rfl (Nat.le_of_ble_eq_true rfl) ?_
        refine c_openOne cx.g (by omega) ?_
        refine wz_if_eq (t := 254) d49_220 (by decide) ⟨by omega, by omega⟩ (fun hb => absurd hb (by decide)) (fun _ => ?_)
        have cx' : CX (WB Γ.length) M Rf K L n s z cn (mset M1 12 Γ.length (M1 (R1 6 1) f)) R1 K1 L1 n1 s1 z1 := cx.set (fun g hg => (cx.r.ne12 hg).symm) (Or.inr ⟨rfl, Int.le_refl _⟩) (cx.r32 _ _)
        have keep : ∀ g, g < 5 → ∀ i : Int, 0 ≤ i → i < cn1 → mset M1 12 Γ.length (M1 (R1 6 1) f) (R1 6 g) i = M1 (R1 6 g) i := fun g hg i _ _ => mset_p _ _ _ _ (cx.r.ne12 hg)
        have e1f : mset M1 12 Γ.length (M1 (R1 6 1) f) (R1 6 2) f = M1 (R1 6 2) f := keep 2 (by decide) f f0 f1
        have e1j : mset M1 12 Γ.length (M1 (R1 6 1) f) (R1 6 2) j = M1 (R1 6 2) j := keep 2 (by decide) j j0 (by omega)
        have bnA : BN (mset M1 12 Γ.length (M1 (R1 6 1) f)) R1 cn1 (A :: Γ) := BN.cons (bn1.mono keep (fun k hk => mset_i _ _ _ _ (by omega)) (Int.le_refl _)) (by rw [mset_s]; exact ndf_mono keep (Int.le_refl _) (by decide) fA) (by omega)
        refine wp_aload_n d49_223 rfl ?_
        refine wp_aload_n d49_224 rfl ?_
        refine wp_getR (q := R1 6 2) d49_225 rfl (cx.g.o (by decide) rfl) (by decide) rfl (cx.r.1 2 (by decide)).1 ?_
        refine wp_iload d49_228 rfl ?_
        refine wz_iald (z := z1) (v := M1 (R1 6 2) f) d49_230 (cx.r.1 2 (by decide)) f0 (by omega) (by omega) e1f ?_
        refine wp_aload_n d49_231 rfl ?_
        refine wp_getR (q := R1 6 2) d49_232 rfl (cx.g.o (by decide) rfl) (by decide) rfl (cx.r.1 2 (by decide)).1 ?_
        refine wp_iload_n d49_235 rfl ?_
        refine wz_iald (z := z1) (v := M1 (R1 6 2) j) d49_236 (cx.r.1 2 (by decide)) j0 (by omega) (by omega) e1j ?_
        refine wp_iload_n d49_237 rfl ?_
        refine wz_iconst d49_238 ?_
        refine wz_iadd d49_239 ?_
        refine wp_iload d49_240 rfl ?_
        refine wz_iconst d49_242 ?_
        refine wz_iadd d49_243 ?_
        refine wp_virt (as := [.int (zI ((deep : Int) + 1)), .int (zI ((Γ.length : Int) + 1)), .int (zI (M1 (R1 6 2) j)), .int (zI (M1 (R1 6 2) f))]) (rest := []) d49_244 rfl rfl rfl (cx.g.o (by decide) rfl) rfl rfl (Nat.le_of_ble_eq_true rfl) ?_
        have hA1 : hgt (oh (A :: Γ)) b = hgt (hgt (oh Γ) A :: oh Γ) b := rfl
        have hA2 : hgt (oh (A :: Γ)) b' = hgt (hgt (oh Γ) A :: oh Γ) b' := rfl
        refine IH1 (A :: Γ) b b' _ _ (deep + 1) (mset M1 12 Γ.length (M1 (R1 6 1) f)) R1 K1 L1 n1 s1 z1 cn1 _ ⟨cx'.g, cx'.r, cx'.r32, by rw [mset_p _ _ _ _ (by decide)]; exact m6, by omega, hz1, ⟨⟨oA, hcx⟩, ob, ob'⟩, bnA, ndf_mono keep (Int.le_refl _) (by decide) fb, ndf_mono keep (Int.le_refl _) (by decide) fb', by omega, by omega⟩ (by rw [hA1, hA2]; omega) (by rw [hA1, hA2]; omega) (by omega) (by rw [List.length_cons]; omega) (fun M2 R2 K2 L2 n2 s2 z2 cx2 m62 => ?_)
        have o := out M2 R2 K2 L2 n2 s2 z2 (cx'.trans (cx2.weak (fun p q hw => by unfold WB at hw ⊢; rw [List.length_cons] at hw; omega)) hcc)
        rw [bel_all tk1] at o
        by_cases hb : bel (A :: Γ) b b' = true
        · rw [if_pos hb]
          refine wz_if_eq (t := 254) d49_247 (by decide) ⟨by omega, by omega⟩ (fun hb => absurd hb (by decide)) (fun _ => ?_)
          refine wz_iconst d49_250 ?_
          refine wp_goto (t := 255) d49_251 (by decide) ?_
          exact wp_ret d49_255 rfl (o.1 hb)
        · rw [if_neg hb]
          refine wz_if_eq (t := 254) d49_247 (by decide) ⟨by omega, by omega⟩ (fun _ => ?_) (fun hb => absurd (by decide) hb)
          refine wz_iconst d49_254 ?_
          exact wp_ret d49_255 rfl (o.2 hb)
      · refine wz_if_eq (t := 254) d49_205 (by decide) ⟨by omega, by omega⟩ (fun _ => ?_) (fun hb => absurd (by decide) hb)
        refine wz_iconst d49_254 ?_
        exact wp_ret d49_255 rfl ((out M1 R1 K1 L1 n1 s1 z1 cx).2 (by rw [bel_alln tk1 (fun e => eA (flat_eq oA oA' e))]; decide))
    · -- functions
      obtain ⟨a, b, rfl, oa, ob⟩ := hd_is_fun oS (by omega)
      obtain ⟨a', b', rfl, oa', ob'⟩ := hd_is_fun oT (by rw [hd_fun] at he; omega)
      have fa : ndf M1 R1 cn1 15 a (M1 (R1 6 1) f) := fP 0 (by decide) (hp_fun a b).1
      have fb : ndf M1 R1 cn1 15 b (M1 (R1 6 2) f) := fP 1 (by decide) (hp_fun a b).2.1
      obtain ⟨-, jP1⟩ := nT1
      have fa' : ndf M1 R1 cn1 15 a' (M1 (R1 6 1) j) := jP1 0 (by decide) (hp_fun a' b').1
      have fb' : ndf M1 R1 cn1 15 b' (M1 (R1 6 2) j) := jP1 1 (by decide) (hp_fun a' b').2.1
      have la : (flat a).length + (flat b).length + 1 ≤ 16 := by rw [flat_fun, List.length_cons, List.length_append] at l1; omega
      have la' : (flat a').length + (flat b').length + 1 ≤ 16 := by rw [flat_fun, List.length_cons, List.length_append] at lT; omega
      rw [hgt_fun, hgt_fun] at hc1
      rw [hgt_fun] at hs1 hh
      have o2 := out
      rw [bel_fun tk1] at o2
      refine wp_aload_n d49_142 rfl ?_
      refine wp_aload_n d49_143 rfl ?_
      refine wp_getR (q := R1 6 1) d49_144 rfl (cx.g.o (by decide) rfl) (by decide) rfl (cx.r.1 1 (by decide)).1 ?_
      refine wp_iload_n d49_147 rfl ?_
      refine wz_iald (z := z1) (v := M1 (R1 6 1) j) d49_148 (cx.r.1 1 (by decide)) j0 (by omega) (by omega) (rfl) ?_
      refine wp_aload_n d49_149 rfl ?_
      refine wp_getR (q := R1 6 1) d49_150 rfl (cx.g.o (by decide) rfl) (by decide) rfl (cx.r.1 1 (by decide)).1 ?_
      refine wp_iload d49_153 rfl ?_
      refine wz_iald (z := z1) (v := M1 (R1 6 1) f) d49_155 (cx.r.1 1 (by decide)) f0 (by omega) (by omega) (rfl) ?_
      refine wp_iload_n d49_156 rfl ?_
      refine wp_iload d49_157 rfl ?_
      refine wz_iconst d49_159 ?_
      refine wz_iadd d49_160 ?_
      refine wp_virt (as := [.int (zI ((deep : Int) + 1)), .int (zI (Γ.length : Int)), .int (zI (M1 (R1 6 1) f)), .int (zI (M1 (R1 6 1) j))]) (rest := []) d49_161 rfl rfl rfl (cx.g.o (by decide) rfl) rfl rfl (Nat.le_of_ble_eq_true rfl) ?_
      refine IH1 Γ a' a _ _ (deep + 1) M1 R1 K1 L1 n1 s1 z1 cn1 _ ⟨cx.g, cx.r, cx.r32, m6, by omega, hz1, ⟨hcx, oa', oa⟩, bn1, ndf_mono (fun _ _ _ _ _ => rfl) (Int.le_refl _) (by decide) fa', ndf_mono (fun _ _ _ _ _ => rfl) (Int.le_refl _) (by decide) fa, by omega, by omega⟩ (by omega) (by omega) (by omega) (by omega) (fun M2 R2 K2 L2 n2 s2 z2 cx2 m62 => ?_)
      have cxx := cx.trans cx2 hcc
      by_cases hb1 : bel Γ a' a = true
      · rw [if_pos hb1]
        refine wz_if_eq (t := 196) d49_164 (by decide) ⟨by omega, by omega⟩ (fun hb => absurd hb (by decide)) (fun _ => ?_)
        have hz22 := cx2.zz
        have hz3 := cxx.r.2.2.2.2
        refine wp_aload_n d49_167 rfl ?_
        refine wp_aload_n d49_168 rfl ?_
        refine wp_getR (q := R2 6 2) d49_169 rfl (cxx.g.o (by decide) rfl) (by decide) rfl (cxx.r.1 2 (by decide)).1 ?_
        refine wp_iload d49_172 rfl ?_
        refine wz_iald (z := z2) (v := M1 (R1 6 2) f) d49_174 (cxx.r.1 2 (by decide)) f0 (by omega) (by omega) (cx2.nodes 2 (by decide) f f0 f1) ?_
        refine wp_aload_n d49_175 rfl ?_
        refine wp_getR (q := R2 6 2) d49_176 rfl (cxx.g.o (by decide) rfl) (by decide) rfl (cxx.r.1 2 (by decide)).1 ?_
        refine wp_iload_n d49_179 rfl ?_
        refine wz_iald (z := z2) (v := M1 (R1 6 2) j) d49_180 (cxx.r.1 2 (by decide)) j0 (by omega) (by omega) (cx2.nodes 2 (by decide) j j0 (by omega)) ?_
        refine wp_iload_n d49_181 rfl ?_
        refine wp_iload d49_182 rfl ?_
        refine wz_iconst d49_184 ?_
        refine wz_iadd d49_185 ?_
        refine wp_virt (as := [.int (zI ((deep : Int) + 1)), .int (zI (Γ.length : Int)), .int (zI (M1 (R1 6 2) j)), .int (zI (M1 (R1 6 2) f))]) (rest := []) d49_186 rfl rfl rfl (cxx.g.o (by decide) rfl) rfl rfl (Nat.le_of_ble_eq_true rfl) ?_
        refine IH1 Γ b b' _ _ (deep + 1) M2 R2 K2 L2 n2 s2 z2 cn1 _ ⟨cxx.g, cxx.r, cxx.r32, m62, by omega, by omega, ⟨hcx, ob, ob'⟩, cx2.bn cx.r (by have := cx.g.1; omega) (Nat.le_refl _) (Int.le_refl _) bn1, ndf_mono cx2.nodes (Int.le_refl _) (by decide) fb, ndf_mono cx2.nodes (Int.le_refl _) (by decide) fb', by omega, by omega⟩ (by omega) (by omega) (by omega) (by omega) (fun M3 R3 K3 L3 n3 s3 z3 cx3 m63 => ?_)
        have o := o2 M3 R3 K3 L3 n3 s3 z3 (cxx.trans cx3 hcc)
        rw [hb1, Bool.true_and] at o
        by_cases hb2 : bel Γ b b' = true
        · rw [if_pos hb2]
          refine wz_if_eq (t := 196) d49_189 (by decide) ⟨by omega, by omega⟩ (fun hb => absurd hb (by decide)) (fun _ => ?_)
          refine wz_iconst d49_192 ?_
          refine wp_goto (t := 197) d49_193 (by decide) ?_
          exact wp_ret d49_197 rfl (o.1 hb2)
        · rw [if_neg hb2]
          refine wz_if_eq (t := 196) d49_189 (by decide) ⟨by omega, by omega⟩ (fun _ => ?_) (fun hb => absurd (by decide) hb)
          refine wz_iconst d49_196 ?_
          exact wp_ret d49_197 rfl (o.2 hb2)
      · rw [if_neg hb1]
        refine wz_if_eq (t := 196) d49_164 (by decide) ⟨by omega, by omega⟩ (fun _ => ?_) (fun hb => absurd (by decide) hb)
        refine wz_iconst d49_196 ?_
        exact wp_ret d49_197 rfl ((o2 M2 R2 K2 L2 n2 s2 z2 cxx).2 (fun e => hb1 (by rw [Bool.and_eq_true] at e; exact e.1)))
  have loop : ∀ (r c : Nat) (S1 : Ty) (f : Int) (M1 : pm_M) (R1 : Nat → Nat → Nat) (K1 L1 : Nat → Nat) (n1 s1 z1 : Nat) (cn1 : Int), c + r = Γ.length → CX (WB Γ.length) M Rf K L n s z cn M1 R1 K1 L1 n1 s1 z1 → M1 6 6 = cn1 → cn ≤ cn1 → cn1 ≤ z1 → tok (Γ, S1, T) → ndf M1 R1 cn1 16 S1 f → (flat S1).length ≤ 16 → bel Γ S1 T = bel Γ S T → cn1 + 16 * ((hgt (oh Γ) S1 + hgt (oh Γ) T : Nat) : Int) ≤ 16384 → hgt (oh Γ) S1 ≤ hgt (oh Γ) S → (∀ k, S1 = tVar k → k + c < Γ.length) → pm_Wp none (d + 1 + 3 * F + 26) 49 6 [some (.ref 6), some (.int (zI i)), some (.int (zI j)), some (.int (zI (Γ.length : Int))), some (.int (zI (deep : Int))), some (.int (zI f)), some (.int (zI (c : Int)))] [] (zM M1, R1, K1, L1, n1, s1) Q := by
    intro r
    induction r with
    | zero =>
      intro c S1 f M1 R1 K1 L1 n1 s1 z1 cn1 hcr cx m6 hcc hz1 tk1 nd1 l1 eb hc1 hs1 hlv
      refine wp_iload d49_6 rfl ?_
      refine wp_iload_n d49_8 rfl ?_
      refine wz_icmp_ge (t := 52) d49_9 (by decide) ⟨by omega, by omega⟩ ⟨by omega, by omega⟩ (fun _ => ?_) (fun hb => absurd (by omega) hb)
      refine fin (c : Int) S1 f M1 R1 K1 L1 n1 s1 z1 cn1 cx m6 hcc hz1 tk1 nd1 l1 eb hc1 hs1 (Or.inl ?_)
      by_cases hv : 16 ≤ hd S1
      · obtain ⟨k, hk, rfl⟩ := hd_is_var tk1.2.1 hv
        have := hlv k rfl
        omega
      · omega
    | succ r ih =>
      intro c S1 f M1 R1 K1 L1 n1 s1 z1 cn1 hcr cx m6 hcc hz1 tk1 nd1 l1 eb hc1 hs1 hlv
      have hz2 := cx.r.2.2.2.2
      have oS : ok Γ.length S1 = true := tk1.2.1
      have cS := cc_small oS (by omega)
      have nd0 := nd1
      obtain ⟨⟨f0, f1, fC, -, fL⟩, fP⟩ := nd1
      have hgp := hgt_pos oS (oh Γ)
      refine wp_iload d49_6 rfl ?_
      refine wp_iload_n d49_8 rfl ?_
      refine wz_icmp_ge (t := 52) d49_9 (by decide) ⟨by omega, by omega⟩ ⟨by omega, by omega⟩ (fun hb => absurd hb (by omega)) (fun _ => ?_)
      refine wp_aload_n d49_12 rfl ?_
      refine wp_iload d49_13 rfl ?_
      refine wp_virt (as := [.int (zI f)]) (rest := []) d49_15 rfl rfl rfl (cx.g.o (by decide) rfl) rfl rfl (Nat.le_of_ble_eq_true rfl) ?_
      refine c_isVar (c := hd S1) cx.g cx.r f0 (by omega) fC cS (fun hv => ?_) (fun hv => ?_)
      · refine wz_if_eq (t := 52) d49_18 (by decide) ⟨by omega, by omega⟩ (fun hb => absurd hb (by decide)) (fun _ => ?_)
        refine wp_aload_n d49_21 rfl ?_
        refine wp_getR (q := R1 6 0) d49_22 rfl (cx.g.o (by decide) rfl) (by decide) rfl (cx.r.1 0 (by decide)).1 ?_
        refine wp_iload d49_25 rfl ?_
        refine wz_iald (z := z1) (v := (cc (hd S1) : Int)) d49_27 (cx.r.1 0 (by decide)) f0 (by omega) (by omega) (fC) ?_
        refine wp_aload_n d49_28 rfl ?_
        refine wp_getR (q := R1 6 0) d49_29 rfl (cx.g.o (by decide) rfl) (by decide) rfl (cx.r.1 0 (by decide)).1 ?_
        refine wp_iload_n d49_32 rfl ?_
        refine wz_iald (z := z1) (v := (cc (hd T) : Int)) d49_33 (cx.r.1 0 (by decide)) j0 (by omega) (by omega) (by rw [cx.nodes 0 (by decide) j j0 j1]; exact jC) ?_
        refine wz_icmp_eq (t := 52) d49_34 (by decide) ⟨by omega, by omega⟩ ⟨by omega, by omega⟩ (fun hb => ?_) (fun hb => ?_)
        · exact fin (c : Int) S1 f M1 R1 K1 L1 n1 s1 z1 cn1 cx m6 hcc hz1 tk1 nd0 l1 eb hc1 hs1 (Or.inr (cc_eq (by omega)))
        · obtain ⟨k, hk, rfl⟩ := hd_is_var oS hv
          have hlk := hlv k rfl
          have hne : 16 + k ≠ hd T := fun e => hb (by rw [hd_var, e])
          refine wp_aload_n d49_37 rfl ?_
          refine wp_iload d49_38 rfl ?_
          refine wp_iload_n d49_40 rfl ?_
          refine wp_virt (as := [.int (zI (Γ.length : Int)), .int (zI f)]) (rest := []) d49_41 rfl rfl rfl (cx.g.o (by decide) rfl) rfl rfl (Nat.le_of_ble_eq_true rfl) ?_
          have hvh : hgt (oh Γ) (tVar k) = 1 + vw (oh Γ) k := hgt_var _ _
          have hex := hgt_expose hcx hk
          have bn1 : BN M1 R1 cn1 Γ := cx.bn hR hn (Nat.le_refl _) hcc bn
          refine c_boundOf (k := k) cx.g cx.r cx.r32 m6 (by omega) hz1 (by omega) hcx bn1 hk (by omega) f0 f1 fC (fun M2 R2 K2 L2 n2 s2 z2 cn2 r2 cx2 v1 v2 v3 v4 nd2 => ?_)
          refine wp_istore d49_44 (Nat.le_of_ble_eq_true rfl) rfl ?_
          refine wz_iinc d49_46 rfl rfl ?_
          refine wp_goto (t := 6) d49_49 (by decide) ?_
          refine ih (c + 1) (lft k (Γ.length - k) (bnd Γ k)) r2 M2 R2 K2 L2 n2 s2 z2 cn2 (by omega) (cx.trans (cx2.weak (fun p q hw => Or.inl hw)) hcc) v1 (by omega) v4 ⟨hcx, ok_expose hcx hk, oT⟩ nd2 (by rw [lft_len]; exact (bn k hk).2) (by rw [← bel_var tk1 hT0 hne]; exact eb) (by rw [hex]; rw [hvh] at hc1; omega) (by rw [hex]; omega) (fun k' e => ?_)
          have ob := okc_bnd hcx hk
          rcases ok_cases ob with e' | ⟨v, hv', e'⟩ | ⟨x, y, e', -, -⟩ | ⟨x, y, e', -, -⟩ | ⟨m, x, y, w, hm, e', -, -, -⟩
          · rw [e', lft_top] at e
            have e2 : hd tTop = hd (tVar k') := by rw [e]
            rw [hd_top, hd_var] at e2; omega
          · rw [e', lft_var, if_neg (by omega)] at e
            have : v = k' := by
              have e2 : hd (tVar v) = hd (tVar k') := by rw [e]
              rw [hd_var, hd_var] at e2
              omega
            omega
          · rw [e', lft_fun] at e
            have e2 : hd (tFun (lft k (Γ.length - k) x) (lft k (Γ.length - k) y)) = hd (tVar k') := by rw [e]
            rw [hd_fun, hd_var] at e2; omega
          · rw [e', lft_all] at e
            have e2 : hd (tAll (lft k (Γ.length - k) x) (lft k (Γ.length - k) y)) = hd (tVar k') := by rw [e]
            rw [hd_all, hd_var] at e2; omega
          · rw [e', lft_rec hm] at e
            have e2 : hd (tRec m (lft k (Γ.length - k) x) (lft k (Γ.length - k) y) (lft k (Γ.length - k) w)) = hd (tVar k') := by rw [e]
            rw [hd_rec, hd_var] at e2; omega
      · refine wz_if_eq (t := 52) d49_18 (by decide) ⟨by omega, by omega⟩ (fun _ => ?_) (fun hb => absurd (by decide) hb)
        exact fin (c : Int) S1 f M1 R1 K1 L1 n1 s1 z1 cn1 cx m6 hcc hz1 tk1 nd0 l1 eb hc1 hs1 (Or.inl (by omega))
  refine wc_in (ls0 := [some (.ref 6), some (.int (zI i)), some (.int (zI j)), some (.int (zI (Γ.length : Int))), some (.int (zI (deep : Int))), none, none]) (by decide) (Nat.le_of_ble_eq_true rfl) rfl rfl ?_
  refine wp_iload_n d49_0 rfl ?_
  refine wp_istore d49_1 (Nat.le_of_ble_eq_true rfl) rfl ?_
  refine wz_iconst d49_3 ?_
  refine wp_istore d49_4 (Nat.le_of_ble_eq_true rfl) rfl ?_
  refine loop Γ.length 0 S i M Rf K L n s z cn (by omega) (CX.refl hG hR hM) hcn (Int.le_refl _) cz tk nS lS rfl hc (Nat.le_refl _) (fun k e => ?_)
  subst e
  have o : ok Γ.length (tVar k) = true := tk.2.1
  obtain ⟨k', hk', e'⟩ := hd_is_var o (by rw [hd_var]; omega)
  have e2 : hd (tVar k) = hd (tVar k') := by rw [e']
  rw [hd_var, hd_var] at e2
  omega
end PmC12
