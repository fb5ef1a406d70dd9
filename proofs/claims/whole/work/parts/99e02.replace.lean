/-! THE CLASS: exposed, replace. -/
theorem ndf_dn {M : pm_M} {Rf : Nat → Nat → Nat} {cn : Int} : ∀ (K N : Nat) (t : Ty) (i : Int) (d : Nat), ok d t = true → (flat t).length ≤ K → ndf M Rf cn N t i → ndf M Rf cn K t i
  | 0, _, t, _, _, ot, hl, _ => by have := flat_pos ot; omega
  | K + 1, 0, _, _, _, _, _, h => h.elim
  | K + 1, N + 1, t, i, d, ot, hl, h => by
    refine ⟨h.1, fun g hg hb => ?_⟩
    obtain ⟨d', -, o'⟩ := pt_ok ot hg hb
    have lp := len_pts ot
    refine ndf_dn K N (pt t g) _ d' o' ?_ (h.2 g hg hb)
    rcases (show g = 0 ∨ g = 1 ∨ g = 2 by omega) with rfl | rfl | rfl <;> omega
/-- binders around a part -/
def bi (t : Ty) (b g : Nat) : Nat := if hd t = 2 ∧ g = 1 then b + 1 else b
theorem sbt_hd {D k b : Nat} {A t : Ty} (h : ok D t = true) (hv : hd t < 16) : hd (sbt k A b t) = hd t := by
  rcases ok_cases h with rfl | ⟨v, -, rfl⟩ | ⟨a, c, rfl, -, -⟩ | ⟨a, c, rfl, -, -⟩ | ⟨m, x, y, z, hm, rfl, -, -, -⟩
  · rw [sbt_top]
  · rw [hd_var] at hv; omega
  · rw [sbt_fun]; rfl
  · rw [sbt_all]; rfl
  · rw [sbt_rec]; rfl
theorem sbt_pt {D k b g : Nat} {A t : Ty} (h : ok D t = true) (hv : hd t < 16) (hg : g < 3) : pt (sbt k A b t) g = sbt k A (bi t b g) (pt t g) := by
  rcases ok_cases h with rfl | ⟨v, -, rfl⟩ | ⟨a, c, rfl, -, -⟩ | ⟨a, c, rfl, -, -⟩ | ⟨m, x, y, z, hm, rfl, -, -, -⟩
  · rw [sbt_top]
    rcases (show g = 0 ∨ g = 1 ∨ g = 2 by omega) with rfl | rfl | rfl <;> rfl
  · rw [hd_var] at hv; omega
  · rw [sbt_fun]
    have e : ∀ g, bi (tFun a c) b g = b := fun g => by unfold bi; rw [hd_fun, if_neg (by omega)]
    rw [e]
    rcases (show g = 0 ∨ g = 1 ∨ g = 2 by omega) with rfl | rfl | rfl <;> rfl
  · rw [sbt_all]
    rcases (show g = 0 ∨ g = 1 ∨ g = 2 by omega) with rfl | rfl | rfl
    · have e : bi (tAll a c) b 0 = b := by unfold bi; rw [if_neg (by omega)]
      rw [e]; rfl
    · have e : bi (tAll a c) b 1 = b + 1 := by unfold bi; rw [hd_all, if_pos ⟨rfl, rfl⟩]
      rw [e]; rfl
    · have e : bi (tAll a c) b 2 = b := by unfold bi; rw [if_neg (by omega)]
      rw [e]; rfl
  · rw [sbt_rec]
    have e : bi (tRec m x y z) b g = b := by unfold bi; rw [hd_rec, if_neg (by omega)]
    rw [e]
    rcases (show g = 0 ∨ g = 1 ∨ g = 2 by omega) with rfl | rfl | rfl
    · rw [(pt_rec hm _ _ _).1, (pt_rec hm _ _ _).1]
    · rw [(pt_rec hm _ _ _).2.1, (pt_rec hm _ _ _).2.1]
    · rw [(pt_rec hm _ _ _).2.2, (pt_rec hm _ _ _).2.2]
theorem bi_ok {D b g : Nat} {t : Ty} (h : ok (D + b) t = true) (hg : g < 3) (hb : hp t g = true) : ok (D + bi t b g) (pt t g) = true := by
  rcases ok_cases h with rfl | ⟨v, -, rfl⟩ | ⟨a, c, rfl, ha, hc⟩ | ⟨a, c, rfl, ha, hc⟩ | ⟨m, x, y, z, hm, rfl, h0, h1, h2⟩
  · rw [hp_top g hg] at hb; cases hb
  · rw [hp_var v g hg] at hb; cases hb
  · have e : bi (tFun a c) b g = b := by unfold bi; rw [hd_fun, if_neg (by omega)]
    rw [e]
    rcases (show g = 0 ∨ g = 1 ∨ g = 2 by omega) with rfl | rfl | rfl
    · exact ha
    · exact hc
    · rw [(hp_fun a c).2.2] at hb; cases hb
  · rcases (show g = 0 ∨ g = 1 ∨ g = 2 by omega) with rfl | rfl | rfl
    · have e : bi (tAll a c) b 0 = b := by unfold bi; rw [if_neg (by omega)]
      rw [e]; exact ha
    · have e : bi (tAll a c) b 1 = b + 1 := by unfold bi; rw [hd_all, if_pos ⟨rfl, rfl⟩]
      rw [e]; exact hc
    · rw [(hp_all a c).2.2] at hb; cases hb
  · have e : bi (tRec m x y z) b g = b := by unfold bi; rw [hd_rec, if_neg (by omega)]
    rw [e]
    rw [hp_rec hm x y z g hg] at hb
    have hb := bit_iff.mp hb
    rcases (show g = 0 ∨ g = 1 ∨ g = 2 by omega) with rfl | rfl | rfl
    · rw [(pt_rec hm x y z).1]; exact okl_on h0 hb
    · rw [(pt_rec hm x y z).2.1]; exact okl_on h1 hb
    · rw [(pt_rec hm x y z).2.2]; exact okl_on h2 hb
section PmE2
variable {d : Nat} {Q : Option Value → pm_S → Prop} {M : pm_M} {Rf : Nat → Nat → Nat} {K L : Nat → Nat} {n s : Nat}
theorem c_exposed {z : Nat} {cn i : Int} {Γ : List Ty} {S : Ty} (hG : pm_G Rf K L n) (hR : RmI Rf K L n z) (hM : ∀ p i, R32 (M p i)) (hcn : M 6 6 = cn) (c1 : 1 ≤ cn) (cz : cn ≤ z) (c2 : cn + 16 * (Γ.length : Int) ≤ 16384) (hc : okc Γ) (hs : szc 16 Γ) (bn : BN M Rf cn Γ) (hΓ : Γ.length ≤ 64) (oS : ok Γ.length S = true) (lS : (flat S).length ≤ 16) (nS : ndf M Rf cn 16 S i) (h : ∀ (M' : pm_M) (Rf' : Nat → Nat → Nat) (K' L' : Nat → Nat) (n' s' z' : Nat) (cn' r : Int), CX (fun p i => p = 6 ∧ i = 6) M Rf K L n s z cn M' Rf' K' L' n' s' z' → M' 6 6 = cn' → cn ≤ cn' → cn' ≤ cn + 16 * (Γ.length : Int) → cn' ≤ z' → ndf M' Rf' cn' 16 (expo Γ Γ.length S) r → Q (some (.int (zI r))) (zM M', Rf', K', L', n', s')) : pm_Wc (d + 24) 46 [.ref 6, .int (zI i), .int (zI (Γ.length : Int))] (zM M, Rf, K, L, n, s) Q := by
  have loop : ∀ (r j : Nat) (S1 : Ty) (M1 : pm_M) (R1 : Nat → Nat → Nat) (K1 L1 : Nat → Nat) (n1 s1 z1 : Nat) (cn1 i1 : Int), j + r = Γ.length → CX (fun p i => p = 6 ∧ i = 6) M Rf K L n s z cn M1 R1 K1 L1 n1 s1 z1 → M1 6 6 = cn1 → cn ≤ cn1 → cn1 ≤ cn + 16 * (j : Int) → cn1 ≤ z1 → ok Γ.length S1 = true → (flat S1).length ≤ 16 → ndf M1 R1 cn1 16 S1 i1 → expo Γ Γ.length S = expo Γ r S1 → pm_Wp none (d + 23) 46 5 [some (.ref 6), some (.int (zI i)), some (.int (zI (Γ.length : Int))), some (.int (zI i1)), some (.int (zI (j : Int)))] [] (zM M1, R1, K1, L1, n1, s1) Q := by
    intro r
    induction r with
    | zero =>
      intro j S1 M1 R1 K1 L1 n1 s1 z1 cn1 i1 hj cx u1 u2 u3 u4 o1 l1 nd e
      have e : expo Γ Γ.length S = S1 := e
      refine wp_iload d46_5 rfl ?_
      refine wp_iload_n d46_7 rfl ?_
      refine wz_icmp_ge (t := 32) d46_8 (by decide) ⟨by omega, by omega⟩ ⟨by omega, by omega⟩ (fun _ => ?_) (fun hb => absurd (by omega) hb)
      refine wp_iload_n d46_32 rfl ?_
      exact wp_ret d46_33 rfl (h M1 R1 K1 L1 n1 s1 z1 cn1 i1 cx u1 u2 (by omega) u4 (by rw [e]; exact nd))
    | succ r ih =>
      intro j S1 M1 R1 K1 L1 n1 s1 z1 cn1 i1 hj cx u1 u2 u3 u4 o1 l1 nd e
      have hz := cx.r.2.2.2.2
      have rr := ndf_rng nd
      have cS := cc_small o1 (by omega)
      have e : expo Γ Γ.length S = if 16 ≤ hd S1 then expo Γ r (exps Γ S1) else S1 := e
      refine wp_iload d46_5 rfl ?_
      refine wp_iload_n d46_7 rfl ?_
      refine wz_icmp_ge (t := 32) d46_8 (by decide) ⟨by omega, by omega⟩ ⟨by omega, by omega⟩ (fun hb => absurd hb (by omega)) (fun _ => ?_)
      refine wp_aload_n d46_11 rfl ?_
      refine wp_iload_n d46_12 rfl ?_
      refine wp_virt (as := [.int (zI i1)]) (rest := []) d46_13 rfl rfl rfl (cx.g.o (by decide) rfl) rfl rfl (Nat.le_of_ble_eq_true rfl) ?_
      refine wc_deep (show 0 + 1 ≤ d + 23 by omega) ?_
      refine c_isVar (c := hd S1) cx.g cx.r rr.1 (by omega) nd.1.2.2.1 cS (fun hv => ?_) (fun hv => ?_)
      · skip
        refine wz_if_eq (t := 32) d46_16 (by decide) ⟨by omega, by omega⟩ (fun hb => absurd hb (by decide)) (fun _ => ?_)
        refine wp_aload_n d46_19 rfl ?_
        refine wp_iload_n d46_20 rfl ?_
        refine wp_iload_n d46_21 rfl ?_
        refine wp_virt (as := [.int (zI (Γ.length : Int)), .int (zI i1)]) (rest := []) d46_22 rfl rfl rfl (cx.g.o (by decide) rfl) rfl rfl (Nat.le_of_ble_eq_true rfl) ?_
        rw [if_pos hv] at e
        obtain ⟨k, hk, rfl⟩ := hd_is_var o1 hv
        rw [exps_var] at e
        have bn1 : BN M1 R1 cn1 Γ := bn.mono cx.nodes (fun q hq => cx.mem 12 (by have := hG.1; omega) (fun g hg => by have := hR.2.1 g hg; omega) _ (by omega)) u2
        refine wc_deep (show d + 22 ≤ d + 23 by omega) ?_
        refine c_boundOf (k := k) cx.g cx.r cx.r32 u1 (by omega) u4 (by omega) hc bn1 hk hΓ rr.1 rr.2 nd.1.2.2.1 (fun M2 R2 K2 L2 n2 s2 z2 cn2 r2 cx2 v1 v2 v3 v4 nd2 => ?_)
        refine wp_istore_n d46_25 (Nat.le_of_ble_eq_true rfl) rfl ?_
        refine wz_iinc d46_26 rfl rfl ?_
        refine wp_goto (t := 5) d46_29 (by decide) ?_
        rw [show (j : Int) + 1 = ((j + 1 : Nat) : Int) by omega]
        exact ih (j + 1) _ M2 R2 K2 L2 n2 s2 z2 cn2 r2 (by omega) (cx.trans cx2 u2) v1 (by omega) (by omega) v4 (ok_expose hc hk) (by rw [lft_len]; exact hs k hk) nd2 e
      · skip
        rw [if_neg hv] at e
        refine wz_if_eq (t := 32) d46_16 (by decide) ⟨by omega, by omega⟩ (fun _ => ?_) (fun hb => absurd (by decide) hb)
        refine wp_iload_n d46_32 rfl ?_
        exact wp_ret d46_33 rfl (h M1 R1 K1 L1 n1 s1 z1 cn1 i1 cx u1 u2 (by omega) u4 (by rw [e]; exact nd))
  refine wc_in (ls0 := [some (.ref 6), some (.int (zI i)), some (.int (zI (Γ.length : Int))), none, none]) (by decide) (Nat.le_of_ble_eq_true rfl) rfl rfl ?_
  refine wp_iload_n d46_0 rfl ?_
  refine wp_istore_n d46_1 (Nat.le_of_ble_eq_true rfl) rfl ?_
  refine wz_iconst d46_2 ?_
  refine wp_istore d46_3 (Nat.le_of_ble_eq_true rfl) rfl ?_
  exact loop Γ.length 0 S M Rf K L n s z cn i (by omega) (CX.refl hG hR hM) hcn (Int.le_refl _) (by omega) cz oS lS nS rfl
end PmE2
section PmE3
variable {d : Nat}
set_option maxHeartbeats 1000000 in
theorem c_replace {A : Ty} {k : Nat} (oA : ok k A = true) (lA : (flat A).length ≤ 16) : ∀ (N : Nat) (t : Ty) (i ai : Int) (b deep : Nat) (M0 : pm_M) (R0 : Nat → Nat → Nat) (K0 L0 : Nat → Nat) (n0 s0 z0 : Nat) (cn0 : Int) (Q : Option Value → pm_S → Prop), pm_G R0 K0 L0 n0 → RmI R0 K0 L0 n0 z0 → (∀ p i, R32 (M0 p i)) → M0 6 6 = cn0 → 1 ≤ cn0 → cn0 ≤ z0 → cn0 + (flat (sbt k A b t)).length ≤ 16384 → ok (k + 1 + b) t = true → k + b + N ≤ 2000 → ndf M0 R0 cn0 N t i → ndf M0 R0 cn0 16 A ai → deep + N ≤ 40 → (∀ (M : pm_M) (Rf : Nat → Nat → Nat) (K L : Nat → Nat) (n s z : Nat) (cn : Int) (r : Int), CX (fun p i => p = 6 ∧ i = 6) M0 R0 K0 L0 n0 s0 z0 cn0 M Rf K L n s z → M 6 6 = cn → cn0 ≤ cn → cn ≤ cn0 + (flat (sbt k A b t)).length → cn ≤ z → ndf M Rf cn (N + 16) (sbt k A b t) r → Q (some (.int (zI r))) (zM M, Rf, K, L, n, s)) → pm_Wc (d + N + 30) 44 [.ref 6, .int (zI i), .int (zI (k : Int)), .int (zI ai), .int (zI (b : Int)), .int (zI (deep : Int))] (zM M0, R0, K0, L0, n0, s0) Q
  | 0, _, _, _, _, _, _, _, _, _, _, _, _, _, _, _, _, _, _, _, _, _, _, _, h, _, _, _ => h.elim
  | N + 1, t, i, ai, b, deep, M0, R0, K0, L0, n0, s0, z0, cn0, Q, hG0, hR0, hM0, hcn, c1, cz, c2, ot, hdd, nt, na, hdeep, h => by
    have hz0 := hR0.2.2.2.2
    have nt0 := nt
    obtain ⟨⟨i0, i1, iC, -, iL⟩, iP⟩ := nt
    have cS := cc_small ot (by omega)
    have fp := flat_pos ot
    have ra := ndf_rng na
    refine wc_in (ls0 := [some (.ref 6), some (.int (zI i)), some (.int (zI (k : Int))), some (.int (zI ai)), some (.int (zI (b : Int))), some (.int (zI (deep : Int))), none, none, none, none]) (by decide) (Nat.le_of_ble_eq_true rfl) rfl rfl ?_
    refine wp_iload d44_0 rfl ?_
    refine wz_bipush d44_2 (by decide) ?_
    refine wz_icmp_lt (t := 9) d44_4 (by decide) ⟨by omega, by omega⟩ ⟨by omega, by omega⟩ (fun _ => ?_) (fun hb => absurd (by omega) hb)
    refine wp_aload_n d44_9 rfl ?_
    refine wp_iload_n d44_10 rfl ?_
    refine wp_virt (as := [.int (zI i)]) (rest := []) d44_11 rfl rfl rfl (hG0.o (by decide) rfl) rfl rfl (Nat.le_of_ble_eq_true rfl) ?_
    refine wc_deep (show 0 + 1 ≤ d + N + 30 by omega) ?_
    refine c_isVar (c := hd t) hG0 hR0 i0 (by omega) iC cS (fun hv => ?_) (fun hv => ?_)
    · skip
      obtain ⟨v, hvd, rfl⟩ := hd_is_var ot hv
      have iC' : M0 (R0 6 0) i = (cc (16 + v) : Int) := iC
      rw [sbt_var] at c2 h
      refine wz_if_eq (t := 59) d44_14 (by decide) ⟨by omega, by omega⟩ (fun hb => absurd hb (by decide)) (fun _ => ?_)
      refine wp_aload_n d44_17 rfl ?_
      refine wp_iload_n d44_18 rfl ?_
      refine wp_virt (as := [.int (zI i)]) (rest := []) d44_19 rfl rfl rfl (hG0.o (by decide) rfl) rfl rfl (Nat.le_of_ble_eq_true rfl) ?_
      refine wc_deep (show 0 + 1 ≤ d + N + 30 by omega) ?_
      refine c_levelOf (v := v) hG0 hR0 i0 (by omega) iC' (by omega) ?_
      refine wp_istore d44_22 (Nat.le_of_ble_eq_true rfl) rfl ?_
      refine wp_iload d44_24 rfl ?_
      refine wp_iload_n d44_26 rfl ?_
      refine wz_icmp_ne (t := 40) d44_27 (by decide) ⟨by omega, by omega⟩ ⟨by omega, by omega⟩ (fun hne => ?_) (fun heq => ?_)
      · skip
        rw [if_neg (by omega)] at c2 h
        refine wp_iload d44_40 rfl ?_
        refine wp_iload_n d44_42 rfl ?_
        refine wz_icmp_ge (t := 50) d44_43 (by decide) ⟨by omega, by omega⟩ ⟨by omega, by omega⟩ (fun hge => ?_) (fun hge => ?_)
        · skip
          rw [if_pos (show k < v by omega)] at c2 h
          refine wp_aload_n d44_50 rfl ?_
          refine wp_iload d44_51 rfl ?_
          refine wz_iconst d44_53 ?_
          refine wz_isub d44_54 ?_
          rw [show (v : Int) - 1 = ((v - 1 : Nat) : Int) by omega]
          refine wp_virt (as := [.int (zI (((v - 1 : Nat) : Int)))]) (rest := []) d44_55 rfl rfl rfl (hG0.o (by decide) rfl) rfl rfl (Nat.le_of_ble_eq_true rfl) ?_
          refine wc_deep (show 0 + 4 ≤ d + N + 30 by omega) ?_
          have fl1 : (flat (tVar (v - 1))).length = 1 := rfl
          refine c_variable hG0 hR0 hM0 hcn c1 cz (by omega) (by omega) (fun M Rf K L n s z cx m6 mz nd' => ?_)
          exact wp_ret d44_58 rfl (h M Rf K L n s z (cn0 + 1) cn0 cx m6 (by omega) (by rw [fl1]; omega) mz (nd' (N + 16)))
        · skip
          rw [if_neg (show ¬ k < v by omega)] at c2 h
          refine wp_iload_n d44_46 rfl ?_
          refine wp_goto (t := 58) d44_47 (by decide) ?_
          exact wp_ret d44_58 rfl (h M0 R0 K0 L0 n0 s0 z0 cn0 i (CX.refl hG0 hR0 hM0) hcn (Int.le_refl _) (by omega) cz (ndf_mono (fun _ _ _ _ _ => rfl) (Int.le_refl _) (by omega) nt0))
      · skip
        have e : v = k := by omega
        rw [if_pos e] at c2 h
        rw [lft_len] at c2 h
        refine wp_aload_n d44_30 rfl ?_
        refine wp_iload_n d44_31 rfl ?_
        refine wp_iload_n d44_32 rfl ?_
        refine wp_iload d44_33 rfl ?_
        refine wz_iconst d44_35 ?_
        refine wp_virt (as := [.int (zI 0), .int (zI (b : Int)), .int (zI (k : Int)), .int (zI ai)]) (rest := []) d44_36 rfl rfl rfl (hG0.o (by decide) rfl) rfl rfl (Nat.le_of_ble_eq_true rfl) ?_
        refine wc_deep (show 0 + 16 + 5 ≤ d + N + 30 by omega) ?_
        rw [show (0 : Int) = ((0 : Nat) : Int) by rfl]
        refine c_lift 16 A ai k b k 0 M0 R0 K0 L0 n0 s0 z0 cn0 _ hG0 hR0 hM0 hcn c1 cz c2 oA (Nat.le_refl _) (by omega) na (by omega) (fun M Rf K L n s z cn r cx u1 u2 u3 u4 nd' => ?_)
        exact wp_ret d44_39 rfl (h M Rf K L n s z cn r cx u1 u2 u3 u4 (ndf_mono (fun _ _ _ _ _ => rfl) (Int.le_refl _) (by omega) nd'))
    · skip
      refine wz_if_eq (t := 59) d44_14 (by decide) ⟨by omega, by omega⟩ (fun _ => ?_) (fun hb => absurd (by decide) hb)
      have ot' : ok (k + b) (sbt k A b t) = true := ok_sbt oA (flat t).length t b (Nat.le_refl _) ot
      have eh : hd (sbt k A b t) = hd t := sbt_hd ot (by omega)
      have hpe : ∀ g, hp (sbt k A b t) g = hp t g := fun g => by unfold hp; rw [eh]
      have hpt : ∀ g, g < 3 → pt (sbt k A b t) g = sbt k A (bi t b g) (pt t g) := fun g hg => sbt_pt ot (by omega) hg
      have flen := len_pts ot'
      rw [hpt 0 (by decide), hpt 1 (by decide), hpt 2 (by decide)] at flen
      have l0 := iL 0 (by decide)
      have l1 := iL 1 (by decide)
      have l2 := iL 2 (by decide)
      have b0 : bi t b 0 = b := by unfold bi; rw [if_neg (by omega)]
      have b2 : bi t b 2 = b := by unfold bi; rw [if_neg (by omega)]
      have bb : bi t b 1 = b ∨ bi t b 1 = b + 1 := by
        unfold bi
        by_cases c : hd t = 2 ∧ 1 = 1
        · rw [if_pos c]; exact Or.inr rfl
        · rw [if_neg c]; exact Or.inl rfl
      rw [b0, b2] at flen
      have k3 : ∀ (M : pm_M) (Rf : Nat → Nat → Nat) (K L : Nat → Nat) (n s z : Nat) (cn : Int) (x y w : Int), LU M0 R0 K0 L0 n0 s0 z0 cn0 ((flat (sbt k A b (pt t 0))).length + (flat (sbt k A (bi t b 1) (pt t 1))).length + (flat (sbt k A b (pt t 2))).length) M Rf K L n s z cn → XF M Rf cn (N + 16) (sbt k A b t) 0 x → XF M Rf cn (N + 16) (sbt k A b t) 1 y → XF M Rf cn (N + 16) (sbt k A b t) 2 w → pm_Wp none (d + N + 30) 44 207 [some (.ref 6), some (.int (zI i)), some (.int (zI (k : Int))), some (.int (zI ai)), some (.int (zI (b : Int))), some (.int (zI (deep : Int))), some (.int (zI (bi t b 1 : Int))), some (.int (zI x)), some (.int (zI y)), some (.int (zI w))] [] (zM M, Rf, K, L, n, s) Q := by
        intro M Rf K L n s z cn x y w us hx hy hw
        obtain ⟨cx, u1, u2, u3, u4⟩ := us
        refine wp_aload_n d44_207 rfl ?_
        refine wp_iload_n d44_208 rfl ?_
        refine wp_iload d44_209 rfl ?_
        refine wp_iload d44_211 rfl ?_
        refine wp_iload d44_213 rfl ?_
        refine wp_virt (as := [.int (zI w), .int (zI y), .int (zI x), .int (zI i)]) (rest := []) d44_215 rfl rfl rfl (cx.g.o (by decide) rfl) rfl rfl (Nat.le_of_ble_eq_true rfl) ?_
        refine wc_deep (show 0 + 4 ≤ d + N + 30 by omega) ?_
        refine c_remake (N := N + 16) (t := t) (t' := sbt k A b t) cx.g cx.r cx.r32 u1 u4 (by omega) (ndf_mono cx.nodes u2 (by omega) nt0) ot ot' (by omega) eh (by omega) hx hy hw (fun M' Rf' K' L' n' s' z' cn' r cx' v1 v2 v3 v4 nd' => ?_)
        exact wp_ret d44_218 rfl (h M' Rf' K' L' n' s' z' cn' r (cx.trans cx' u2) v1 (by omega) (by omega) v4 (ndf_mono (fun _ _ _ _ _ => rfl) (Int.le_refl _) (by omega) nd'))
      have k2 : ∀ (M : pm_M) (Rf : Nat → Nat → Nat) (K L : Nat → Nat) (n s z : Nat) (cn : Int) (x y : Int) , LU M0 R0 K0 L0 n0 s0 z0 cn0 ((flat (sbt k A b (pt t 0))).length + (flat (sbt k A (bi t b 1) (pt t 1))).length) M Rf K L n s z cn → XF M Rf cn (N + 16) (sbt k A b t) 0 x → XF M Rf cn (N + 16) (sbt k A b t) 1 y → pm_Wp none (d + N + 30) 44 165 [some (.ref 6), some (.int (zI i)), some (.int (zI (k : Int))), some (.int (zI ai)), some (.int (zI (b : Int))), some (.int (zI (deep : Int))), some (.int (zI (bi t b 1 : Int))), some (.int (zI x)), some (.int (zI y)), none] [] (zM M, Rf, K, L, n, s) Q := by
        intro M Rf K L n s z cn x y us hx hy
        obtain ⟨cx, u1, u2, u3, u4⟩ := us
        have nn := cx.nodes
        have hz := cx.r.2.2.2.2
        refine wp_aload_n d44_165 rfl ?_
        refine wp_getR (q := Rf 6 0) d44_166 rfl (cx.g.o (by decide) rfl) (by decide) rfl (cx.r.1 0 (by decide)).1 ?_
        refine wp_iload_n d44_169 rfl ?_
        refine wz_iald (z := z) (v := (cc (hd t) : Int)) d44_170 (cx.r.1 0 (by decide)) (i0) (by omega) (by omega) (by rw [nn 0 (by decide) i i0 i1]; exact iC) ?_
        refine wz_iconst d44_171 ?_
        refine wp_stat (as := [.int (zI 2), .int (zI ((cc (hd t) : Int)))]) (rest := []) d44_172 rfl rfl rfl rfl rfl (Nat.le_of_ble_eq_true rfl) ?_
        refine wc_deep (show 0 + 1 ≤ d + N + 30 by omega) ?_
        refine c_holds (c := cc (hd t)) (i := 2) cS (by decide) (fun hb => ?_) (fun hb => ?_)
        · skip
          have hb : hp t 2 = true := hb
          have o1 : ok (k + 1 + b) (pt t 2) = true := by have := bi_ok (g := 2) ot (by decide) hb; rw [b2] at this; exact this
          refine wz_if_eq (t := 199) d44_175 (by decide) ⟨by omega, by omega⟩ (fun hb => absurd hb (by decide)) (fun _ => ?_)
          refine wp_aload_n d44_178 rfl ?_
          refine wp_aload_n d44_179 rfl ?_
          refine wp_getR (q := Rf 6 3) d44_180 rfl (cx.g.o (by decide) rfl) (by decide) rfl (cx.r.1 3 (by decide)).1 ?_
          refine wp_iload_n d44_183 rfl ?_
          refine wz_iald (z := z) (v := M0 (R0 6 3) i) d44_184 (cx.r.1 3 (by decide)) (i0) (by omega) (by omega) (nn 3 (by decide) i i0 i1) ?_
          refine wp_iload_n d44_185 rfl ?_
          refine wp_iload_n d44_186 rfl ?_
          refine wp_iload d44_187 rfl ?_
          refine wp_iload d44_189 rfl ?_
          refine wz_iconst d44_191 ?_
          refine wz_iadd d44_192 ?_
          refine wp_virt (as := [.int (zI ((deep : Int) + 1)), .int (zI (b : Int)), .int (zI ai), .int (zI (k : Int)), .int (zI (M0 (R0 6 3) i))]) (rest := []) d44_193 rfl rfl rfl (cx.g.o (by decide) rfl) rfl rfl (Nat.le_of_ble_eq_true rfl) ?_
          rw [show (deep : Int) + 1 = ((deep + 1 : Nat) : Int) by omega]
          refine wc_deep (show d + N + 30 ≤ d + N + 30 by omega) ?_
          refine c_replace oA lA N (pt t 2) (M0 (R0 6 3) i) ai b (deep + 1) M Rf K L n s z cn _ cx.g cx.r cx.r32 u1 (by omega) u4 (by omega) o1 (by omega) (ndf_mono nn u2 (Nat.le_refl _) (iP 2 (by decide) hb)) (ndf_mono nn u2 (Nat.le_refl _) na) (by omega) (fun M' Rf' K' L' n' s' z' cn' r cx' v1 v2 v3 v4 nd' => ?_)
          refine wp_goto (t := 205) d44_196 (by decide) ?_
          refine wp_istore d44_205 (Nat.le_of_ble_eq_true rfl) rfl ?_
          have rr := ndf_rng nd'
          exact k3 M' Rf' K' L' n' s' z' cn' x y r ⟨cx.trans cx' u2, v1, by omega, by omega, v4⟩ (hx.mono cx'.nodes v2) (hy.mono cx'.nodes v2) ⟨rr.1, rr.2, fun _ => by rw [hpt 2 (by decide)]; rw [b2]; exact nd'⟩
        · skip
          have hb : ¬ hp t 2 = true := hb
          refine wz_if_eq (t := 199) d44_175 (by decide) ⟨by omega, by omega⟩ (fun _ => ?_) (fun hb => absurd (by decide) hb)
          refine wp_aload_n d44_199 rfl ?_
          refine wp_getR (q := Rf 6 3) d44_200 rfl (cx.g.o (by decide) rfl) (by decide) rfl (cx.r.1 3 (by decide)).1 ?_
          refine wp_iload_n d44_203 rfl ?_
          refine wz_iald (z := z) (v := M0 (R0 6 3) i) d44_204 (cx.r.1 3 (by decide)) (i0) (by omega) (by omega) (nn 3 (by decide) i i0 i1) ?_
          refine wp_istore d44_205 (Nat.le_of_ble_eq_true rfl) rfl ?_
          exact k3 M Rf K L n s z cn x y _ ⟨cx, u1, u2, by omega, u4⟩ hx hy ⟨l2.1, (by have := l2.2; omega : M0 (R0 6 (1 + 2)) i < cn), fun hb' => by rw [hpe] at hb'; exact absurd hb' hb⟩
      have k1 : ∀ (M : pm_M) (Rf : Nat → Nat → Nat) (K L : Nat → Nat) (n s z : Nat) (cn : Int) (x : Int) , LU M0 R0 K0 L0 n0 s0 z0 cn0 (flat (sbt k A b (pt t 0))).length M Rf K L n s z cn → XF M Rf cn (N + 16) (sbt k A b t) 0 x → pm_Wp none (d + N + 30) 44 123 [some (.ref 6), some (.int (zI i)), some (.int (zI (k : Int))), some (.int (zI ai)), some (.int (zI (b : Int))), some (.int (zI (deep : Int))), some (.int (zI (bi t b 1 : Int))), some (.int (zI x)), none, none] [] (zM M, Rf, K, L, n, s) Q := by
        intro M Rf K L n s z cn x us hx
        obtain ⟨cx, u1, u2, u3, u4⟩ := us
        have nn := cx.nodes
        have hz := cx.r.2.2.2.2
        refine wp_aload_n d44_123 rfl ?_
        refine wp_getR (q := Rf 6 0) d44_124 rfl (cx.g.o (by decide) rfl) (by decide) rfl (cx.r.1 0 (by decide)).1 ?_
        refine wp_iload_n d44_127 rfl ?_
        refine wz_iald (z := z) (v := (cc (hd t) : Int)) d44_128 (cx.r.1 0 (by decide)) (i0) (by omega) (by omega) (by rw [nn 0 (by decide) i i0 i1]; exact iC) ?_
        refine wz_iconst d44_129 ?_
        refine wp_stat (as := [.int (zI 1), .int (zI ((cc (hd t) : Int)))]) (rest := []) d44_130 rfl rfl rfl rfl rfl (Nat.le_of_ble_eq_true rfl) ?_
        refine wc_deep (show 0 + 1 ≤ d + N + 30 by omega) ?_
        refine c_holds (c := cc (hd t)) (i := 1) cS (by decide) (fun hb => ?_) (fun hb => ?_)
        · skip
          have hb : hp t 1 = true := hb
          have o1 : ok (k + 1 + (bi t b 1)) (pt t 1) = true := bi_ok (g := 1) ot (by decide) hb
          refine wz_if_eq (t := 157) d44_133 (by decide) ⟨by omega, by omega⟩ (fun hb => absurd hb (by decide)) (fun _ => ?_)
          refine wp_aload_n d44_136 rfl ?_
          refine wp_aload_n d44_137 rfl ?_
          refine wp_getR (q := Rf 6 2) d44_138 rfl (cx.g.o (by decide) rfl) (by decide) rfl (cx.r.1 2 (by decide)).1 ?_
          refine wp_iload_n d44_141 rfl ?_
          refine wz_iald (z := z) (v := M0 (R0 6 2) i) d44_142 (cx.r.1 2 (by decide)) (i0) (by omega) (by omega) (nn 2 (by decide) i i0 i1) ?_
          refine wp_iload_n d44_143 rfl ?_
          refine wp_iload_n d44_144 rfl ?_
          refine wp_iload d44_145 rfl ?_
          refine wp_iload d44_147 rfl ?_
          refine wz_iconst d44_149 ?_
          refine wz_iadd d44_150 ?_
          refine wp_virt (as := [.int (zI ((deep : Int) + 1)), .int (zI (bi t b 1 : Int)), .int (zI ai), .int (zI (k : Int)), .int (zI (M0 (R0 6 2) i))]) (rest := []) d44_151 rfl rfl rfl (cx.g.o (by decide) rfl) rfl rfl (Nat.le_of_ble_eq_true rfl) ?_
          rw [show (deep : Int) + 1 = ((deep + 1 : Nat) : Int) by omega]
          refine wc_deep (show d + N + 30 ≤ d + N + 30 by omega) ?_
          refine c_replace oA lA N (pt t 1) (M0 (R0 6 2) i) ai (bi t b 1) (deep + 1) M Rf K L n s z cn _ cx.g cx.r cx.r32 u1 (by omega) u4 (by omega) o1 (by omega) (ndf_mono nn u2 (Nat.le_refl _) (iP 1 (by decide) hb)) (ndf_mono nn u2 (Nat.le_refl _) na) (by omega) (fun M' Rf' K' L' n' s' z' cn' r cx' v1 v2 v3 v4 nd' => ?_)
          refine wp_goto (t := 163) d44_154 (by decide) ?_
          refine wp_istore d44_163 (Nat.le_of_ble_eq_true rfl) rfl ?_
          have rr := ndf_rng nd'
          exact k2 M' Rf' K' L' n' s' z' cn' x r ⟨cx.trans cx' u2, v1, by omega, by omega, v4⟩ (hx.mono cx'.nodes v2) ⟨rr.1, rr.2, fun _ => by rw [hpt 1 (by decide)]; exact nd'⟩
        · skip
          have hb : ¬ hp t 1 = true := hb
          refine wz_if_eq (t := 157) d44_133 (by decide) ⟨by omega, by omega⟩ (fun _ => ?_) (fun hb => absurd (by decide) hb)
          refine wp_aload_n d44_157 rfl ?_
          refine wp_getR (q := Rf 6 2) d44_158 rfl (cx.g.o (by decide) rfl) (by decide) rfl (cx.r.1 2 (by decide)).1 ?_
          refine wp_iload_n d44_161 rfl ?_
          refine wz_iald (z := z) (v := M0 (R0 6 2) i) d44_162 (cx.r.1 2 (by decide)) (i0) (by omega) (by omega) (nn 2 (by decide) i i0 i1) ?_
          refine wp_istore d44_163 (Nat.le_of_ble_eq_true rfl) rfl ?_
          exact k2 M Rf K L n s z cn x _ ⟨cx, u1, u2, by omega, u4⟩ hx ⟨l1.1, (by have := l1.2; omega : M0 (R0 6 (1 + 1)) i < cn), fun hb' => by rw [hpe] at hb'; exact absurd hb' hb⟩
      have k0 : ∀ (M : pm_M) (Rf : Nat → Nat → Nat) (K L : Nat → Nat) (n s z : Nat) (cn : Int) , LU M0 R0 K0 L0 n0 s0 z0 cn0 0 M Rf K L n s z cn → pm_Wp none (d + N + 30) 44 81 [some (.ref 6), some (.int (zI i)), some (.int (zI (k : Int))), some (.int (zI ai)), some (.int (zI (b : Int))), some (.int (zI (deep : Int))), some (.int (zI (bi t b 1 : Int))), none, none, none] [] (zM M, Rf, K, L, n, s) Q := by
        intro M Rf K L n s z cn  us 
        obtain ⟨cx, u1, u2, u3, u4⟩ := us
        have nn := cx.nodes
        have hz := cx.r.2.2.2.2
        refine wp_aload_n d44_81 rfl ?_
        refine wp_getR (q := Rf 6 0) d44_82 rfl (cx.g.o (by decide) rfl) (by decide) rfl (cx.r.1 0 (by decide)).1 ?_
        refine wp_iload_n d44_85 rfl ?_
        refine wz_iald (z := z) (v := (cc (hd t) : Int)) d44_86 (cx.r.1 0 (by decide)) (i0) (by omega) (by omega) (by rw [nn 0 (by decide) i i0 i1]; exact iC) ?_
        refine wz_iconst d44_87 ?_
        refine wp_stat (as := [.int (zI 0), .int (zI ((cc (hd t) : Int)))]) (rest := []) d44_88 rfl rfl rfl rfl rfl (Nat.le_of_ble_eq_true rfl) ?_
        refine wc_deep (show 0 + 1 ≤ d + N + 30 by omega) ?_
        refine c_holds (c := cc (hd t)) (i := 0) cS (by decide) (fun hb => ?_) (fun hb => ?_)
        · skip
          have hb : hp t 0 = true := hb
          have o1 : ok (k + 1 + b) (pt t 0) = true := by have := bi_ok (g := 0) ot (by decide) hb; rw [b0] at this; exact this
          refine wz_if_eq (t := 115) d44_91 (by decide) ⟨by omega, by omega⟩ (fun hb => absurd hb (by decide)) (fun _ => ?_)
          refine wp_aload_n d44_94 rfl ?_
          refine wp_aload_n d44_95 rfl ?_
          refine wp_getR (q := Rf 6 1) d44_96 rfl (cx.g.o (by decide) rfl) (by decide) rfl (cx.r.1 1 (by decide)).1 ?_
          refine wp_iload_n d44_99 rfl ?_
          refine wz_iald (z := z) (v := M0 (R0 6 1) i) d44_100 (cx.r.1 1 (by decide)) (i0) (by omega) (by omega) (nn 1 (by decide) i i0 i1) ?_
          refine wp_iload_n d44_101 rfl ?_
          refine wp_iload_n d44_102 rfl ?_
          refine wp_iload d44_103 rfl ?_
          refine wp_iload d44_105 rfl ?_
          refine wz_iconst d44_107 ?_
          refine wz_iadd d44_108 ?_
          refine wp_virt (as := [.int (zI ((deep : Int) + 1)), .int (zI (b : Int)), .int (zI ai), .int (zI (k : Int)), .int (zI (M0 (R0 6 1) i))]) (rest := []) d44_109 rfl rfl rfl (cx.g.o (by decide) rfl) rfl rfl (Nat.le_of_ble_eq_true rfl) ?_
          rw [show (deep : Int) + 1 = ((deep + 1 : Nat) : Int) by omega]
          refine wc_deep (show d + N + 30 ≤ d + N + 30 by omega) ?_
          refine c_replace oA lA N (pt t 0) (M0 (R0 6 1) i) ai b (deep + 1) M Rf K L n s z cn _ cx.g cx.r cx.r32 u1 (by omega) u4 (by omega) o1 (by omega) (ndf_mono nn u2 (Nat.le_refl _) (iP 0 (by decide) hb)) (ndf_mono nn u2 (Nat.le_refl _) na) (by omega) (fun M' Rf' K' L' n' s' z' cn' r cx' v1 v2 v3 v4 nd' => ?_)
          refine wp_goto (t := 121) d44_112 (by decide) ?_
          refine wp_istore d44_121 (Nat.le_of_ble_eq_true rfl) rfl ?_
          have rr := ndf_rng nd'
          exact k1 M' Rf' K' L' n' s' z' cn'  r ⟨cx.trans cx' u2, v1, by omega, by omega, v4⟩  ⟨rr.1, rr.2, fun _ => by rw [hpt 0 (by decide)]; rw [b0]; exact nd'⟩
        · skip
          have hb : ¬ hp t 0 = true := hb
          refine wz_if_eq (t := 115) d44_91 (by decide) ⟨by omega, by omega⟩ (fun _ => ?_) (fun hb => absurd (by decide) hb)
          refine wp_aload_n d44_115 rfl ?_
          refine wp_getR (q := Rf 6 1) d44_116 rfl (cx.g.o (by decide) rfl) (by decide) rfl (cx.r.1 1 (by decide)).1 ?_
          refine wp_iload_n d44_119 rfl ?_
          refine wz_iald (z := z) (v := M0 (R0 6 1) i) d44_120 (cx.r.1 1 (by decide)) (i0) (by omega) (by omega) (nn 1 (by decide) i i0 i1) ?_
          refine wp_istore d44_121 (Nat.le_of_ble_eq_true rfl) rfl ?_
          exact k1 M Rf K L n s z cn  _ ⟨cx, u1, u2, by omega, u4⟩  ⟨l0.1, (by have := l0.2; omega : M0 (R0 6 (1 + 0)) i < cn), fun hb' => by rw [hpe] at hb'; exact absurd hb' hb⟩
      have fin := k0 M0 R0 K0 L0 n0 s0 z0 cn0 ⟨CX.refl hG0 hR0 hM0, hcn, Int.le_refl _, by omega, cz⟩
      refine wp_aload_n d44_59 rfl ?_
      refine wp_getR (q := R0 6 0) d44_60 rfl (hG0.o (by decide) rfl) (by decide) rfl (hR0.1 0 (by decide)).1 ?_
      refine wp_iload_n d44_63 rfl ?_
      refine wz_iald (z := z0) (v := (cc (hd t) : Int)) d44_64 (hR0.1 0 (by decide)) (i0) (by omega) (by omega) (iC) ?_
      refine wz_bipush d44_65 (by decide) ?_
      refine wz_icmp_ne (t := 77) d44_67 (by decide) ⟨by omega, by omega⟩ ⟨by omega, by omega⟩ (fun hne => ?_) (fun heq => ?_)
      · skip
        have e : bi t b 1 = b := by
          unfold bi
          rw [if_neg (fun q => hne (by rw [q.1]; rfl))]
        rw [e] at fin
        refine wp_iload d44_77 rfl ?_
        refine wp_istore d44_79 (Nat.le_of_ble_eq_true rfl) rfl ?_
        exact fin
      · skip
        have e : bi t b 1 = b + 1 := by
          have h2 : hd t = 2 := by
            rcases ok_cases ot with q | ⟨v, hv', q⟩ | ⟨a, c, q, ha, hc⟩ | ⟨a, c, q, ha, hc⟩ | ⟨m, x, y, z, hm, q, h0, h1, h2⟩
            · rw [q] at heq; exact absurd heq (by decide)
            · rw [q, hd_var] at hv; omega
            · rw [q, hd_fun] at heq; exact absurd heq (by decide)
            · rw [q]; rfl
            · rw [q, hd_rec, cc_rec hm] at heq; omega
          unfold bi
          rw [if_pos ⟨h2, rfl⟩]
        rw [e] at fin
        refine wp_iload d44_70 rfl ?_
        refine wz_iconst d44_72 ?_
        refine wz_iadd d44_73 ?_
        refine wp_goto (t := 79) d44_74 (by decide) ?_
        rw [show (b : Int) + 1 = ((b + 1 : Nat) : Int) by omega]
        refine wp_istore d44_79 (Nat.le_of_ble_eq_true rfl) rfl ?_
        exact fin
end PmE3
