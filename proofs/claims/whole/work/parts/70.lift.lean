/-! THE CLASS: variable, lift. -/
theorem pt_ok2 {d : Nat} {S : Ty} (hS : ok d S = true) {g : Nat} (hg : g < 3) (h : hp S g = true) : ∃ d', d ≤ d' ∧ d' ≤ d + 1 ∧ ok d' (pt S g) = true := by
  rcases ok_cases hS with rfl | ⟨k, -, rfl⟩ | ⟨a, b, rfl, ha, hb⟩ | ⟨a, b, rfl, ha, hb⟩ | ⟨m, x, y, z, hm, rfl, h0, h1, h2⟩
  · rw [hp_top g hg] at h; cases h
  · rw [hp_var k g hg] at h; cases h
  · rcases (show g = 0 ∨ g = 1 ∨ g = 2 by omega) with rfl | rfl | rfl
    · exact ⟨d, Nat.le_refl _, by omega, ha⟩
    · exact ⟨d, Nat.le_refl _, by omega, hb⟩
    · rw [(hp_fun a b).2.2] at h; cases h
  · rcases (show g = 0 ∨ g = 1 ∨ g = 2 by omega) with rfl | rfl | rfl
    · exact ⟨d, Nat.le_refl _, by omega, ha⟩
    · exact ⟨d + 1, by omega, Nat.le_refl _, hb⟩
    · rw [(hp_all a b).2.2] at h; cases h
  · rw [hp_rec hm x y z g hg] at h
    rcases (show g = 0 ∨ g = 1 ∨ g = 2 by omega) with rfl | rfl | rfl
    · rw [(pt_rec hm x y z).1]; exact ⟨d, Nat.le_refl _, by omega, okl_on h0 (bit_iff.mp h)⟩
    · rw [(pt_rec hm x y z).2.1]; exact ⟨d, Nat.le_refl _, by omega, okl_on h1 (bit_iff.mp h)⟩
    · rw [(pt_rec hm x y z).2.2]; exact ⟨d, Nat.le_refl _, by omega, okl_on h2 (bit_iff.mp h)⟩
section PmC9
variable {d : Nat}
theorem c_variable {Q : Option Value → pm_S → Prop} {M : pm_M} {Rf : Nat → Nat → Nat} {K L : Nat → Nat} {n s z v : Nat} {cn : Int} (hG : pm_G Rf K L n) (hR : RmI Rf K L n z) (hM : ∀ p i, R32 (M p i)) (hcn : M 6 6 = cn) (c1 : 1 ≤ cn) (cz : cn ≤ z) (c2 : cn < 16384) (hv : v < 100000) (h : ∀ (M' : pm_M) (Rf' : Nat → Nat → Nat) (K' L' : Nat → Nat) (n' s' z' : Nat), CX (fun p i => p = 6 ∧ i = 6) M Rf K L n s z cn M' Rf' K' L' n' s' z' → M' 6 6 = cn + 1 → cn + 1 ≤ z' → (∀ N, ndf M' Rf' (cn + 1) (N + 1) (tVar v) cn) → Q (some (.int (zI cn))) (zM M', Rf', K', L', n', s')) : pm_Wc (d + 4) 30 [.ref 6, .int (zI (v : Int))] (zM M, Rf, K, L, n, s) Q := by
  have ccv : cc (hd (tVar v)) = 64 + 8 * v := by
    have := cc_cases (16 + v)
    rw [hd_var]; omega
  have ov : ok (v + 1) (tVar v) = true := ok_var (by omega)
  have e : ∀ g, g < 3 → psz M Rf (cc (hd (tVar v))) g 0 = 0 := fun g hg => by
    unfold psz
    rw [if_neg (by rw [ccv, bit_v v g hg]; decide)]
  refine wc_in (ls0 := [some (.ref 6), some (.int (zI (v : Int)))]) (by decide) (Nat.le_of_ble_eq_true rfl) rfl rfl ?_
  refine wp_aload_n d30_0 rfl ?_
  refine wz_bipush d30_1 (by decide) ?_
  refine wz_bipush d30_3 (by decide) ?_
  refine wp_iload_n d30_5 rfl ?_
  refine wz_imul d30_6 ?_
  refine wz_iadd d30_7 ?_
  refine wz_iconst d30_8 ?_
  refine wz_iconst d30_9 ?_
  refine wz_iconst d30_10 ?_
  rw [show 64 + 8 * (v : Int) = ((cc (hd (tVar v)) : Nat) : Int) by rw [ccv]; omega]
  refine wp_virt (as := [.int (zI 0), .int (zI 0), .int (zI 0), .int (zI (cc (hd (tVar v)) : Int))]) (rest := []) d30_11 rfl rfl rfl (hG.o (by decide) rfl) rfl rfl (Nat.le_of_ble_eq_true rfl) ?_
  refine c_make hG hR hM hcn cz c2 (by rw [ccv]; omega) (Int.le_refl _) (by omega) (Int.le_refl _) (by omega) (Int.le_refl _) (by omega) (by rw [e 0 (by decide)]; decide) (by rw [e 1 (by decide)]; decide) (by rw [e 2 (by decide)]; decide) (fun M' Rf' K' L' n' s' z' mk => ?_)
  have xf : ∀ (N g : Nat), g < 3 → XF M Rf cn N (tVar v) g 0 := fun N g hg => ⟨Int.le_refl _, by omega, fun hb => by rw [hp_var v g hg] at hb; cases hb⟩
  have nd' : ∀ N, ndf M' Rf' (cn + 1) (N + 1) (tVar v) cn := fun N => mk.ndf ov (by omega) (xf N 0 (by decide)) (xf N 1 (by decide)) (xf N 2 (by decide))
  have mcx := mk.cx
  obtain ⟨-, m6, mz, -⟩ := mk
  exact wp_ret d30_14 rfl (h M' Rf' K' L' n' s' z' mcx m6 (by omega) nd')
/-- so many nodes at most were made -/
def LU (M0 : pm_M) (R0 : Nat → Nat → Nat) (K0 L0 : Nat → Nat) (n0 s0 z0 : Nat) (cn0 : Int) (acc : Nat) (M : pm_M) (Rf : Nat → Nat → Nat) (K L : Nat → Nat) (n s z : Nat) (cn : Int) : Prop := CX (fun p i => p = 6 ∧ i = 6) M0 R0 K0 L0 n0 s0 z0 cn0 M Rf K L n s z ∧ M 6 6 = cn ∧ cn0 ≤ cn ∧ cn ≤ cn0 + acc ∧ cn ≤ z
set_option maxRecDepth 20000 in
set_option maxHeartbeats 2000000 in
theorem c_lift : ∀ (N : Nat) (t : Ty) (i : Int) (k b dd deep : Nat) (M0 : pm_M) (R0 : Nat → Nat → Nat) (K0 L0 : Nat → Nat) (n0 s0 z0 : Nat) (cn0 : Int) (Q : Option Value → pm_S → Prop), pm_G R0 K0 L0 n0 → RmI R0 K0 L0 n0 z0 → (∀ p i, R32 (M0 p i)) → M0 6 6 = cn0 → 1 ≤ cn0 → cn0 ≤ z0 → cn0 + (flat t).length ≤ 16384 → ok dd t = true → k ≤ dd → dd + b + N ≤ 2900 → ndf M0 R0 cn0 N t i → deep + N ≤ 40 → (∀ (M : pm_M) (Rf : Nat → Nat → Nat) (K L : Nat → Nat) (n s z : Nat) (cn : Int) (r : Int), CX (fun p i => p = 6 ∧ i = 6) M0 R0 K0 L0 n0 s0 z0 cn0 M Rf K L n s z → M 6 6 = cn → cn0 ≤ cn → cn ≤ cn0 + (flat t).length → cn ≤ z → ndf M Rf cn N (lft k b t) r → Q (some (.int (zI r))) (zM M, Rf, K, L, n, s)) → pm_Wc (d + N + 5) 42 [.ref 6, .int (zI i), .int (zI (k : Int)), .int (zI (b : Int)), .int (zI (deep : Int))] (zM M0, R0, K0, L0, n0, s0) Q
  | 0, _, _, _, _, _, _, _, _, _, _, _, _, _, _, _, _, _, _, _, _, _, _, _, _, _, h, _, _ => h.elim
  | N + 1, t, i, k, b, dd, deep, M0, R0, K0, L0, n0, s0, z0, cn0, Q, hG0, hR0, hM0, hcn, c1, cz, c2, ot, hk, hdd, nt, hdeep, h => by
    have hz0 := hR0.2.2.2.2
    have nt0 := nt
    obtain ⟨⟨i0, i1, iC, -, iL⟩, iP⟩ := nt
    have cS := cc_small ot (by omega)
    have fp := flat_pos ot
    have hhd := hd_le ot
    refine wc_in (ls0 := [some (.ref 6), some (.int (zI i)), some (.int (zI (k : Int))), some (.int (zI (b : Int))), some (.int (zI (deep : Int))), none, none, none]) (by decide) (Nat.le_of_ble_eq_true rfl) rfl rfl ?_
    refine wp_iload_n d42_0 rfl ?_
    refine wz_if_eq (t := 11) d42_1 (by decide) ⟨by omega, by omega⟩ (fun hb => ?_) (fun hb => ?_)
    · have e : b = 0 := by omega
      subst e
      refine wp_iload_n d42_11 rfl ?_
      refine wp_ret d42_12 rfl (h M0 R0 K0 L0 n0 s0 z0 cn0 i (CX.refl hG0 hR0 hM0) hcn (Int.le_refl _) (by omega) cz ?_)
      rw [lft_zero ot k hk]
      exact nt0
    refine wp_iload d42_4 rfl ?_
    refine wz_bipush d42_6 (by decide) ?_
    refine wz_icmp_lt (t := 13) d42_8 (by decide) ⟨by omega, by omega⟩ ⟨by omega, by omega⟩ (fun _ => ?_) (fun hb => absurd (by omega) hb)
    refine wp_aload_n d42_13 rfl ?_
    refine wp_iload_n d42_14 rfl ?_
    refine wp_virt (as := [.int (zI i)]) (rest := []) d42_15 rfl rfl rfl (hG0.o (by decide) rfl) rfl rfl (Nat.le_of_ble_eq_true rfl) ?_
    refine c_isVar (c := hd t) hG0 hR0 i0 (by omega) iC cS (fun hv => ?_) (fun hv => ?_)
    · obtain ⟨v, hvd, rfl⟩ := hd_is_var ot hv
      have iC' : M0 (R0 6 0) i = (cc (16 + v) : Int) := iC
      have fl1 : (flat (tVar v)).length = 1 := rfl
      refine wz_if_eq (t := 47) d42_18 (by decide) ⟨by omega, by omega⟩ (fun hb => absurd hb (by decide)) (fun _ => ?_)
      refine wp_aload_n d42_21 rfl ?_
      refine wp_iload_n d42_22 rfl ?_
      refine wp_virt (as := [.int (zI i)]) (rest := []) d42_23 rfl rfl rfl (hG0.o (by decide) rfl) rfl rfl (Nat.le_of_ble_eq_true rfl) ?_
      refine c_levelOf (v := v) hG0 hR0 i0 (by omega) iC' (by omega) ?_
      refine wp_istore d42_26 (Nat.le_of_ble_eq_true rfl) rfl ?_
      refine wp_iload d42_28 rfl ?_
      refine wp_iload_n d42_30 rfl ?_
      refine wz_icmp_ge (t := 38) d42_31 (by decide) ⟨by omega, by omega⟩ ⟨by omega, by omega⟩ (fun hge => ?_) (fun hge => ?_)
      · refine wp_aload_n d42_38 rfl ?_
        refine wp_iload d42_39 rfl ?_
        refine wp_iload_n d42_41 rfl ?_
        refine wz_iadd d42_42 ?_
        rw [show (v : Int) + (b : Int) = ((v + b : Nat) : Int) by omega]
        refine wp_virt (as := [.int (zI ((v + b : Nat) : Int))]) (rest := []) d42_43 rfl rfl rfl (hG0.o (by decide) rfl) rfl rfl (Nat.le_of_ble_eq_true rfl) ?_
        refine c_variable hG0 hR0 hM0 hcn c1 cz (by omega) (by omega) (fun M Rf K L n s z cx m6 mz nd' => ?_)
        refine wp_ret d42_46 rfl (h M Rf K L n s z (cn0 + 1) cn0 cx m6 (by omega) (by rw [fl1]; omega) mz ?_)
        rw [lft_var, if_pos (by omega)]
        exact nd' N
      · refine wp_iload_n d42_34 rfl ?_
        refine wp_goto (t := 46) d42_35 (by decide) ?_
        refine wp_ret d42_46 rfl (h M0 R0 K0 L0 n0 s0 z0 cn0 i (CX.refl hG0 hR0 hM0) hcn (Int.le_refl _) (by omega) cz ?_)
        rw [lft_var, if_neg (by omega)]
        exact nt0
    · refine wz_if_eq (t := 47) d42_18 (by decide) ⟨by omega, by omega⟩ (fun _ => ?_) (fun hb => absurd (by decide) hb)
      have eh : hd (lft k b t) = hd t := by rw [lft_hd ot, if_neg (by omega)]
      have ot' : ok (dd + b) (lft k b t) = true := by
        have := ok_lft k b t (dd - k) (by rw [show k + (dd - k) = dd by omega]; exact ot)
        rwa [show k + b + (dd - k) = dd + b by omega] at this
      have hpe : ∀ g, hp (lft k b t) g = hp t g := fun g => by unfold hp; rw [eh]
      have hpt : ∀ g, g < 3 → pt (lft k b t) g = lft k b (pt t g) := fun g hg => lft_pt ot (by omega) k b hg
      have fl := flat_pts ot
      have flen : (flat t).length = 1 + ((flat (pt t 0)).length + ((flat (pt t 1)).length + (flat (pt t 2)).length)) := by
        rw [fl, List.length_cons, List.length_append, List.length_append]; omega
      have l0 := iL 0 (by decide)
      have l1 := iL 1 (by decide)
      have l2 := iL 2 (by decide)
      have k3 : ∀ (M : pm_M) (Rf : Nat → Nat → Nat) (K L : Nat → Nat) (n s z : Nat) (cn : Int) (x y w : Int), LU M0 R0 K0 L0 n0 s0 z0 cn0 ((flat (pt t 0)).length + ((flat (pt t 1)).length + (flat (pt t 2)).length)) M Rf K L n s z cn → XF M Rf cn N (lft k b t) 0 x → XF M Rf cn N (lft k b t) 1 y → XF M Rf cn N (lft k b t) 2 w → pm_Wp none (d + (N + 1) + 4) 42 167 [some (.ref 6), some (.int (zI i)), some (.int (zI (k : Int))), some (.int (zI (b : Int))), some (.int (zI (deep : Int))), some (.int (zI x)), some (.int (zI y)), some (.int (zI w))] [] (zM M, Rf, K, L, n, s) Q := by
        intro M Rf K L n s z cn x y w us hx hy hw
        obtain ⟨cx, u1, u2, u3, u4⟩ := us
        refine wp_aload_n d42_167 rfl ?_
        refine wp_iload_n d42_168 rfl ?_
        refine wp_iload d42_169 rfl ?_
        refine wp_iload d42_171 rfl ?_
        refine wp_iload d42_173 rfl ?_
        refine wp_virt (as := [.int (zI w), .int (zI y), .int (zI x), .int (zI i)]) (rest := []) d42_175 rfl rfl rfl (cx.g.o (by decide) rfl) rfl rfl (Nat.le_of_ble_eq_true rfl) ?_
        refine c_remake (t := t) (t' := lft k b t) cx.g cx.r cx.r32 u1 u4 (by omega) (ndf_mono cx.nodes u2 (Nat.le_refl _) nt0) ot ot' (by omega) eh (by rw [lft_len]; omega) hx hy hw (fun M' Rf' K' L' n' s' z' cn' r cx' v1 v2 v3 v4 nd' => ?_)
        exact wp_ret d42_178 rfl (h M' Rf' K' L' n' s' z' cn' r (cx.trans cx' u2) v1 (by omega) (by omega) v4 nd')
      have k2 : ∀ (M : pm_M) (Rf : Nat → Nat → Nat) (K L : Nat → Nat) (n s z : Nat) (cn : Int) (x y : Int) , LU M0 R0 K0 L0 n0 s0 z0 cn0 ((flat (pt t 0)).length + (flat (pt t 1)).length) M Rf K L n s z cn → XF M Rf cn N (lft k b t) 0 x → XF M Rf cn N (lft k b t) 1 y → pm_Wp none (d + (N + 1) + 4) 42 127 [some (.ref 6), some (.int (zI i)), some (.int (zI (k : Int))), some (.int (zI (b : Int))), some (.int (zI (deep : Int))), some (.int (zI x)), some (.int (zI y)), none] [] (zM M, Rf, K, L, n, s) Q := by
        intro M Rf K L n s z cn x y us hx hy
        obtain ⟨cx, u1, u2, u3, u4⟩ := us
        have nn := cx.nodes
        refine wp_aload_n d42_127 rfl ?_
        refine wp_getR (q := Rf 6 0) d42_128 rfl (cx.g.o (by decide) rfl) (by decide) rfl (cx.r.1 0 (by decide)).1 ?_
        refine wp_iload_n d42_131 rfl ?_
        refine wz_iald (z := z) (v := (cc (hd t) : Int)) d42_132 (cx.r.1 0 (by decide)) i0 (by omega) (by have := cx.r.2.2.2.2; omega) (by rw [nn 0 (by decide) i i0 i1]; exact iC) ?_
        refine wz_iconst d42_133 ?_
        refine wp_stat (as := [.int (zI 2), .int (zI (cc (hd t) : Int))]) (rest := []) d42_134 rfl rfl rfl rfl rfl (Nat.le_of_ble_eq_true rfl) ?_
        refine c_holds (c := cc (hd t)) (i := 2) cS (by decide) (fun hb => ?_) (fun hb => ?_)
        · have hb : hp t 2 = true := hb
          obtain ⟨d1, hd0, hd1, o1⟩ := pt_ok2 ot (by decide) hb
          refine wz_if_eq (t := 159) d42_137 (by decide) ⟨by omega, by omega⟩ (fun hb => absurd hb (by decide)) (fun _ => ?_)
          refine wp_aload_n d42_140 rfl ?_
          refine wp_aload_n d42_141 rfl ?_
          refine wp_getR (q := Rf 6 3) d42_142 rfl (cx.g.o (by decide) rfl) (by decide) rfl (cx.r.1 3 (by decide)).1 ?_
          refine wp_iload_n d42_145 rfl ?_
          refine wz_iald (z := z) (v := M0 (R0 6 3) i) d42_146 (cx.r.1 3 (by decide)) i0 (by omega) (by have := cx.r.2.2.2.2; omega) (nn 3 (by decide) i i0 i1) ?_
          refine wp_iload_n d42_147 rfl ?_
          refine wp_iload_n d42_148 rfl ?_
          refine wp_iload d42_149 rfl ?_
          refine wz_iconst d42_151 ?_
          refine wz_iadd d42_152 ?_
          refine wp_virt (as := [.int (zI ((deep : Int) + 1)), .int (zI (b : Int)), .int (zI (k : Int)), .int (zI (M0 (R0 6 3) i))]) (rest := []) d42_153 rfl rfl rfl (cx.g.o (by decide) rfl) rfl rfl (Nat.le_of_ble_eq_true rfl) ?_
          refine c_lift N (pt t 2) (M0 (R0 6 3) i) k b d1 (deep + 1) M Rf K L n s z cn _ cx.g cx.r cx.r32 u1 (by omega) u4 (by omega) o1 (by omega) (by omega) (ndf_mono nn u2 (Nat.le_refl _) (iP 2 (by decide) hb)) (by omega) (fun M' Rf' K' L' n' s' z' cn' r cx' v1 v2 v3 v4 nd' => ?_)
          refine wp_goto (t := 165) d42_156 (by decide) ?_
          refine wp_istore d42_165 (Nat.le_of_ble_eq_true rfl) rfl ?_
          have rr : 0 ≤ r ∧ r < cn' := by
            match N, nd' with
            | N + 1, nd' => exact ⟨nd'.1.1, nd'.1.2.1⟩
          exact k3 M' Rf' K' L' n' s' z' cn' x y r ⟨cx.trans cx' u2, v1, by omega, by omega, v4⟩ (hx.mono cx'.nodes v2) (hy.mono cx'.nodes v2) ⟨rr.1, rr.2, fun _ => by rw [hpt 2 (by decide)]; exact nd'⟩
        · have hb : ¬ hp t 2 = true := hb
          refine wz_if_eq (t := 159) d42_137 (by decide) ⟨by omega, by omega⟩ (fun _ => ?_) (fun hb => absurd (by decide) hb)
          refine wp_aload_n d42_159 rfl ?_
          refine wp_getR (q := Rf 6 3) d42_160 rfl (cx.g.o (by decide) rfl) (by decide) rfl (cx.r.1 3 (by decide)).1 ?_
          refine wp_iload_n d42_163 rfl ?_
          refine wz_iald (z := z) (v := M0 (R0 6 3) i) d42_164 (cx.r.1 3 (by decide)) i0 (by omega) (by have := cx.r.2.2.2.2; omega) (nn 3 (by decide) i i0 i1) ?_
          refine wp_istore d42_165 (Nat.le_of_ble_eq_true rfl) rfl ?_
          exact k3 M Rf K L n s z cn x y _ ⟨cx, u1, u2, by omega, u4⟩ hx hy ⟨l2.1, (by have := l2.2; omega : M0 (R0 6 (1 + 2)) i < cn), fun hb' => by rw [hpe] at hb'; exact absurd hb' hb⟩
      have k1 : ∀ (M : pm_M) (Rf : Nat → Nat → Nat) (K L : Nat → Nat) (n s z : Nat) (cn : Int) (x : Int) , LU M0 R0 K0 L0 n0 s0 z0 cn0 (flat (pt t 0)).length M Rf K L n s z cn → XF M Rf cn N (lft k b t) 0 x → pm_Wp none (d + (N + 1) + 4) 42 87 [some (.ref 6), some (.int (zI i)), some (.int (zI (k : Int))), some (.int (zI (b : Int))), some (.int (zI (deep : Int))), some (.int (zI x)), none, none] [] (zM M, Rf, K, L, n, s) Q := by
        intro M Rf K L n s z cn x us hx
        obtain ⟨cx, u1, u2, u3, u4⟩ := us
        have nn := cx.nodes
        refine wp_aload_n d42_87 rfl ?_
        refine wp_getR (q := Rf 6 0) d42_88 rfl (cx.g.o (by decide) rfl) (by decide) rfl (cx.r.1 0 (by decide)).1 ?_
        refine wp_iload_n d42_91 rfl ?_
        refine wz_iald (z := z) (v := (cc (hd t) : Int)) d42_92 (cx.r.1 0 (by decide)) i0 (by omega) (by have := cx.r.2.2.2.2; omega) (by rw [nn 0 (by decide) i i0 i1]; exact iC) ?_
        refine wz_iconst d42_93 ?_
        refine wp_stat (as := [.int (zI 1), .int (zI (cc (hd t) : Int))]) (rest := []) d42_94 rfl rfl rfl rfl rfl (Nat.le_of_ble_eq_true rfl) ?_
        refine c_holds (c := cc (hd t)) (i := 1) cS (by decide) (fun hb => ?_) (fun hb => ?_)
        · have hb : hp t 1 = true := hb
          obtain ⟨d1, hd0, hd1, o1⟩ := pt_ok2 ot (by decide) hb
          refine wz_if_eq (t := 119) d42_97 (by decide) ⟨by omega, by omega⟩ (fun hb => absurd hb (by decide)) (fun _ => ?_)
          refine wp_aload_n d42_100 rfl ?_
          refine wp_aload_n d42_101 rfl ?_
          refine wp_getR (q := Rf 6 2) d42_102 rfl (cx.g.o (by decide) rfl) (by decide) rfl (cx.r.1 2 (by decide)).1 ?_
          refine wp_iload_n d42_105 rfl ?_
          refine wz_iald (z := z) (v := M0 (R0 6 2) i) d42_106 (cx.r.1 2 (by decide)) i0 (by omega) (by have := cx.r.2.2.2.2; omega) (nn 2 (by decide) i i0 i1) ?_
          refine wp_iload_n d42_107 rfl ?_
          refine wp_iload_n d42_108 rfl ?_
          refine wp_iload d42_109 rfl ?_
          refine wz_iconst d42_111 ?_
          refine wz_iadd d42_112 ?_
          refine wp_virt (as := [.int (zI ((deep : Int) + 1)), .int (zI (b : Int)), .int (zI (k : Int)), .int (zI (M0 (R0 6 2) i))]) (rest := []) d42_113 rfl rfl rfl (cx.g.o (by decide) rfl) rfl rfl (Nat.le_of_ble_eq_true rfl) ?_
          refine c_lift N (pt t 1) (M0 (R0 6 2) i) k b d1 (deep + 1) M Rf K L n s z cn _ cx.g cx.r cx.r32 u1 (by omega) u4 (by omega) o1 (by omega) (by omega) (ndf_mono nn u2 (Nat.le_refl _) (iP 1 (by decide) hb)) (by omega) (fun M' Rf' K' L' n' s' z' cn' r cx' v1 v2 v3 v4 nd' => ?_)
          refine wp_goto (t := 125) d42_116 (by decide) ?_
          refine wp_istore d42_125 (Nat.le_of_ble_eq_true rfl) rfl ?_
          have rr : 0 ≤ r ∧ r < cn' := by
            match N, nd' with
            | N + 1, nd' => exact ⟨nd'.1.1, nd'.1.2.1⟩
          exact k2 M' Rf' K' L' n' s' z' cn' x r ⟨cx.trans cx' u2, v1, by omega, by omega, v4⟩ (hx.mono cx'.nodes v2) ⟨rr.1, rr.2, fun _ => by rw [hpt 1 (by decide)]; exact nd'⟩
        · have hb : ¬ hp t 1 = true := hb
          refine wz_if_eq (t := 119) d42_97 (by decide) ⟨by omega, by omega⟩ (fun _ => ?_) (fun hb => absurd (by decide) hb)
          refine wp_aload_n d42_119 rfl ?_
          refine wp_getR (q := Rf 6 2) d42_120 rfl (cx.g.o (by decide) rfl) (by decide) rfl (cx.r.1 2 (by decide)).1 ?_
          refine wp_iload_n d42_123 rfl ?_
          refine wz_iald (z := z) (v := M0 (R0 6 2) i) d42_124 (cx.r.1 2 (by decide)) i0 (by omega) (by have := cx.r.2.2.2.2; omega) (nn 2 (by decide) i i0 i1) ?_
          refine wp_istore d42_125 (Nat.le_of_ble_eq_true rfl) rfl ?_
          exact k2 M Rf K L n s z cn x _ ⟨cx, u1, u2, by omega, u4⟩ hx ⟨l1.1, (by have := l1.2; omega : M0 (R0 6 (1 + 1)) i < cn), fun hb' => by rw [hpe] at hb'; exact absurd hb' hb⟩
      have k0 : ∀ (M : pm_M) (Rf : Nat → Nat → Nat) (K L : Nat → Nat) (n s z : Nat) (cn : Int) , LU M0 R0 K0 L0 n0 s0 z0 cn0 0 M Rf K L n s z cn → pm_Wp none (d + (N + 1) + 4) 42 47 [some (.ref 6), some (.int (zI i)), some (.int (zI (k : Int))), some (.int (zI (b : Int))), some (.int (zI (deep : Int))), none, none, none] [] (zM M, Rf, K, L, n, s) Q := by
        intro M Rf K L n s z cn  us 
        obtain ⟨cx, u1, u2, u3, u4⟩ := us
        have nn := cx.nodes
        refine wp_aload_n d42_47 rfl ?_
        refine wp_getR (q := Rf 6 0) d42_48 rfl (cx.g.o (by decide) rfl) (by decide) rfl (cx.r.1 0 (by decide)).1 ?_
        refine wp_iload_n d42_51 rfl ?_
        refine wz_iald (z := z) (v := (cc (hd t) : Int)) d42_52 (cx.r.1 0 (by decide)) i0 (by omega) (by have := cx.r.2.2.2.2; omega) (by rw [nn 0 (by decide) i i0 i1]; exact iC) ?_
        refine wz_iconst d42_53 ?_
        refine wp_stat (as := [.int (zI 0), .int (zI (cc (hd t) : Int))]) (rest := []) d42_54 rfl rfl rfl rfl rfl (Nat.le_of_ble_eq_true rfl) ?_
        refine c_holds (c := cc (hd t)) (i := 0) cS (by decide) (fun hb => ?_) (fun hb => ?_)
        · have hb : hp t 0 = true := hb
          obtain ⟨d1, hd0, hd1, o1⟩ := pt_ok2 ot (by decide) hb
          refine wz_if_eq (t := 79) d42_57 (by decide) ⟨by omega, by omega⟩ (fun hb => absurd hb (by decide)) (fun _ => ?_)
          refine wp_aload_n d42_60 rfl ?_
          refine wp_aload_n d42_61 rfl ?_
          refine wp_getR (q := Rf 6 1) d42_62 rfl (cx.g.o (by decide) rfl) (by decide) rfl (cx.r.1 1 (by decide)).1 ?_
          refine wp_iload_n d42_65 rfl ?_
          refine wz_iald (z := z) (v := M0 (R0 6 1) i) d42_66 (cx.r.1 1 (by decide)) i0 (by omega) (by have := cx.r.2.2.2.2; omega) (nn 1 (by decide) i i0 i1) ?_
          refine wp_iload_n d42_67 rfl ?_
          refine wp_iload_n d42_68 rfl ?_
          refine wp_iload d42_69 rfl ?_
          refine wz_iconst d42_71 ?_
          refine wz_iadd d42_72 ?_
          refine wp_virt (as := [.int (zI ((deep : Int) + 1)), .int (zI (b : Int)), .int (zI (k : Int)), .int (zI (M0 (R0 6 1) i))]) (rest := []) d42_73 rfl rfl rfl (cx.g.o (by decide) rfl) rfl rfl (Nat.le_of_ble_eq_true rfl) ?_
          refine c_lift N (pt t 0) (M0 (R0 6 1) i) k b d1 (deep + 1) M Rf K L n s z cn _ cx.g cx.r cx.r32 u1 (by omega) u4 (by omega) o1 (by omega) (by omega) (ndf_mono nn u2 (Nat.le_refl _) (iP 0 (by decide) hb)) (by omega) (fun M' Rf' K' L' n' s' z' cn' r cx' v1 v2 v3 v4 nd' => ?_)
          refine wp_goto (t := 85) d42_76 (by decide) ?_
          refine wp_istore d42_85 (Nat.le_of_ble_eq_true rfl) rfl ?_
          have rr : 0 ≤ r ∧ r < cn' := by
            match N, nd' with
            | N + 1, nd' => exact ⟨nd'.1.1, nd'.1.2.1⟩
          exact k1 M' Rf' K' L' n' s' z' cn'  r ⟨cx.trans cx' u2, v1, by omega, by omega, v4⟩  ⟨rr.1, rr.2, fun _ => by rw [hpt 0 (by decide)]; exact nd'⟩
        · have hb : ¬ hp t 0 = true := hb
          refine wz_if_eq (t := 79) d42_57 (by decide) ⟨by omega, by omega⟩ (fun _ => ?_) (fun hb => absurd (by decide) hb)
          refine wp_aload_n d42_79 rfl ?_
          refine wp_getR (q := Rf 6 1) d42_80 rfl (cx.g.o (by decide) rfl) (by decide) rfl (cx.r.1 1 (by decide)).1 ?_
          refine wp_iload_n d42_83 rfl ?_
          refine wz_iald (z := z) (v := M0 (R0 6 1) i) d42_84 (cx.r.1 1 (by decide)) i0 (by omega) (by have := cx.r.2.2.2.2; omega) (nn 1 (by decide) i i0 i1) ?_
          refine wp_istore d42_85 (Nat.le_of_ble_eq_true rfl) rfl ?_
          exact k1 M Rf K L n s z cn  _ ⟨cx, u1, u2, by omega, u4⟩  ⟨l0.1, (by have := l0.2; omega : M0 (R0 6 (1 + 0)) i < cn), fun hb' => by rw [hpe] at hb'; exact absurd hb' hb⟩
      exact k0 M0 R0 K0 L0 n0 s0 z0 cn0 ⟨CX.refl hG0 hR0 hM0, hcn, Int.le_refl _, by omega, cz⟩
end PmC9
