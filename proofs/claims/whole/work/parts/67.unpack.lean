/-! THE CLASS: unpack. -/
def WU (kp : Nat) (p : Nat) (i : Int) : Prop := (p = 6 ∧ i = 6) ∨ (p = kp ∧ i = 2)
/-- so many nodes were made, and so many codes read -/
def US (kp : Nat) (M0 : pm_M) (R0 : Nat → Nat → Nat) (K0 L0 : Nat → Nat) (n0 s0 z0 : Nat) (cn0 j : Int) (acc : Nat) (M : pm_M) (Rf : Nat → Nat → Nat) (K L : Nat → Nat) (n s z : Nat) : Prop := CX (WU kp) M0 R0 K0 L0 n0 s0 z0 cn0 M Rf K L n s z ∧ M 6 6 = cn0 + acc ∧ M kp 2 = j + 1 + acc ∧ cn0 + acc ≤ z
/-- that part of the type, if it is there, is this node -/
def XF (M : pm_M) (Rf : Nat → Nat → Nat) (cn : Int) (N : Nat) (t : Ty) (g : Nat) (x : Int) : Prop := 0 ≤ x ∧ x < cn ∧ (hp t g = true → ndf M Rf cn N (pt t g) x)
theorem XF.mono {M M' : pm_M} {Rf Rf' : Nat → Nat → Nat} {cn cn' : Int} {N : Nat} {t : Ty} {g : Nat} {x : Int} (h : XF M Rf cn N t g x) (e : ∀ g, g < 5 → ∀ i : Int, 0 ≤ i → i < cn → M' (Rf' 6 g) i = M (Rf 6 g) i) (hc : cn ≤ cn') : XF M' Rf' cn' N t g x :=
  ⟨h.1, by have := h.2.1; omega, fun hb => ndf_mono e hc (Nat.le_refl _) (h.2.2 hb)⟩
theorem XF.size {M : pm_M} {Rf : Nat → Nat → Nat} {cn : Int} {N : Nat} {t : Ty} {g d : Nat} {x : Int} (ot : ok d t = true) (hg : g < 3) (h : XF M Rf cn N t g x) : psz M Rf (cc (hd t)) g x = ((flat (pt t g)).length : Int) := by
  unfold psz
  by_cases hb : hp t g = true
  · have hb' : bit (cc (hd t)) g = true := hb
    rw [if_pos hb']
    have := h.2.2 hb
    match N, this with
    | N + 1, this => exact this.1.2.2.2.1
  · have hb' : ¬ bit (cc (hd t)) g = true := hb
    rw [if_neg hb', pt_none ot hg hb]; rfl
/-- a node over three nodes -/
theorem MK.ndf {M : pm_M} {Rf : Nat → Nat → Nat} {K L : Nat → Nat} {n s z N d : Nat} {cn x y w : Int} {t : Ty} {M' : pm_M} {Rf' : Nat → Nat → Nat} {K' L' : Nat → Nat} {n' s' z' : Nat} (ot : ok d t = true) (c0 : 0 ≤ cn) (h : MK M Rf K L n s z (cc (hd t)) cn x y w M' Rf' K' L' n' s' z') (hx : XF M Rf cn N t 0 x) (hy : XF M Rf cn N t 1 y) (hw : XF M Rf cn N t 2 w) : ndf M' Rf' (cn + 1) (N + 1) t cn := by
  have nds := h.cx.nodes
  obtain ⟨-, -, -, e0, e1, e2, e3, e4, -⟩ := h
  rw [hx.size ot (by decide), hy.size ot (by decide), hw.size ot (by decide)] at e4
  have fl := flat_pts ot
  have hx' := hx.mono nds (cn' := cn + 1) (by omega)
  have hy' := hy.mono nds (cn' := cn + 1) (by omega)
  have hw' := hw.mono nds (cn' := cn + 1) (by omega)
  refine ⟨⟨c0, by omega, e0, ?_, fun g hg => ?_⟩, fun g hg hb => ?_⟩
  · rw [e4, fl, List.length_cons, List.length_append, List.length_append]; omega
  · rcases (show g = 0 ∨ g = 1 ∨ g = 2 by omega) with rfl | rfl | rfl
    · rw [show (1 + 0 : Nat) = 1 from rfl, e1]; exact ⟨hx'.1, hx'.2.1⟩
    · rw [show (1 + 1 : Nat) = 2 from rfl, e2]; exact ⟨hy'.1, hy'.2.1⟩
    · rw [show (1 + 2 : Nat) = 3 from rfl, e3]; exact ⟨hw'.1, hw'.2.1⟩
  · rcases (show g = 0 ∨ g = 1 ∨ g = 2 by omega) with rfl | rfl | rfl
    · rw [show (1 + 0 : Nat) = 1 from rfl, e1]; exact hx'.2.2 hb
    · rw [show (1 + 1 : Nat) = 2 from rfl, e2]; exact hy'.2.2 hb
    · rw [show (1 + 2 : Nat) = 3 from rfl, e3]; exact hw'.2.2 hb
section PmC6
variable {d : Nat}
set_option maxRecDepth 20000 in
set_option maxHeartbeats 2000000 in
theorem c_unpackN {kp kc : Nat} (ko : KO kp kc) : ∀ (N : Nat) (t : Ty) (deep dd : Nat) (j cnt : Int) (M0 : pm_M) (R0 : Nat → Nat → Nat) (K0 L0 : Nat → Nat) (n0 s0 z0 : Nat) (cn0 : Int) (Q : Option Value → pm_S → Prop), pm_G R0 K0 L0 n0 → RmI R0 K0 L0 n0 z0 → (∀ p i, R32 (M0 p i)) → M0 6 6 = cn0 → 1 ≤ cn0 → cn0 ≤ z0 → cn0 + (flat t).length ≤ 16384 → ok dd t = true → dd + N ≤ 3000 → (flat t).length ≤ N → deep + N ≤ 40 → M0 kp 2 = j → M0 kp 1 = cnt → 0 ≤ j → j + (flat t).length ≤ cnt → cnt ≤ 16 → KC M0 kc j (flat t) → (∀ (M : pm_M) (Rf : Nat → Nat → Nat) (K L : Nat → Nat) (n s z : Nat), CX (WU kp) M0 R0 K0 L0 n0 s0 z0 cn0 M Rf K L n s z → M 6 6 = cn0 + (flat t).length → M kp 2 = j + (flat t).length → cn0 + (flat t).length ≤ z → ndf M Rf (cn0 + (flat t).length) N t (cn0 + (flat t).length - 1) → Q (some (.int (zI (cn0 + (flat t).length - 1)))) (zM M, Rf, K, L, n, s)) → pm_Wc (d + N + 4) 40 [.ref 6, .ref kp, .int (zI (deep : Int))] (zM M0, R0, K0, L0, n0, s0) Q
  | 0, t, _, _, _, _, _, _, _, _, _, _, _, _, _, _, _, _, _, _, _, _, ot, _, hl, _, _, _, _, _, _, _, _ => by
    have := flat_pos ot
    omega
  | N + 1, t, deep, dd, j, cnt, M0, R0, K0, L0, n0, s0, z0, cn0, Q, hG0, hR0, hM0, hcn, c1, cz, c2, ot, hdd, hl, hdeep, hj, hcnt, j0, j1, cnt1, kcs, h => by
    have hn0 := hG0.1
    have hkp := ko.1
    have hkc := ko.2.1
    have hkp6 := ko.2.2.2.2.2.2.1
    have hkc6 := ko.2.2.2.2.2.2.2.1
    have hpc := ko.2.2.2.2.2.2.2.2
    have far0 := ko.far hR0
    have fl := flat_pts ot
    have flen : (flat t).length = 1 + ((flat (pt t 0)).length + ((flat (pt t 1)).length + (flat (pt t 2)).length)) := by
      rw [fl, List.length_cons, List.length_append, List.length_append]; omega
    rw [fl] at kcs
    obtain ⟨kc0, kcr⟩ := kcs
    have kc1 := KC.app.mp kcr
    have kc2 := KC.app.mp kc1.2
    have cS := cc_small ot (by omega)
    have e0 : M0 kc j = (cc (hd t) : Int) := by rw [kc0]; unfold ccI; rw [Int.toNat_natCast]
    -- what the codes and the count are in every later state
    have kept : ∀ (M : pm_M) (Rf : Nat → Nat → Nat) (K L : Nat → Nat) (n s z : Nat), CX (WU kp) M0 R0 K0 L0 n0 s0 z0 cn0 M Rf K L n s z → (∀ i, M kc i = M0 kc i) ∧ M kp 1 = cnt := by
      intro M Rf K L n s z cx
      refine ⟨fun i => cx.mem kc (by omega) far0.2 i (by unfold WU; omega), ?_⟩
      rw [cx.mem kp (by omega) far0.1 1 (by unfold WU; omega)]; exact hcnt
    have k3 : ∀ (M : pm_M) (Rf : Nat → Nat → Nat) (K L : Nat → Nat) (n s z : Nat) (x y w : Int), US kp M0 R0 K0 L0 n0 s0 z0 cn0 j ((flat (pt t 0)).length + ((flat (pt t 1)).length + (flat (pt t 2)).length)) M Rf K L n s z → XF M Rf (cn0 + ((flat (pt t 0)).length + ((flat (pt t 1)).length + (flat (pt t 2)).length) : Nat)) N t 0 x → XF M Rf (cn0 + ((flat (pt t 0)).length + ((flat (pt t 1)).length + (flat (pt t 2)).length) : Nat)) N t 1 y → XF M Rf (cn0 + ((flat (pt t 0)).length + ((flat (pt t 1)).length + (flat (pt t 2)).length) : Nat)) N t 2 w → pm_Wp none (d + (N + 1) + 3) 40 105 [some (.ref 6), some (.ref kp), some (.int (zI (deep : Int))), some (.int (zI (cc (hd t) : Int))), some (.int (zI x)), some (.int (zI y)), some (.int (zI w))] [] (zM M, Rf, K, L, n, s) Q := by
      intro M Rf K L n s z x y w us hx hy hw
      obtain ⟨cx, u1, u2, u3⟩ := us
      refine wp_aload_n d40_105 rfl ?_
      refine wp_iload_n d40_106 rfl ?_
      refine wp_iload d40_107 rfl ?_
      refine wp_iload d40_109 rfl ?_
      refine wp_iload d40_111 rfl ?_
      refine wp_virt (as := [.int (zI w), .int (zI y), .int (zI x), .int (zI (cc (hd t) : Int))]) (rest := []) d40_113 rfl rfl rfl (cx.g.o (by decide) rfl) rfl rfl (Nat.le_of_ble_eq_true rfl) ?_
      have q0 := hx.size ot (by decide)
      have q1 := hy.size ot (by decide)
      have q2 := hw.size ot (by decide)
      refine c_make cx.g cx.r cx.r32 u1 u3 (by omega) cS hx.1 hx.2.1 hy.1 hy.2.1 hw.1 hw.2.1 (by rw [q0]; omega) (by rw [q1]; omega) (by rw [q2]; omega) (fun M' Rf' K' L' n' s' z' mk => ?_)
      have nd' := mk.ndf ot (by omega) hx hy hw
      have mcx := mk.cx
      have far := ko.far cx.r
      have hnn := cx.2.2.1
      have kp2 : M' kp 2 = M kp 2 := mcx.mem kp (by omega) far.1 2 (by omega)
      obtain ⟨-, m6, mz, -⟩ := mk
      refine wp_ret d40_116 rfl ?_
      have e : cn0 + ((flat (pt t 0)).length + ((flat (pt t 1)).length + (flat (pt t 2)).length) : Nat) = cn0 + (flat t).length - 1 := by rw [flen]; omega
      have e' : cn0 + (flat t).length - 1 + 1 = cn0 + (flat t).length := by omega
      rw [e, e'] at nd'
      rw [e] at m6 mz ⊢
      exact h M' Rf' K' L' n' s' z' (cx.trans (mcx.weak (fun p i hw => Or.inl hw)) (by omega)) (by omega) (by rw [kp2, u2, flen]; omega) (by omega) nd'
    have k2 : ∀ (M : pm_M) (Rf : Nat → Nat → Nat) (K L : Nat → Nat) (n s z : Nat) (x y : Int) , US kp M0 R0 K0 L0 n0 s0 z0 cn0 j ((flat (pt t 0)).length + (flat (pt t 1)).length) M Rf K L n s z → XF M Rf (cn0 + ((flat (pt t 0)).length + (flat (pt t 1)).length : Nat)) N t 0 x → XF M Rf (cn0 + ((flat (pt t 0)).length + (flat (pt t 1)).length : Nat)) N t 1 y → pm_Wp none (d + (N + 1) + 3) 40 83 [some (.ref 6), some (.ref kp), some (.int (zI (deep : Int))), some (.int (zI (cc (hd t) : Int))), some (.int (zI x)), some (.int (zI y)), none] [] (zM M, Rf, K, L, n, s) Q := by
      intro M Rf K L n s z x y us hx hy
      obtain ⟨cx, u1, u2, u3⟩ := us
      obtain ⟨kk, kq⟩ := kept M Rf K L n s z cx
      refine wp_iload_n d40_83 rfl ?_
      refine wz_iconst d40_84 ?_
      refine wp_stat (as := [.int (zI 2), .int (zI (cc (hd t) : Int))]) (rest := []) d40_85 rfl rfl rfl rfl rfl (Nat.le_of_ble_eq_true rfl) ?_
      refine c_holds (c := cc (hd t)) (i := 2) cS (by decide) (fun hb => ?_) (fun hb => ?_)
      · have hb : hp t 2 = true := hb
        obtain ⟨d1, hd1, o1⟩ := pt_ok ot (by decide) hb
        have fp := flat_pos o1
        refine wz_if_eq (t := 102) d40_88 (by decide) ⟨by omega, by omega⟩ (fun hb => absurd hb (by decide)) (fun _ => ?_)
        refine wp_aload_n d40_91 rfl ?_
        refine wp_aload_n d40_92 rfl ?_
        refine wp_iload_n d40_93 rfl ?_
        refine wz_iconst d40_94 ?_
        refine wz_iadd d40_95 ?_
        refine wp_virt (as := [.int (zI ((deep : Int) + 1)), .ref kp]) (rest := []) d40_96 rfl rfl rfl (cx.g.o (by decide) rfl) (by simp [pm_vc]) rfl (Nat.le_of_ble_eq_true rfl) ?_
        refine c_unpackN ko N (pt t 2) (deep + 1) d1 (j + 1 + ((flat (pt t 0)).length + (flat (pt t 1)).length : Nat)) cnt M Rf K L n s z (cn0 + ((flat (pt t 0)).length + (flat (pt t 1)).length : Nat)) _ cx.g cx.r cx.r32 u1 (by omega) u3 (by omega) o1 (by omega) (by omega) (by omega) u2 kq (by omega) (by omega) cnt1 (KC.same kk (by have q := kc2.2; rw [Int.add_assoc (j + 1)] at q; simpa using q)) (fun M' Rf' K' L' n' s' z' cx' v1 v2 v3 nd' => ?_)
        refine wp_goto (t := 103) d40_99 (by decide) ?_
        refine wp_istore d40_103 (Nat.le_of_ble_eq_true rfl) rfl ?_
        have ee : cn0 + ((flat (pt t 0)).length + (flat (pt t 1)).length : Nat) + ((flat (pt t 2)).length : Nat) = cn0 + ((flat (pt t 0)).length + ((flat (pt t 1)).length + (flat (pt t 2)).length) : Nat) := by omega
        rw [ee] at v1 v3 nd'
        have hxn : XF M' Rf' (cn0 + ((flat (pt t 0)).length + ((flat (pt t 1)).length + (flat (pt t 2)).length) : Nat)) N t 2 (cn0 + ((flat (pt t 0)).length + ((flat (pt t 1)).length + (flat (pt t 2)).length) : Nat) - 1) := ⟨by omega, by omega, fun _ => nd'⟩
        rw [ee]
        exact k3 M' Rf' K' L' n' s' z' x y _ ⟨cx.trans cx' (by omega), v1, by rw [v2]; omega, v3⟩ (hx.mono cx'.nodes (by omega)) (hy.mono cx'.nodes (by omega)) hxn
      · have hb : ¬ hp t 2 = true := hb
        have ln : (flat (pt t 2)).length = 0 := by rw [pt_none ot (by decide) hb]; rfl
        refine wz_if_eq (t := 102) d40_88 (by decide) ⟨by omega, by omega⟩ (fun _ => ?_) (fun hb => absurd (by decide) hb)
        refine wz_iconst d40_102 ?_
        refine wp_istore d40_103 (Nat.le_of_ble_eq_true rfl) rfl ?_
        have ee : cn0 + ((flat (pt t 0)).length + (flat (pt t 1)).length : Nat) = cn0 + ((flat (pt t 0)).length + ((flat (pt t 1)).length + (flat (pt t 2)).length) : Nat) := by omega
        rw [ee] at hx hy
        exact k3 M Rf K L n s z x y 0 ⟨cx, by omega, by omega, by omega⟩ hx hy ⟨Int.le_refl _, by omega, fun hb' => absurd hb' hb⟩
    have k1 : ∀ (M : pm_M) (Rf : Nat → Nat → Nat) (K L : Nat → Nat) (n s z : Nat) (x : Int) , US kp M0 R0 K0 L0 n0 s0 z0 cn0 j (flat (pt t 0)).length M Rf K L n s z → XF M Rf (cn0 + ((flat (pt t 0)).length)) N t 0 x → pm_Wp none (d + (N + 1) + 3) 40 61 [some (.ref 6), some (.ref kp), some (.int (zI (deep : Int))), some (.int (zI (cc (hd t) : Int))), some (.int (zI x)), none, none] [] (zM M, Rf, K, L, n, s) Q := by
      intro M Rf K L n s z x us hx
      obtain ⟨cx, u1, u2, u3⟩ := us
      obtain ⟨kk, kq⟩ := kept M Rf K L n s z cx
      refine wp_iload_n d40_61 rfl ?_
      refine wz_iconst d40_62 ?_
      refine wp_stat (as := [.int (zI 1), .int (zI (cc (hd t) : Int))]) (rest := []) d40_63 rfl rfl rfl rfl rfl (Nat.le_of_ble_eq_true rfl) ?_
      refine c_holds (c := cc (hd t)) (i := 1) cS (by decide) (fun hb => ?_) (fun hb => ?_)
      · have hb : hp t 1 = true := hb
        obtain ⟨d1, hd1, o1⟩ := pt_ok ot (by decide) hb
        have fp := flat_pos o1
        refine wz_if_eq (t := 80) d40_66 (by decide) ⟨by omega, by omega⟩ (fun hb => absurd hb (by decide)) (fun _ => ?_)
        refine wp_aload_n d40_69 rfl ?_
        refine wp_aload_n d40_70 rfl ?_
        refine wp_iload_n d40_71 rfl ?_
        refine wz_iconst d40_72 ?_
        refine wz_iadd d40_73 ?_
        refine wp_virt (as := [.int (zI ((deep : Int) + 1)), .ref kp]) (rest := []) d40_74 rfl rfl rfl (cx.g.o (by decide) rfl) (by simp [pm_vc]) rfl (Nat.le_of_ble_eq_true rfl) ?_
        refine c_unpackN ko N (pt t 1) (deep + 1) d1 (j + 1 + ((flat (pt t 0)).length)) cnt M Rf K L n s z (cn0 + ((flat (pt t 0)).length)) _ cx.g cx.r cx.r32 u1 (by omega) u3 (by omega) o1 (by omega) (by omega) (by omega) u2 kq (by omega) (by omega) cnt1 (KC.same kk (by have q := kc2.1; simpa using q)) (fun M' Rf' K' L' n' s' z' cx' v1 v2 v3 nd' => ?_)
        refine wp_goto (t := 81) d40_77 (by decide) ?_
        refine wp_istore d40_81 (Nat.le_of_ble_eq_true rfl) rfl ?_
        have ee : cn0 + ((flat (pt t 0)).length) + ((flat (pt t 1)).length : Nat) = cn0 + ((flat (pt t 0)).length + (flat (pt t 1)).length : Nat) := by omega
        rw [ee] at v1 v3 nd'
        have hxn : XF M' Rf' (cn0 + ((flat (pt t 0)).length + (flat (pt t 1)).length : Nat)) N t 1 (cn0 + ((flat (pt t 0)).length + (flat (pt t 1)).length : Nat) - 1) := ⟨by omega, by omega, fun _ => nd'⟩
        rw [ee]
        exact k2 M' Rf' K' L' n' s' z' x _ ⟨cx.trans cx' (by omega), v1, by rw [v2]; omega, v3⟩ (hx.mono cx'.nodes (by omega)) hxn
      · have hb : ¬ hp t 1 = true := hb
        have ln : (flat (pt t 1)).length = 0 := by rw [pt_none ot (by decide) hb]; rfl
        refine wz_if_eq (t := 80) d40_66 (by decide) ⟨by omega, by omega⟩ (fun _ => ?_) (fun hb => absurd (by decide) hb)
        refine wz_iconst d40_80 ?_
        refine wp_istore d40_81 (Nat.le_of_ble_eq_true rfl) rfl ?_
        have ee : cn0 + ((flat (pt t 0)).length) = cn0 + ((flat (pt t 0)).length + (flat (pt t 1)).length : Nat) := by omega
        rw [ee] at hx
        exact k2 M Rf K L n s z x 0 ⟨cx, by omega, by omega, by omega⟩ hx ⟨Int.le_refl _, by omega, fun hb' => absurd hb' hb⟩
    have k0 : ∀ (M : pm_M) (Rf : Nat → Nat → Nat) (K L : Nat → Nat) (n s z : Nat) , US kp M0 R0 K0 L0 n0 s0 z0 cn0 j 0 M Rf K L n s z → pm_Wp none (d + (N + 1) + 3) 40 39 [some (.ref 6), some (.ref kp), some (.int (zI (deep : Int))), some (.int (zI (cc (hd t) : Int))), none, none, none] [] (zM M, Rf, K, L, n, s) Q := by
      intro M Rf K L n s z  us 
      obtain ⟨cx, u1, u2, u3⟩ := us
      obtain ⟨kk, kq⟩ := kept M Rf K L n s z cx
      refine wp_iload_n d40_39 rfl ?_
      refine wz_iconst d40_40 ?_
      refine wp_stat (as := [.int (zI 0), .int (zI (cc (hd t) : Int))]) (rest := []) d40_41 rfl rfl rfl rfl rfl (Nat.le_of_ble_eq_true rfl) ?_
      refine c_holds (c := cc (hd t)) (i := 0) cS (by decide) (fun hb => ?_) (fun hb => ?_)
      · have hb : hp t 0 = true := hb
        obtain ⟨d1, hd1, o1⟩ := pt_ok ot (by decide) hb
        have fp := flat_pos o1
        refine wz_if_eq (t := 58) d40_44 (by decide) ⟨by omega, by omega⟩ (fun hb => absurd hb (by decide)) (fun _ => ?_)
        refine wp_aload_n d40_47 rfl ?_
        refine wp_aload_n d40_48 rfl ?_
        refine wp_iload_n d40_49 rfl ?_
        refine wz_iconst d40_50 ?_
        refine wz_iadd d40_51 ?_
        refine wp_virt (as := [.int (zI ((deep : Int) + 1)), .ref kp]) (rest := []) d40_52 rfl rfl rfl (cx.g.o (by decide) rfl) (by simp [pm_vc]) rfl (Nat.le_of_ble_eq_true rfl) ?_
        refine c_unpackN ko N (pt t 0) (deep + 1) d1 (j + 1 + (0 : Nat)) cnt M Rf K L n s z (cn0 + (0 : Nat)) _ cx.g cx.r cx.r32 u1 (by omega) u3 (by omega) o1 (by omega) (by omega) (by omega) u2 kq (by omega) (by omega) cnt1 (KC.same kk (by have q := kc1.1; simpa using q)) (fun M' Rf' K' L' n' s' z' cx' v1 v2 v3 nd' => ?_)
        refine wp_goto (t := 59) d40_55 (by decide) ?_
        refine wp_istore d40_59 (Nat.le_of_ble_eq_true rfl) rfl ?_
        have ee : cn0 + (0 : Nat) + ((flat (pt t 0)).length : Nat) = cn0 + ((flat (pt t 0)).length) := by omega
        rw [ee] at v1 v3 nd'
        have hxn : XF M' Rf' (cn0 + ((flat (pt t 0)).length)) N t 0 (cn0 + ((flat (pt t 0)).length) - 1) := ⟨by omega, by omega, fun _ => nd'⟩
        rw [ee]
        exact k1 M' Rf' K' L' n' s' z'  _ ⟨cx.trans cx' (by omega), v1, by rw [v2]; omega, v3⟩  hxn
      · have hb : ¬ hp t 0 = true := hb
        have ln : (flat (pt t 0)).length = 0 := by rw [pt_none ot (by decide) hb]; rfl
        refine wz_if_eq (t := 58) d40_44 (by decide) ⟨by omega, by omega⟩ (fun _ => ?_) (fun hb => absurd (by decide) hb)
        refine wz_iconst d40_58 ?_
        refine wp_istore d40_59 (Nat.le_of_ble_eq_true rfl) rfl ?_
        have ee : cn0 + (0 : Nat) = cn0 + ((flat (pt t 0)).length) := by omega
        skip
        exact k1 M Rf K L n s z  0 ⟨cx, by omega, by omega, by omega⟩  ⟨Int.le_refl _, by omega, fun hb' => absurd hb' hb⟩
    refine wc_in (ls0 := [some (.ref 6), some (.ref kp), some (.int (zI (deep : Int))), none, none, none, none]) (by decide) (Nat.le_of_ble_eq_true rfl) (by simp [pm_vc]) rfl ?_
    refine wp_iload_n d40_0 rfl ?_
    refine wz_bipush d40_1 (by decide) ?_
    refine wz_icmp_ge (t := 17) d40_3 (by decide) ⟨by omega, by omega⟩ ⟨by omega, by omega⟩ (fun hb => absurd hb (by omega)) (fun _ => ?_)
    refine wp_aload_n d40_6 rfl ?_
    refine wz_getI (v := j) d40_7 rfl (hG0.o hkp ko.2.2.1) (by decide) hj ?_
    refine wp_aload_n d40_10 rfl ?_
    refine wz_getI (v := cnt) d40_11 rfl (hG0.o hkp ko.2.2.1) (by decide) hcnt ?_
    refine wz_icmp_lt (t := 19) d40_14 (by decide) ⟨by omega, by omega⟩ ⟨by omega, by omega⟩ (fun _ => ?_) (fun hb => absurd (by omega) hb)
    refine wp_aload_n d40_19 rfl ?_
    refine wp_getR (q := kc) d40_20 rfl (hG0.o hkp ko.2.2.1) (by decide) (hG0.r ko.2.2.2.2.2.1) hkc.1 ?_
    refine wp_aload_n d40_23 rfl ?_
    refine wz_getI (v := j) d40_24 rfl (hG0.o hkp ko.2.2.1) (by decide) hj ?_
    refine wz_iald (z := 16) (v := (cc (hd t) : Int)) d40_27 (hG0.a hkc ko.2.2.2.1 ko.2.2.2.2.1) j0 (by omega) (by decide) e0 ?_
    refine wp_istore_n d40_28 (Nat.le_of_ble_eq_true rfl) rfl ?_
    refine wp_aload_n d40_29 rfl ?_
    refine wp_dupr d40_30 ?_
    refine wz_getI (v := j) d40_31 rfl (hG0.o hkp ko.2.2.1) (by decide) hj ?_
    refine wz_iconst d40_34 ?_
    refine wz_iadd d40_35 ?_
    refine wz_putI (i := 2) d40_36 rfl (hG0.o hkp ko.2.2.1) rfl (by decide) rfl ?_
    refine k0 (mset M0 kp 2 (j + 1)) R0 K0 L0 n0 s0 z0 ⟨(CX.refl hG0 hR0 hM0).set far0.1 (Or.inr ⟨rfl, rfl⟩) ⟨by omega, by omega⟩, ?_, ?_, ?_⟩
    · rw [mset_p _ _ _ _ (by omega), hcn]; simp
    · rw [mset_s]; simp
    · show cn0 + ((0 : Nat) : Int) ≤ (z0 : Int)
      omega
end PmC6
