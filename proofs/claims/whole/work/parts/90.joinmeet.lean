/-! THE CLASS: join, meet. -/
/-- what join and meet answer, and the slots behind them -/
def cmA : Rs → Int
  | none => 0
  | some none => -3
  | some (some R) => ((flat R).length : Int)
def cmT (T : Int → Option Ty) (k : Int) : Rs → Int → Option Ty
  | none => T
  | some none => T
  | some (some R) => slu T k R
/-- what the class's calls on types may write besides the rows, slots and all -/
def WC2 (p : Nat) (i : Int) : Prop := (p = 6 ∧ i = 6) ∨ p = 12 ∨ (p = 4 ∧ i = 2) ∨ (30 ≤ p ∧ p ≤ 37)
theorem CX.chg {W : Nat → Int → Prop} {M : pm_M} {Rf : Nat → Nat → Nat} {K L : Nat → Nat} {n s z : Nat} {cn : Int} {M' M'' : pm_M} {Rf' : Nat → Nat → Nat} {K' L' : Nat → Nat} {n' s' z' : Nat} (h : CX W M Rf K L n s z cn M' Rf' K' L' n' s' z') (e : ∀ p i, ¬ W p i → M'' p i = M' p i) (hw : ∀ p i, W p i → ∀ g, g < 5 → p ≠ Rf' 6 g) (h32 : ∀ p i, R32 (M'' p i)) : CX W M Rf K L n s z cn M'' Rf' K' L' n' s' z' := by
  obtain ⟨h1, h2, h3, h4, h5, h6, h7, h8, h9, h10, h11, h12⟩ := h
  refine ⟨h1, h2, h3, h4, h5, h6, h7, h8, h9, fun p hp hg i hi => ?_, fun g hg i i0 i1 => ?_, h32⟩
  · rw [e p i hi]; exact h10 p hp hg i hi
  · rw [e _ i (fun w => hw _ _ w g hg rfl)]; exact h11 g hg i i0 i1
theorem SLC.upd {M M' : pm_M} {T : Int → Option Ty} {k : Nat} {R : Ty} (h : SLC M T) (hk : k < 4) (e1 : ∀ (p : Nat) (i : Int), ¬ (p = 30 + 2 * k ∧ i = 1) → p ≠ 31 + 2 * k → M' p i = M p i) (e2 : KTY M' (30 + 2 * k) (31 + 2 * k) R) : SLC M' (slu T k R) := by
  intro i hi
  unfold slu
  by_cases e : i = k
  · subst e
    rw [if_pos rfl]
    exact e2
  · rw [if_neg (by omega)]
    have := h i hi
    cases et : T (i : Int) with
    | none =>
      rw [et] at this
      show M' (30 + 2 * i) 1 = 0
      rw [e1 _ _ (by omega) (by omega)]; exact this
    | some t =>
      rw [et] at this
      exact KTY.same this (e1 _ _ (by omega) (by omega)) (fun j => e1 _ _ (by omega) (by omega))
section PmC22
variable {d : Nat} {Q : Option Value → pm_S → Prop} {M : pm_M} {Rf : Nat → Nat → Nat} {K L : Nat → Nat} {n s : Nat}
set_option maxRecDepth 20000 in
set_option maxHeartbeats 2000000 in
theorem c_joinOp {z : Nat} {i j k : Int} {T : Int → Option Ty} (hG : pm_G Rf K L n) (hR : RmI Rf K L n z) (hM : ∀ p i, R32 (M p i)) (nt : ndf M Rf 1 1 tTop 0) (ri : R32 i) (rj : R32 j) (rk : R32 k) (hT : SLC M T) (h2 : sl T i = none ∨ sl T j = none ∨ ¬ (0 ≤ k ∧ k ≤ 3) → Q (some (.int (zI (-2)))) (zM M, Rf, K, L, n, s)) (h1 : ∀ A B, sl T i = some A → sl T j = some B → 0 ≤ k → k ≤ 3 → ∀ (M' : pm_M) (Rf' : Nat → Nat → Nat) (K' L' : Nat → Nat) (n' s' z' : Nat), CX WC2 M Rf K L n s z 1 M' Rf' K' L' n' s' z' → SLC M' (cmT T k (cmv 0 [] A B)) → Q (some (.int (zI (cmA (cmv 0 [] A B))))) (zM M', Rf', K', L', n', s')) : pm_Wc (d + 260) 6 [.ref 1, .int (zI i), .int (zI j), .int (zI k)] (zM M, Rf, K, L, n, s) Q := by
  have hn := hG.1
  refine wc_in (ls0 := [some (.ref 1), some (.int (zI i)), some (.int (zI j)), some (.int (zI k)), none, none]) (by decide) (Nat.le_of_ble_eq_true rfl) rfl rfl ?_
  refine wp_aload_n d6_0 rfl ?_
  refine wp_iload_n d6_1 rfl ?_
  refine wp_virt (as := [.int (zI i)]) (rest := []) d6_2 rfl rfl rfl (hG.o (by decide) rfl) rfl rfl (Nat.le_of_ble_eq_true rfl) ?_
  refine c_hasType hG hM ri hT (fun A eA => ?_) (fun e => ?_)
  rotate_left
  · refine wz_if_eq (t := 23) d6_5 (by decide) ⟨by omega, by omega⟩ (fun _ => ?_) (fun hb => absurd (by decide) hb)
    refine wz_bipush d6_23 (by decide) ?_
    exact wp_ret d6_25 rfl (h2 (Or.inl e))
  refine wz_if_eq (t := 23) d6_5 (by decide) ⟨by omega, by omega⟩ (fun hb => absurd hb (by decide)) (fun _ => ?_)
  refine wp_aload_n d6_8 rfl ?_
  refine wp_iload_n d6_9 rfl ?_
  refine wp_virt (as := [.int (zI j)]) (rest := []) d6_10 rfl rfl rfl (hG.o (by decide) rfl) rfl rfl (Nat.le_of_ble_eq_true rfl) ?_
  refine c_hasType hG hM rj hT (fun B eB => ?_) (fun e => ?_)
  rotate_left
  · refine wz_if_eq (t := 23) d6_13 (by decide) ⟨by omega, by omega⟩ (fun _ => ?_) (fun hb => absurd (by decide) hb)
    refine wz_bipush d6_23 (by decide) ?_
    exact wp_ret d6_25 rfl (h2 (Or.inr (Or.inl e)))
  refine wz_if_eq (t := 23) d6_13 (by decide) ⟨by omega, by omega⟩ (fun hb => absurd hb (by decide)) (fun _ => ?_)
  refine wp_iload_n d6_16 rfl ?_
  refine wp_stat (as := [.int (zI k)]) (rest := []) d6_17 rfl rfl rfl rfl rfl (Nat.le_of_ble_eq_true rfl) ?_
  refine c_isSlot rk (fun k0 k3 => ?_) (fun e => ?_)
  rotate_left
  · refine wz_if_ne (t := 26) d6_20 (by decide) ⟨by omega, by omega⟩ (fun hb => absurd (by decide) hb) (fun _ => ?_)
    refine wz_bipush d6_23 (by decide) ?_
    exact wp_ret d6_25 rfl (h2 (Or.inr (Or.inr e)))
  refine wz_if_ne (t := 26) d6_20 (by decide) ⟨by omega, by omega⟩ (fun _ => ?_) (fun hb => absurd hb (by decide))
  have hh := h1 A B eA eB k0 k3
  obtain ⟨ki, hki, rfl, et⟩ := sl_nat eA
  obtain ⟨kj, hkj, rfl, et'⟩ := sl_nat eB
  obtain ⟨kk, rfl⟩ : ∃ q : Nat, k = (q : Int) := ⟨k.toNat, by omega⟩
  have hkk : kk < 4 := by omega
  have hs := hT ki hki
  have hs' := hT kj hkj
  rw [et] at hs
  rw [et'] at hs'
  have hs : KTY M (30 + 2 * ki) (31 + 2 * ki) A := hs
  have hs' : KTY M (30 + 2 * kj) (31 + 2 * kj) B := hs'
  have lA := hs.2.2.1
  have lB := hs'.2.2.1
  have oA := hs.2.2.2
  have oB := hs'.2.2.2
  have c1 : hgt [] A ≤ 16 := hgt_closed oA lA
  have c2 : hgt [] B ≤ 16 := hgt_closed oB lB
  have a1 : wt [] A ≤ 127 := wt_closed oA lA
  have a2 : wt [] B ≤ 127 := wt_closed oB lB
  have b1 : rwt [] A ≤ wt [] A := rwt_le A [] [] rfl (fun _ => Nat.le_refl _)
  have b2 : rwt [] B ≤ wt [] B := rwt_le B [] [] rfl (fun _ => Nat.le_refl _)
  have e1 : swt [] A ≤ wt [] A := swt_le A [] [] rfl (fun _ => Nat.le_refl _)
  have e2 : swt [] B ≤ wt [] B := swt_le B [] [] rfl (fun _ => Nat.le_refl _)
  have nbb0 := gm_closed (w := 0) oA oB lA lB (by decide)
  have nbb : nbm 0 [] A B ≤ 6096 := by
    have := nbm_gm (w := 0) (Γ := []) (S := A) (T := B) ⟨trivial, oA, oB⟩ (by decide)
    omega
  have tkb' : tkb 16 [] A B := ⟨⟨trivial, oA, oB⟩, fun k hk => absurd hk (Nat.not_lt_zero _), lA, lB⟩
  refine wp_aload_n d6_26 rfl ?_
  refine wp_getR (q := 6) d6_27 rfl (hG.o (by decide) rfl) (by decide) (hG.r (by decide +kernel)) (by decide) ?_
  refine wp_virt (as := []) (rest := []) d6_30 rfl rfl rfl (hG.o (by decide) rfl) rfl rfl (Nat.le_of_ble_eq_true rfl) ?_
  refine c_clear hG ?_
  refine wp_aload_n d6_33 rfl ?_
  refine wp_getR (q := 6) d6_34 rfl (hG.o (by decide) rfl) (by decide) (hG.r (by decide +kernel)) (by decide) ?_
  refine wp_aload_n d6_37 rfl ?_
  refine wp_getR (q := 3) d6_38 rfl (hG.o (by decide) rfl) (by decide) (hG.r (by decide +kernel)) (by decide) ?_
  refine wp_iload_n d6_41 rfl ?_
  refine wz_aald (z := 4) (q := 30 + 2 * ki) d6_42 (hG.a (by decide) rfl rfl) (by omega) (by omega) (by decide) (by rw [Int.toNat_natCast]; exact hG.slot hki) (by omega) ?_
  refine wp_virt (as := [.ref (30 + 2 * ki)]) (rest := []) d6_43 rfl rfl rfl (hG.o (by decide) rfl) (by simp [pm_vc]) rfl (Nat.le_of_ble_eq_true rfl) ?_
  refine wc_deep (show 0 + 21 ≤ d + 259 by omega) ?_
  refine c_unpack1 (KPs_slot hki) hG hR hM hs (fun M1 R1 K1 L1 n1 s1 z1 cx1 m61 mz1 nA => ?_)
  refine wp_istore d6_46 (Nat.le_of_ble_eq_true rfl) rfl ?_
  refine wp_aload_n d6_48 rfl ?_
  refine wp_getR (q := 6) d6_49 rfl (cx1.g.o (by decide) rfl) (by decide) (cx1.g.r (by decide +kernel)) (by decide) ?_
  refine wp_aload_n d6_52 rfl ?_
  refine wp_getR (q := 3) d6_53 rfl (cx1.g.o (by decide) rfl) (by decide) (cx1.g.r (by decide +kernel)) (by decide) ?_
  refine wp_iload_n d6_56 rfl ?_
  refine wz_aald (z := 4) (q := 30 + 2 * kj) d6_57 (cx1.g.a (by decide) rfl rfl) (by omega) (by omega) (by decide) (by rw [Int.toNat_natCast]; exact cx1.g.slot hkj) (by omega) ?_
  refine wp_virt (as := [.ref (30 + 2 * kj)]) (rest := []) d6_58 rfl rfl rfl (cx1.g.o (by decide) rfl) (by simp [pm_vc]) rfl (Nat.le_of_ble_eq_true rfl) ?_
  refine wc_deep (show 0 + 21 ≤ d + 259 by omega) ?_
  refine c_unpack2 (KPs_slot hkj) hG hR hs' lA cx1 m61 mz1 nA (fun M2 R2 K2 L2 n2 s2 z2 tw => ?_)
  obtain ⟨cx2, m62, mz2, nA2, nB2⟩ := tw
  have top2 : ndf M2 R2 (1 + (flat A).length + (flat B).length) 1 tTop 0 := ndf_mono cx2.nodes (by omega) (Nat.le_refl _) nt
  have ends : ∀ (M3 : pm_M) (R3 : Nat → Nat → Nat) (K3 L3 : Nat → Nat) (n3 s3 z3 : Nat), CX (WB ([] : List Ty).length) M2 R2 K2 L2 n2 s2 z2 (1 + (flat A).length + (flat B).length) M3 R3 K3 L3 n3 s3 z3 → CX WC1 M Rf K L n s z 1 M3 R3 K3 L3 n3 s3 z3 := fun M3 R3 K3 L3 n3 s3 z3 cx3 => cx2.trans (cx3.weak (fun p i hw => by unfold WB at hw; unfold WC1; omega)) (by omega)
  refine wp_istore d6_61 (Nat.le_of_ble_eq_true rfl) rfl ?_
  refine wp_aload_n d6_63 rfl ?_
  refine wp_aload_n d6_64 rfl ?_
  refine wp_getR (q := 6) d6_65 rfl (cx2.g.o (by decide) rfl) (by decide) (cx2.g.r (by decide +kernel)) (by decide) ?_
  refine wp_iload d6_68 rfl ?_
  refine wp_iload d6_70 rfl ?_
  refine wz_iconst d6_72 ?_
  refine wz_iconst d6_73 ?_
  refine wp_virt (as := [.int (zI 0), .int (zI 0), .int (zI ((flat A).length + (flat B).length : Int)), .int (zI ((flat A).length : Int))]) (rest := [.ref 1]) d6_74 rfl rfl rfl (cx2.g.o (by decide) rfl) rfl rfl (Nat.le_of_ble_eq_true rfl) ?_
  refine wc_deep (show 0 + 8 * 16 + 90 ≤ d + 259 by omega) ?_
  refine (c_both 0 16).1 [] A B _ _ 0 M2 R2 K2 L2 n2 s2 z2 (1 + (flat A).length + (flat B).length) _ ⟨cx2.g, cx2.r, cx2.r32, m62, by omega, mz2, ⟨trivial, oA, oB⟩, fun k hk => absurd hk (Nat.not_lt_zero _), nA2, nB2, lA, lB⟩ top2 ?_ ?_ (by omega) (by simp) ?_ (fun M3 R3 K3 L3 n3 s3 z3 cn3 r cx3 v1 v2 v3 v4 jr => ?_)
  · show hgt [] A + hgt [] B ≤ 2 * 16
    omega
  · show (1 + (flat A).length + (flat B).length : Int) + (nbm 0 [] A B : Nat) + 16 * ((hgt [] A + hgt [] B : Nat) : Int) ≤ 16384
    omega
  · show 17 * gn (0, [], A, B) ≤ 1000000
    omega
  have cxe := ends M3 R3 K3 L3 n3 s3 z3 cx3
  have hz3 := cx3.r.2.2.2.2
  rw [cmv_cmu tkb'] at hh
  obtain ⟨R, eR⟩ := cmu_zero (Γ := []) (S := A) (T := B) ⟨trivial, oA, oB⟩
  rw [eR] at jr hh
  have jr : ndf M3 R3 cn3 32 R r := jr
  refine wp_iload_n d6_77 rfl ?_
  refine wp_virt (as := [.int (zI (kk : Int)), .int (zI r)]) (rest := []) d6_78 rfl rfl rfl (cxe.g.o (by decide) rfl) rfl rfl (Nat.le_of_ble_eq_true rfl) ?_
  obtain ⟨oR, lR⟩ := cmu_ok tkb' eR
  have lR : (flat R).length ≤ 17 * gn (0, [], A, B) := lR
  refine wc_deep (show 0 + 32 + 4 ≤ d + 259 by omega) ?_
  refine c_keepMade hkk cxe.g cxe.r cxe.r32 v4 jr oR (by decide) (by omega) (fun hl => ?_) (fun hl M4 e1 e2 e3 => ?_)
  · have el : Lm (some R) = some none := by show lim R = some none; unfold lim; rw [if_neg hl]
    refine wp_ret d6_81 rfl ?_
    have q := hh M3 R3 K3 L3 n3 s3 z3 (cxe.weak (fun p i hw => by unfold WC1 at hw; unfold WC2; omega))
    rw [el] at q
    exact q (cxe.slc hR hn hT)
  · have el : Lm (some R) = some (some R) := by show lim R = some (some R); unfold lim; rw [if_pos hl]
    refine wp_ret d6_81 rfl ?_
    have q := hh M4 R3 K3 L3 n3 s3 z3 ((cxe.weak (W' := WC2) (fun p i hw => by unfold WC1 at hw; unfold WC2; omega)).chg (fun p i hw => e1 p i (fun e => hw (by unfold WC2; omega)) (fun e => hw (by unfold WC2; omega))) (fun p i hw g hg e => by have := cxe.r.2.1 g hg; unfold WC2 at hw; omega) e3)
    rw [el] at q
    exact q ((cxe.slc hR hn hT).upd hkk e1 e2)
set_option maxRecDepth 20000 in
set_option maxHeartbeats 2000000 in
theorem c_meetOp {z : Nat} {i j k : Int} {T : Int → Option Ty} (hG : pm_G Rf K L n) (hR : RmI Rf K L n z) (hM : ∀ p i, R32 (M p i)) (nt : ndf M Rf 1 1 tTop 0) (ri : R32 i) (rj : R32 j) (rk : R32 k) (hT : SLC M T) (h2 : sl T i = none ∨ sl T j = none ∨ ¬ (0 ≤ k ∧ k ≤ 3) → Q (some (.int (zI (-2)))) (zM M, Rf, K, L, n, s)) (h1 : ∀ A B, sl T i = some A → sl T j = some B → 0 ≤ k → k ≤ 3 → ∀ (M' : pm_M) (Rf' : Nat → Nat → Nat) (K' L' : Nat → Nat) (n' s' z' : Nat), CX WC2 M Rf K L n s z 1 M' Rf' K' L' n' s' z' → SLC M' (cmT T k (cmv 1 [] A B)) → Q (some (.int (zI (cmA (cmv 1 [] A B))))) (zM M', Rf', K', L', n', s')) : pm_Wc (d + 260) 7 [.ref 1, .int (zI i), .int (zI j), .int (zI k)] (zM M, Rf, K, L, n, s) Q := by
  have hn := hG.1
  refine wc_in (ls0 := [some (.ref 1), some (.int (zI i)), some (.int (zI j)), some (.int (zI k)), none, none, none]) (by decide) (Nat.le_of_ble_eq_true rfl) rfl rfl ?_
  refine wp_aload_n d7_0 rfl ?_
  refine wp_iload_n d7_1 rfl ?_
  refine wp_virt (as := [.int (zI i)]) (rest := []) d7_2 rfl rfl rfl (hG.o (by decide) rfl) rfl rfl (Nat.le_of_ble_eq_true rfl) ?_
  refine c_hasType hG hM ri hT (fun A eA => ?_) (fun e => ?_)
  rotate_left
  · refine wz_if_eq (t := 23) d7_5 (by decide) ⟨by omega, by omega⟩ (fun _ => ?_) (fun hb => absurd (by decide) hb)
    refine wz_bipush d7_23 (by decide) ?_
    exact wp_ret d7_25 rfl (h2 (Or.inl e))
  refine wz_if_eq (t := 23) d7_5 (by decide) ⟨by omega, by omega⟩ (fun hb => absurd hb (by decide)) (fun _ => ?_)
  refine wp_aload_n d7_8 rfl ?_
  refine wp_iload_n d7_9 rfl ?_
  refine wp_virt (as := [.int (zI j)]) (rest := []) d7_10 rfl rfl rfl (hG.o (by decide) rfl) rfl rfl (Nat.le_of_ble_eq_true rfl) ?_
  refine c_hasType hG hM rj hT (fun B eB => ?_) (fun e => ?_)
  rotate_left
  · refine wz_if_eq (t := 23) d7_13 (by decide) ⟨by omega, by omega⟩ (fun _ => ?_) (fun hb => absurd (by decide) hb)
    refine wz_bipush d7_23 (by decide) ?_
    exact wp_ret d7_25 rfl (h2 (Or.inr (Or.inl e)))
  refine wz_if_eq (t := 23) d7_13 (by decide) ⟨by omega, by omega⟩ (fun hb => absurd hb (by decide)) (fun _ => ?_)
  refine wp_iload_n d7_16 rfl ?_
  refine wp_stat (as := [.int (zI k)]) (rest := []) d7_17 rfl rfl rfl rfl rfl (Nat.le_of_ble_eq_true rfl) ?_
  refine c_isSlot rk (fun k0 k3 => ?_) (fun e => ?_)
  rotate_left
  · refine wz_if_ne (t := 26) d7_20 (by decide) ⟨by omega, by omega⟩ (fun hb => absurd (by decide) hb) (fun _ => ?_)
    refine wz_bipush d7_23 (by decide) ?_
    exact wp_ret d7_25 rfl (h2 (Or.inr (Or.inr e)))
  refine wz_if_ne (t := 26) d7_20 (by decide) ⟨by omega, by omega⟩ (fun _ => ?_) (fun hb => absurd hb (by decide))
  have hh := h1 A B eA eB k0 k3
  obtain ⟨ki, hki, rfl, et⟩ := sl_nat eA
  obtain ⟨kj, hkj, rfl, et'⟩ := sl_nat eB
  obtain ⟨kk, rfl⟩ : ∃ q : Nat, k = (q : Int) := ⟨k.toNat, by omega⟩
  have hkk : kk < 4 := by omega
  have hs := hT ki hki
  have hs' := hT kj hkj
  rw [et] at hs
  rw [et'] at hs'
  have hs : KTY M (30 + 2 * ki) (31 + 2 * ki) A := hs
  have hs' : KTY M (30 + 2 * kj) (31 + 2 * kj) B := hs'
  have lA := hs.2.2.1
  have lB := hs'.2.2.1
  have oA := hs.2.2.2
  have oB := hs'.2.2.2
  have c1 : hgt [] A ≤ 16 := hgt_closed oA lA
  have c2 : hgt [] B ≤ 16 := hgt_closed oB lB
  have a1 : wt [] A ≤ 127 := wt_closed oA lA
  have a2 : wt [] B ≤ 127 := wt_closed oB lB
  have b1 : rwt [] A ≤ wt [] A := rwt_le A [] [] rfl (fun _ => Nat.le_refl _)
  have b2 : rwt [] B ≤ wt [] B := rwt_le B [] [] rfl (fun _ => Nat.le_refl _)
  have e1 : swt [] A ≤ wt [] A := swt_le A [] [] rfl (fun _ => Nat.le_refl _)
  have e2 : swt [] B ≤ wt [] B := swt_le B [] [] rfl (fun _ => Nat.le_refl _)
  have nbb0 := gm_closed (w := 1) oA oB lA lB (by decide)
  have nbb : nbm 1 [] A B ≤ 6096 := by
    have := nbm_gm (w := 1) (Γ := []) (S := A) (T := B) ⟨trivial, oA, oB⟩ (by decide)
    omega
  have tkb' : tkb 16 [] A B := ⟨⟨trivial, oA, oB⟩, fun k hk => absurd hk (Nat.not_lt_zero _), lA, lB⟩
  refine wp_aload_n d7_26 rfl ?_
  refine wp_getR (q := 6) d7_27 rfl (hG.o (by decide) rfl) (by decide) (hG.r (by decide +kernel)) (by decide) ?_
  refine wp_virt (as := []) (rest := []) d7_30 rfl rfl rfl (hG.o (by decide) rfl) rfl rfl (Nat.le_of_ble_eq_true rfl) ?_
  refine c_clear hG ?_
  refine wp_aload_n d7_33 rfl ?_
  refine wp_getR (q := 6) d7_34 rfl (hG.o (by decide) rfl) (by decide) (hG.r (by decide +kernel)) (by decide) ?_
  refine wp_aload_n d7_37 rfl ?_
  refine wp_getR (q := 3) d7_38 rfl (hG.o (by decide) rfl) (by decide) (hG.r (by decide +kernel)) (by decide) ?_
  refine wp_iload_n d7_41 rfl ?_
  refine wz_aald (z := 4) (q := 30 + 2 * ki) d7_42 (hG.a (by decide) rfl rfl) (by omega) (by omega) (by decide) (by rw [Int.toNat_natCast]; exact hG.slot hki) (by omega) ?_
  refine wp_virt (as := [.ref (30 + 2 * ki)]) (rest := []) d7_43 rfl rfl rfl (hG.o (by decide) rfl) (by simp [pm_vc]) rfl (Nat.le_of_ble_eq_true rfl) ?_
  refine wc_deep (show 0 + 21 ≤ d + 259 by omega) ?_
  refine c_unpack1 (KPs_slot hki) hG hR hM hs (fun M1 R1 K1 L1 n1 s1 z1 cx1 m61 mz1 nA => ?_)
  refine wp_istore d7_46 (Nat.le_of_ble_eq_true rfl) rfl ?_
  refine wp_aload_n d7_48 rfl ?_
  refine wp_getR (q := 6) d7_49 rfl (cx1.g.o (by decide) rfl) (by decide) (cx1.g.r (by decide +kernel)) (by decide) ?_
  refine wp_aload_n d7_52 rfl ?_
  refine wp_getR (q := 3) d7_53 rfl (cx1.g.o (by decide) rfl) (by decide) (cx1.g.r (by decide +kernel)) (by decide) ?_
  refine wp_iload_n d7_56 rfl ?_
  refine wz_aald (z := 4) (q := 30 + 2 * kj) d7_57 (cx1.g.a (by decide) rfl rfl) (by omega) (by omega) (by decide) (by rw [Int.toNat_natCast]; exact cx1.g.slot hkj) (by omega) ?_
  refine wp_virt (as := [.ref (30 + 2 * kj)]) (rest := []) d7_58 rfl rfl rfl (cx1.g.o (by decide) rfl) (by simp [pm_vc]) rfl (Nat.le_of_ble_eq_true rfl) ?_
  refine wc_deep (show 0 + 21 ≤ d + 259 by omega) ?_
  refine c_unpack2 (KPs_slot hkj) hG hR hs' lA cx1 m61 mz1 nA (fun M2 R2 K2 L2 n2 s2 z2 tw => ?_)
  obtain ⟨cx2, m62, mz2, nA2, nB2⟩ := tw
  have top2 : ndf M2 R2 (1 + (flat A).length + (flat B).length) 1 tTop 0 := ndf_mono cx2.nodes (by omega) (Nat.le_refl _) nt
  have ends : ∀ (M3 : pm_M) (R3 : Nat → Nat → Nat) (K3 L3 : Nat → Nat) (n3 s3 z3 : Nat), CX (WB ([] : List Ty).length) M2 R2 K2 L2 n2 s2 z2 (1 + (flat A).length + (flat B).length) M3 R3 K3 L3 n3 s3 z3 → CX WC1 M Rf K L n s z 1 M3 R3 K3 L3 n3 s3 z3 := fun M3 R3 K3 L3 n3 s3 z3 cx3 => cx2.trans (cx3.weak (fun p i hw => by unfold WB at hw; unfold WC1; omega)) (by omega)
  refine wp_istore d7_61 (Nat.le_of_ble_eq_true rfl) rfl ?_
  refine wp_aload_n d7_63 rfl ?_
  refine wp_getR (q := 6) d7_64 rfl (cx2.g.o (by decide) rfl) (by decide) (cx2.g.r (by decide +kernel)) (by decide) ?_
  refine wp_iload d7_67 rfl ?_
  refine wp_iload d7_69 rfl ?_
  refine wz_iconst d7_71 ?_
  refine wz_iconst d7_72 ?_
  refine wp_virt (as := [.int (zI 0), .int (zI 0), .int (zI ((flat A).length + (flat B).length : Int)), .int (zI ((flat A).length : Int))]) (rest := []) d7_73 rfl rfl rfl (cx2.g.o (by decide) rfl) rfl rfl (Nat.le_of_ble_eq_true rfl) ?_
  refine wc_deep (show 0 + 8 * 16 + 90 ≤ d + 259 by omega) ?_
  refine (c_both 0 16).2 [] A B _ _ 0 M2 R2 K2 L2 n2 s2 z2 (1 + (flat A).length + (flat B).length) _ ⟨cx2.g, cx2.r, cx2.r32, m62, by omega, mz2, ⟨trivial, oA, oB⟩, fun k hk => absurd hk (Nat.not_lt_zero _), nA2, nB2, lA, lB⟩ top2 ?_ ?_ (by omega) (by simp) ?_ (fun M3 R3 K3 L3 n3 s3 z3 cn3 r cx3 v1 v2 v3 v4 jr => ?_)
  · show hgt [] A + hgt [] B ≤ 2 * 16
    omega
  · show (1 + (flat A).length + (flat B).length : Int) + (nbm 1 [] A B : Nat) + 16 * ((hgt [] A + hgt [] B : Nat) : Int) ≤ 16384
    omega
  · show 17 * gn (1, [], A, B) ≤ 1000000
    omega
  have cxe := ends M3 R3 K3 L3 n3 s3 z3 cx3
  have hz3 := cx3.r.2.2.2.2
  rw [cmv_cmu tkb'] at hh
  refine wp_istore d7_76 (Nat.le_of_ble_eq_true rfl) rfl ?_
  refine wp_iload d7_78 rfl ?_
  refine wz_iconst d7_80 ?_
  cases eR : cmu 1 [] A B with
  | none =>
    rw [eR] at jr hh
    have jr : r = -1 := jr
    subst jr
    refine wz_icmp_ne (t := 88) d7_81 (by decide) ⟨by omega, by omega⟩ ⟨by omega, by omega⟩ (fun hb => absurd rfl hb) (fun _ => ?_)
    refine wz_iconst d7_84 ?_
    refine wp_goto (t := 95) d7_85 (by decide) ?_
    refine wp_ret d7_95 rfl ?_
    exact hh M3 R3 K3 L3 n3 s3 z3 (cxe.weak (fun p i hw => by unfold WC1 at hw; unfold WC2; omega)) (cxe.slc hR hn hT)
  | some R =>
  rw [eR] at jr hh
  have jr : ndf M3 R3 cn3 32 R r := jr
  have rr := ndf_rng jr
  refine wz_icmp_ne (t := 88) d7_81 (by decide) ⟨by omega, by omega⟩ ⟨by omega, by omega⟩ (fun _ => ?_) (fun hb => absurd hb (by omega))
  refine wp_aload_n d7_88 rfl ?_
  refine wp_iload d7_89 rfl ?_
  refine wp_iload_n d7_91 rfl ?_
  refine wp_virt (as := [.int (zI (kk : Int)), .int (zI r)]) (rest := []) d7_92 rfl rfl rfl (cxe.g.o (by decide) rfl) rfl rfl (Nat.le_of_ble_eq_true rfl) ?_
  obtain ⟨oR, lR⟩ := cmu_ok tkb' eR
  have lR : (flat R).length ≤ 17 * gn (1, [], A, B) := lR
  refine wc_deep (show 0 + 32 + 4 ≤ d + 259 by omega) ?_
  refine c_keepMade hkk cxe.g cxe.r cxe.r32 v4 jr oR (by decide) (by omega) (fun hl => ?_) (fun hl M4 e1 e2 e3 => ?_)
  · have el : Lm (some R) = some none := by show lim R = some none; unfold lim; rw [if_neg hl]
    refine wp_ret d7_95 rfl ?_
    have q := hh M3 R3 K3 L3 n3 s3 z3 (cxe.weak (fun p i hw => by unfold WC1 at hw; unfold WC2; omega))
    rw [el] at q
    exact q (cxe.slc hR hn hT)
  · have el : Lm (some R) = some (some R) := by show lim R = some (some R); unfold lim; rw [if_pos hl]
    refine wp_ret d7_95 rfl ?_
    have q := hh M4 R3 K3 L3 n3 s3 z3 ((cxe.weak (W' := WC2) (fun p i hw => by unfold WC1 at hw; unfold WC2; omega)).chg (fun p i hw => e1 p i (fun e => hw (by unfold WC2; omega)) (fun e => hw (by unfold WC2; omega))) (fun p i hw g hg e => by have := cxe.r.2.1 g hg; unfold WC2 at hw; omega) e3)
    rw [el] at q
    exact q ((cxe.slc hR hn hT).upd hkk e1 e2)
end PmC22
