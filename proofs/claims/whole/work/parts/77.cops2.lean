/-! THE CLASS: same, below. -/
def KPs (kp kc : Nat) : Prop := (kp = 4 ∧ kc = 5) ∨ (kp = 30 ∧ kc = 31) ∨ (kp = 32 ∧ kc = 33) ∨ (kp = 34 ∧ kc = 35) ∨ (kp = 36 ∧ kc = 37)
theorem KPs.ko {kp kc : Nat} (h : KPs kp kc) : KO kp kc := by
  rcases h with ⟨rfl, rfl⟩ | ⟨rfl, rfl⟩ | ⟨rfl, rfl⟩ | ⟨rfl, rfl⟩ | ⟨rfl, rfl⟩
  · exact KO_4
  · exact KO_30
  · exact KO_32
  · exact KO_34
  · exact KO_36
theorem KPs_slot {i : Nat} (h : i < 4) : KPs (30 + 2 * i) (31 + 2 * i) := by
  unfold KPs
  omega
theorem KPs.w {kp kc : Nat} (h : KPs kp kc) (p : Nat) (i : Int) (hw : WU kp p i) : WC1 p i := by
  unfold KPs at h
  unfold WU at hw
  unfold WC1
  omega
theorem CX.kty2 {kp kc : Nat} {M : pm_M} {Rf : Nat → Nat → Nat} {K L : Nat → Nat} {n s z : Nat} {cn : Int} {M' : pm_M} {Rf' : Nat → Nat → Nat} {K' L' : Nat → Nat} {n' s' z' : Nat} {t : Ty} (h : CX WC1 M Rf K L n s z cn M' Rf' K' L' n' s' z') (hR : RmI Rf K L n z) (hn : 99 ≤ n) (hk : KPs kp kc) (k : KTY M kp kc t) : KTY M' kp kc t := by
  have far := hk.ko.far hR
  unfold KPs at hk
  exact k.same (h.mem _ (by omega) far.1 1 (by unfold WC1; omega)) (fun j => h.mem _ (by omega) far.2 j (by unfold WC1; omega))
section PmC14
variable {d : Nat} {Q : Option Value → pm_S → Prop} {M : pm_M} {Rf : Nat → Nat → Nat} {K L : Nat → Nat} {n s : Nat}
/-- two kept types as nodes -/
def TW (M0 : pm_M) (R0 : Nat → Nat → Nat) (K0 L0 : Nat → Nat) (n0 s0 z0 : Nat) (A B : Ty) (M : pm_M) (Rf : Nat → Nat → Nat) (K L : Nat → Nat) (n s z : Nat) : Prop := CX WC1 M0 R0 K0 L0 n0 s0 z0 1 M Rf K L n s z ∧ M 6 6 = 1 + (flat A).length + (flat B).length ∧ (1 + (flat A).length + (flat B).length : Int) ≤ z ∧ ndf M Rf (1 + (flat A).length + (flat B).length) 16 A (flat A).length ∧ ndf M Rf (1 + (flat A).length + (flat B).length) 16 B ((flat A).length + (flat B).length)
theorem c_unpack1 {z kp kc : Nat} {A : Ty} (hk : KPs kp kc) (hG : pm_G Rf K L n) (hR : RmI Rf K L n z) (hM : ∀ p i, R32 (M p i)) (kA : KTY M kp kc A) (h : ∀ (M' : pm_M) (Rf' : Nat → Nat → Nat) (K' L' : Nat → Nat) (n' s' z' : Nat), CX WC1 M Rf K L n s z 1 M' Rf' K' L' n' s' z' → M' 6 6 = 1 + (flat A).length → (1 + (flat A).length : Int) ≤ z' → ndf M' Rf' (1 + (flat A).length) 16 A (flat A).length → Q (some (.int (zI ((flat A).length : Int)))) (zM M', Rf', K', L', n', s')) : pm_Wc (d + 21) 39 [.ref 6, .ref kp] (zM (mset M 6 6 1), Rf, K, L, n, s) Q := by
  have hz := hR.2.2.2.1
  have hn := hG.1
  have cx0 : CX WC1 M Rf K L n s z 1 (mset M 6 6 1) Rf K L n s z := (CX.refl hG hR hM).set (fun g hg => (hR.ne6 hg).symm) (Or.inl ⟨rfl, rfl⟩) ⟨by omega, by omega⟩
  have kA1 := cx0.kty2 hR hn hk kA
  have lA := kA.2.2.1
  refine c_unpack (cn := 1) hk.ko hG hR cx0.r32 (by rw [mset_s]) (by omega) (by omega) (by omega) kA1 (fun M' Rf' K' L' n' s' z' cx v1 v2 nd' => ?_)
  rw [show (1 : Int) + (flat A).length - 1 = ((flat A).length : Int) by omega] at nd' ⊢
  exact h M' Rf' K' L' n' s' z' (cx0.trans (cx.weak hk.w) (by omega)) v1 v2 nd'
theorem c_unpack2 {M0 : pm_M} {R0 : Nat → Nat → Nat} {K0 L0 : Nat → Nat} {n0 s0 z0 z kp kc : Nat} {A B : Ty} (hk : KPs kp kc) (hG0 : pm_G R0 K0 L0 n0) (hR0 : RmI R0 K0 L0 n0 z0) (kB : KTY M0 kp kc B) (lA : (flat A).length ≤ 16) (cx : CX WC1 M0 R0 K0 L0 n0 s0 z0 1 M Rf K L n s z) (m6 : M 6 6 = 1 + (flat A).length) (mz : (1 + (flat A).length : Int) ≤ z) (nA : ndf M Rf (1 + (flat A).length) 16 A (flat A).length) (h : ∀ (M' : pm_M) (Rf' : Nat → Nat → Nat) (K' L' : Nat → Nat) (n' s' z' : Nat), TW M0 R0 K0 L0 n0 s0 z0 A B M' Rf' K' L' n' s' z' → Q (some (.int (zI ((flat A).length + (flat B).length : Int)))) (zM M', Rf', K', L', n', s')) : pm_Wc (d + 21) 39 [.ref 6, .ref kp] (zM M, Rf, K, L, n, s) Q := by
  have hn0 := hG0.1
  have kB1 := cx.kty2 hR0 hn0 hk kB
  have lB := kB.2.2.1
  refine c_unpack (cn := 1 + (flat A).length) hk.ko cx.g cx.r cx.r32 m6 (by omega) mz (by omega) kB1 (fun M' Rf' K' L' n' s' z' cx' v1 v2 nd' => ?_)
  rw [show (1 : Int) + (flat A).length + (flat B).length - 1 = ((flat A).length + (flat B).length : Int) by omega] at nd' ⊢
  exact h M' Rf' K' L' n' s' z' ⟨cx.trans (cx'.weak hk.w) (by omega), v1, v2, ndf_mono cx'.nodes (by omega) (Nat.le_refl _) nA, nd'⟩
theorem c_keptBelow {z kp kc kp' kc' : Nat} {A B : Ty} (hk : KPs kp kc) (hk' : KPs kp' kc') (hG : pm_G Rf K L n) (hR : RmI Rf K L n z) (hM : ∀ p i, R32 (M p i)) (kA : KTY M kp kc A) (kB : KTY M kp' kc' B) (h : ∀ (M' : pm_M) (Rf' : Nat → Nat → Nat) (K' L' : Nat → Nat) (n' s' z' : Nat), CX WC1 M Rf K L n s z 1 M' Rf' K' L' n' s' z' → Q (some (.int (zI (if bel [] A B = true then 1 else 0)))) (zM M', Rf', K', L', n', s')) : pm_Wc (d + 75) 20 [.ref 1, .ref kp, .ref kp'] (zM M, Rf, K, L, n, s) Q := by
  have lA := kA.2.2.1
  have lB := kB.2.2.1
  have oA := kA.2.2.2
  have oB := kB.2.2.2
  have c1 : hgt [] A ≤ 16 := hgt_closed oA lA
  have c2 : hgt [] B ≤ 16 := hgt_closed oB lB
  refine wc_in (ls0 := [some (.ref 1), some (.ref kp), some (.ref kp'), none, none]) (by decide) (Nat.le_of_ble_eq_true rfl) (by simp [pm_vc]) rfl ?_
  refine wp_aload_n d20_0 rfl ?_
  refine wp_getR (q := 6) d20_1 rfl (hG.o (by decide) rfl) (by decide) (hG.r (by decide +kernel)) (by decide) ?_
  refine wp_virt (as := []) (rest := []) d20_4 rfl rfl rfl (hG.o (by decide) rfl) rfl rfl (Nat.le_of_ble_eq_true rfl) ?_
  refine c_clear hG ?_
  refine wp_aload_n d20_7 rfl ?_
  refine wp_getR (q := 6) d20_8 rfl (hG.o (by decide) rfl) (by decide) (hG.r (by decide +kernel)) (by decide) ?_
  refine wp_aload_n d20_11 rfl ?_
  refine wp_virt (as := [.ref kp]) (rest := []) d20_12 rfl rfl rfl (hG.o (by decide) rfl) (by simp [pm_vc]) rfl (Nat.le_of_ble_eq_true rfl) ?_
  refine c_unpack1 hk hG hR hM kA (fun M1 R1 K1 L1 n1 s1 z1 cx1 m61 mz1 nA => ?_)
  refine wp_istore_n d20_15 (Nat.le_of_ble_eq_true rfl) rfl ?_
  refine wp_aload_n d20_16 rfl ?_
  refine wp_getR (q := 6) d20_17 rfl (cx1.g.o (by decide) rfl) (by decide) (cx1.g.r (by decide +kernel)) (by decide) ?_
  refine wp_aload_n d20_20 rfl ?_
  refine wp_virt (as := [.ref kp']) (rest := []) d20_21 rfl rfl rfl (cx1.g.o (by decide) rfl) (by simp [pm_vc]) rfl (Nat.le_of_ble_eq_true rfl) ?_
  refine c_unpack2 hk' hG hR kB lA cx1 m61 mz1 nA (fun M2 R2 K2 L2 n2 s2 z2 tw => ?_)
  obtain ⟨cx2, m62, mz2, nA2, nB2⟩ := tw
  refine wp_istore d20_24 (Nat.le_of_ble_eq_true rfl) rfl ?_
  refine wp_aload_n d20_26 rfl ?_
  refine wp_getR (q := 6) d20_27 rfl (cx2.g.o (by decide) rfl) (by decide) (cx2.g.r (by decide +kernel)) (by decide) ?_
  refine wp_iload_n d20_30 rfl ?_
  refine wp_iload d20_31 rfl ?_
  refine wz_iconst d20_33 ?_
  refine wz_iconst d20_34 ?_
  refine wp_virt (as := [.int (zI 0), .int (zI 0), .int (zI ((flat A).length + (flat B).length : Int)), .int (zI ((flat A).length : Int))]) (rest := []) d20_35 rfl rfl rfl (cx2.g.o (by decide) rfl) rfl rfl (Nat.le_of_ble_eq_true rfl) ?_
  refine c_isBelow 16 d [] A B _ _ 0 M2 R2 K2 L2 n2 s2 z2 (1 + (flat A).length + (flat B).length) _ ⟨cx2.g, cx2.r, cx2.r32, m62, by omega, mz2, ⟨trivial, oA, oB⟩, fun k hk => absurd hk (Nat.not_lt_zero _), nA2, nB2, lA, lB⟩ ?_ ?_ (by omega) (by simp) (fun M3 R3 K3 L3 n3 s3 z3 cx3 m63 => ?_)
  · show hgt [] A + hgt [] B ≤ 2 * 16
    omega
  · show (1 + (flat A).length + (flat B).length : Int) + 16 * ((hgt [] A + hgt [] B : Nat) : Int) ≤ 16384
    omega
  · have q := h M3 R3 K3 L3 n3 s3 z3 (cx2.trans (cx3.weak (fun p i hw => by unfold WB at hw; unfold WC1; omega)) (by omega))
    by_cases hb : bel [] A B = true
    · rw [if_pos hb] at q ⊢; exact wp_ret d20_38 rfl q
    · rw [if_neg hb] at q ⊢; exact wp_ret d20_38 rfl q
theorem c_belowOp {z : Nat} {i j : Int} {T : Int → Option Ty} (hG : pm_G Rf K L n) (hR : RmI Rf K L n z) (hM : ∀ p i, R32 (M p i)) (ri : R32 i) (rj : R32 j) (hT : SLC M T) (h2 : sl T i = none ∨ sl T j = none → Q (some (.int (zI (-2)))) (zM M, Rf, K, L, n, s)) (h1 : ∀ A B, sl T i = some A → sl T j = some B → ∀ (M' : pm_M) (Rf' : Nat → Nat → Nat) (K' L' : Nat → Nat) (n' s' z' : Nat), CX WC1 M Rf K L n s z 1 M' Rf' K' L' n' s' z' → Q (some (.int (zI (if bel [] A B = true then 1 else 0)))) (zM M', Rf', K', L', n', s')) : pm_Wc (d + 76) 4 [.ref 1, .int (zI i), .int (zI j)] (zM M, Rf, K, L, n, s) Q := by
  refine wc_in (ls0 := [some (.ref 1), some (.int (zI i)), some (.int (zI j))]) (by decide) (Nat.le_of_ble_eq_true rfl) rfl rfl ?_
  refine wp_aload_n d4_0 rfl ?_
  refine wp_iload_n d4_1 rfl ?_
  refine wp_virt (as := [.int (zI i)]) (rest := []) d4_2 rfl rfl rfl (hG.o (by decide) rfl) rfl rfl (Nat.le_of_ble_eq_true rfl) ?_
  refine c_hasType hG hM ri hT (fun A eA => ?_) (fun e => ?_)
  · refine wz_if_eq (t := 16) d4_5 (by decide) ⟨by omega, by omega⟩ (fun hb => absurd hb (by decide)) (fun _ => ?_)
    refine wp_aload_n d4_8 rfl ?_
    refine wp_iload_n d4_9 rfl ?_
    refine wp_virt (as := [.int (zI j)]) (rest := []) d4_10 rfl rfl rfl (hG.o (by decide) rfl) rfl rfl (Nat.le_of_ble_eq_true rfl) ?_
    refine c_hasType hG hM rj hT (fun B eB => ?_) (fun e => ?_)
    · have hh := h1 A B eA eB
      obtain ⟨k, hk, rfl, et⟩ := sl_nat eA
      obtain ⟨k', hk', rfl, et'⟩ := sl_nat eB
      have hs := hT k hk
      have hs' := hT k' hk'
      rw [et] at hs
      rw [et'] at hs'
      refine wz_if_ne (t := 19) d4_13 (by decide) ⟨by omega, by omega⟩ (fun _ => ?_) (fun hb => absurd hb (by decide))
      refine wp_aload_n d4_19 rfl ?_
      refine wp_aload_n d4_20 rfl ?_
      refine wp_getR (q := 3) d4_21 rfl (hG.o (by decide) rfl) (by decide) (hG.r (by decide +kernel)) (by decide) ?_
      refine wp_iload_n d4_24 rfl ?_
      refine wz_aald (z := 4) (q := 30 + 2 * k) d4_25 (hG.a (by decide) rfl rfl) (by omega) (by omega) (by decide) (by rw [Int.toNat_natCast]; exact hG.slot hk) (by omega) ?_
      refine wp_aload_n d4_26 rfl ?_
      refine wp_getR (q := 3) d4_27 rfl (hG.o (by decide) rfl) (by decide) (hG.r (by decide +kernel)) (by decide) ?_
      refine wp_iload_n d4_30 rfl ?_
      refine wz_aald (z := 4) (q := 30 + 2 * k') d4_31 (hG.a (by decide) rfl rfl) (by omega) (by omega) (by decide) (by rw [Int.toNat_natCast]; exact hG.slot hk') (by omega) ?_
      refine wp_virt (as := [.ref (30 + 2 * k'), .ref (30 + 2 * k)]) (rest := []) d4_32 rfl rfl rfl (hG.o (by decide) rfl) (by simp [pm_vc]) rfl (Nat.le_of_ble_eq_true rfl) ?_
      refine c_keptBelow (KPs_slot hk) (KPs_slot hk') hG hR hM hs hs' (fun M' Rf' K' L' n' s' z' cx => ?_)
      have q := hh M' Rf' K' L' n' s' z' cx
      by_cases hb : bel [] A B = true
      · rw [if_pos hb] at q ⊢
        refine wz_if_eq (t := 42) d4_35 (by decide) ⟨by omega, by omega⟩ (fun hb => absurd hb (by decide)) (fun _ => ?_)
        refine wz_iconst d4_38 ?_
        refine wp_goto (t := 43) d4_39 (by decide) ?_
        exact wp_ret d4_43 rfl q
      · rw [if_neg hb] at q ⊢
        refine wz_if_eq (t := 42) d4_35 (by decide) ⟨by omega, by omega⟩ (fun _ => ?_) (fun hb => absurd (by decide) hb)
        refine wz_iconst d4_42 ?_
        exact wp_ret d4_43 rfl q
    · refine wz_if_ne (t := 19) d4_13 (by decide) ⟨by omega, by omega⟩ (fun hb => absurd (by decide) hb) (fun _ => ?_)
      refine wz_bipush d4_16 (by decide) ?_
      exact wp_ret d4_18 rfl (h2 (Or.inr e))
  · refine wz_if_eq (t := 16) d4_5 (by decide) ⟨by omega, by omega⟩ (fun _ => ?_) (fun hb => absurd (by decide) hb)
    refine wz_bipush d4_16 (by decide) ?_
    exact wp_ret d4_18 rfl (h2 (Or.inl e))
theorem c_sameOp {z : Nat} {i j : Int} {T : Int → Option Ty} (hG : pm_G Rf K L n) (hR : RmI Rf K L n z) (hM : ∀ p i, R32 (M p i)) (ri : R32 i) (rj : R32 j) (hT : SLC M T) (h2 : sl T i = none ∨ sl T j = none → Q (some (.int (zI (-2)))) (zM M, Rf, K, L, n, s)) (h1 : ∀ A B, sl T i = some A → sl T j = some B → ∀ (M' : pm_M) (Rf' : Nat → Nat → Nat) (K' L' : Nat → Nat) (n' s' z' : Nat), CX WC1 M Rf K L n s z 1 M' Rf' K' L' n' s' z' → Q (some (.int (zI (if flat A = flat B then 1 else 0)))) (zM M', Rf', K', L', n', s')) : pm_Wc (d + 22) 5 [.ref 1, .int (zI i), .int (zI j)] (zM M, Rf, K, L, n, s) Q := by
  refine wc_in (ls0 := [some (.ref 1), some (.int (zI i)), some (.int (zI j)), none, none]) (by decide) (Nat.le_of_ble_eq_true rfl) rfl rfl ?_
  refine wp_aload_n d5_0 rfl ?_
  refine wp_iload_n d5_1 rfl ?_
  refine wp_virt (as := [.int (zI i)]) (rest := []) d5_2 rfl rfl rfl (hG.o (by decide) rfl) rfl rfl (Nat.le_of_ble_eq_true rfl) ?_
  refine c_hasType hG hM ri hT (fun A eA => ?_) (fun e => ?_)
  · refine wz_if_eq (t := 16) d5_5 (by decide) ⟨by omega, by omega⟩ (fun hb => absurd hb (by decide)) (fun _ => ?_)
    refine wp_aload_n d5_8 rfl ?_
    refine wp_iload_n d5_9 rfl ?_
    refine wp_virt (as := [.int (zI j)]) (rest := []) d5_10 rfl rfl rfl (hG.o (by decide) rfl) rfl rfl (Nat.le_of_ble_eq_true rfl) ?_
    refine c_hasType hG hM rj hT (fun B eB => ?_) (fun e => ?_)
    · have hh := h1 A B eA eB
      obtain ⟨k, hk, rfl, et⟩ := sl_nat eA
      obtain ⟨k', hk', rfl, et'⟩ := sl_nat eB
      have hs := hT k hk
      have hs' := hT k' hk'
      rw [et] at hs
      rw [et'] at hs'
      have hs : KTY M (30 + 2 * k) (31 + 2 * k) A := hs
      have hs' : KTY M (30 + 2 * k') (31 + 2 * k') B := hs'
      have lA := hs.2.2.1
      refine wz_if_ne (t := 19) d5_13 (by decide) ⟨by omega, by omega⟩ (fun _ => ?_) (fun hb => absurd hb (by decide))
      refine wp_aload_n d5_19 rfl ?_
      refine wp_getR (q := 6) d5_20 rfl (hG.o (by decide) rfl) (by decide) (hG.r (by decide +kernel)) (by decide) ?_
      refine wp_virt (as := []) (rest := []) d5_23 rfl rfl rfl (hG.o (by decide) rfl) rfl rfl (Nat.le_of_ble_eq_true rfl) ?_
      refine c_clear hG ?_
      refine wp_aload_n d5_26 rfl ?_
      refine wp_getR (q := 6) d5_27 rfl (hG.o (by decide) rfl) (by decide) (hG.r (by decide +kernel)) (by decide) ?_
      refine wp_aload_n d5_30 rfl ?_
      refine wp_getR (q := 3) d5_31 rfl (hG.o (by decide) rfl) (by decide) (hG.r (by decide +kernel)) (by decide) ?_
      refine wp_iload_n d5_34 rfl ?_
      refine wz_aald (z := 4) (q := 30 + 2 * k) d5_35 (hG.a (by decide) rfl rfl) (by omega) (by omega) (by decide) (by rw [Int.toNat_natCast]; exact hG.slot hk) (by omega) ?_
      refine wp_virt (as := [.ref (30 + 2 * k)]) (rest := []) d5_36 rfl rfl rfl (hG.o (by decide) rfl) (by simp [pm_vc]) rfl (Nat.le_of_ble_eq_true rfl) ?_
      refine c_unpack1 (KPs_slot hk) hG hR hM hs (fun M1 R1 K1 L1 n1 s1 z1 cx1 m61 mz1 nA => ?_)
      refine wp_istore_n d5_39 (Nat.le_of_ble_eq_true rfl) rfl ?_
      refine wp_aload_n d5_40 rfl ?_
      refine wp_getR (q := 6) d5_41 rfl (cx1.g.o (by decide) rfl) (by decide) (cx1.g.r (by decide +kernel)) (by decide) ?_
      refine wp_aload_n d5_44 rfl ?_
      refine wp_getR (q := 3) d5_45 rfl (cx1.g.o (by decide) rfl) (by decide) (cx1.g.r (by decide +kernel)) (by decide) ?_
      refine wp_iload_n d5_48 rfl ?_
      refine wz_aald (z := 4) (q := 30 + 2 * k') d5_49 (cx1.g.a (by decide) rfl rfl) (by omega) (by omega) (by decide) (by rw [Int.toNat_natCast]; exact cx1.g.slot hk') (by omega) ?_
      refine wp_virt (as := [.ref (30 + 2 * k')]) (rest := []) d5_50 rfl rfl rfl (cx1.g.o (by decide) rfl) (by simp [pm_vc]) rfl (Nat.le_of_ble_eq_true rfl) ?_
      refine c_unpack2 (KPs_slot hk') hG hR hs' lA cx1 m61 mz1 nA (fun M2 R2 K2 L2 n2 s2 z2 tw => ?_)
      obtain ⟨cx2, m62, mz2, nA2, nB2⟩ := tw
      have q := hh M2 R2 K2 L2 n2 s2 z2 cx2
      refine wp_istore d5_53 (Nat.le_of_ble_eq_true rfl) rfl ?_
      refine wp_aload_n d5_55 rfl ?_
      refine wp_getR (q := 6) d5_56 rfl (cx2.g.o (by decide) rfl) (by decide) (cx2.g.r (by decide +kernel)) (by decide) ?_
      refine wp_iload_n d5_59 rfl ?_
      refine wp_iload d5_60 rfl ?_
      refine wz_iconst d5_62 ?_
      refine wp_virt (as := [.int (zI 0), .int (zI ((flat A).length + (flat B).length : Int)), .int (zI ((flat A).length : Int))]) (rest := []) d5_63 rfl rfl rfl (cx2.g.o (by decide) rfl) rfl rfl (Nat.le_of_ble_eq_true rfl) ?_
      refine c_same cx2.g cx2.r cx2.r32 mz2 16 A B _ _ 0 0 0 16 _ hs.2.2.2 hs'.2.2.2 (by omega) nA2 nB2 (by omega) (fun e => ?_) (fun e => ?_)
      · rw [if_pos (by rw [e])] at q
        refine wz_if_eq (t := 73) d5_66 (by decide) ⟨by omega, by omega⟩ (fun hb => absurd hb (by decide)) (fun _ => ?_)
        refine wz_iconst d5_69 ?_
        refine wp_goto (t := 74) d5_70 (by decide) ?_
        exact wp_ret d5_74 rfl q
      · rw [if_neg (fun e' => e (flat_eq hs.2.2.2 hs'.2.2.2 e'))] at q
        refine wz_if_eq (t := 73) d5_66 (by decide) ⟨by omega, by omega⟩ (fun _ => ?_) (fun hb => absurd (by decide) hb)
        refine wz_iconst d5_73 ?_
        exact wp_ret d5_74 rfl q
    · refine wz_if_ne (t := 19) d5_13 (by decide) ⟨by omega, by omega⟩ (fun hb => absurd (by decide) hb) (fun _ => ?_)
      refine wz_bipush d5_16 (by decide) ?_
      exact wp_ret d5_18 rfl (h2 (Or.inr e))
  · refine wz_if_eq (t := 16) d5_5 (by decide) ⟨by omega, by omega⟩ (fun _ => ?_) (fun hb => absurd (by decide) hb)
    refine wz_bipush d5_16 (by decide) ?_
    exact wp_ret d5_18 rfl (h2 (Or.inl e))
end PmC14
