/-! THE CLASS: reading any term. -/
section PmC38
variable {tx : Nat → Int} {ln d : Nat}
theorem pM_v {r : Nat} {e : List (Nat × Int × Nat)} {p : Nat} (c1 : 97 ≤ chr tx ln p ∧ chr tx ln p ≤ 100) : pM tx ln r e p = (p + 1, some (mN p 5 ((bnr e (chr tx ln p)).getD 0) .nil .nil .nil, (bnr e (chr tx ln p)).isSome)) := by
  cases r <;> exact if_pos c1
theorem pM_r {r : Nat} {e : List (Nat × Int × Nat)} {p : Nat} (c1 : ¬ (97 ≤ chr tx ln p ∧ chr tx ln p ≤ 100)) (c2 : chr tx ln p = 123) : pM tx ln r e p = rcM tx ln e p r := by
  cases r <;> exact (if_neg c1).trans (if_pos c2)
theorem pM_z {e : List (Nat × Int × Nat)} {p : Nat} (c1 : ¬ (97 ≤ chr tx ln p ∧ chr tx ln p ≤ 100)) (c2 : chr tx ln p ≠ 123) : pM tx ln 0 e p = (p, none) := (if_neg c1).trans (if_neg c2)
theorem pM_92 {r : Nat} {e : List (Nat × Int × Nat)} {p : Nat} (c1 : ¬ (97 ≤ chr tx ln p ∧ chr tx ln p ≤ 100)) (c2 : chr tx ln p ≠ 123)  (g92 : chr tx ln p = 92) : pM tx ln (r + 1) e p = if 97 ≤ chr tx ln (p + 1) ∧ chr tx ln (p + 1) ≤ 100 then (if chr tx ln (p + 1 + 1) = 58 then thn (pT tx ln r (tnm e) (p + 1 + 1 + 1)) (fun a q => if chr tx ln q = 46 then thn (pM tx ln r ((1, chr tx ln (p + 1), p) :: e) (q + 1)) (fun b q' => (q', some (mN p 6 (tnm e).length a.1 b.1 .nil, gud a && b.2))) else (q, none)) else (p + 1 + 1, none)) else (p + 1, none) := (if_neg c1).trans ((if_neg c2).trans (if_pos g92))
theorem pM_40 {r : Nat} {e : List (Nat × Int × Nat)} {p : Nat} (c1 : ¬ (97 ≤ chr tx ln p ∧ chr tx ln p ≤ 100)) (c2 : chr tx ln p ≠ 123) (g92 : chr tx ln p ≠ 92) (g40 : chr tx ln p = 40) : pM tx ln (r + 1) e p = thn (pM tx ln r e (p + 1)) (fun a q => thn (pM tx ln r e q) (fun b q' => if chr tx ln q' = 41 then (q' + 1, some (mN p 7 0 a.1 b.1 .nil, a.2 && b.2)) else (q', none))) := (if_neg c1).trans ((if_neg c2).trans ((if_neg g92).trans (if_pos g40)))
theorem pM_47 {r : Nat} {e : List (Nat × Int × Nat)} {p : Nat} (c1 : ¬ (97 ≤ chr tx ln p ∧ chr tx ln p ≤ 100)) (c2 : chr tx ln p ≠ 123) (g92 : chr tx ln p ≠ 92) (g40 : chr tx ln p ≠ 40) (g47 : chr tx ln p = 47) : pM tx ln (r + 1) e p = if 80 ≤ chr tx ln (p + 1) ∧ chr tx ln (p + 1) ≤ 83 then (if chr tx ln (p + 1 + 1) = 58 then thn (pT tx ln r (tnm e) (p + 1 + 1 + 1)) (fun a q => if chr tx ln q = 46 then thn (pM tx ln r ((0, chr tx ln (p + 1), p) :: e) (q + 1)) (fun b q' => (q', some (mN p 8 0 a.1 b.1 .nil, gud a && b.2))) else (q, none)) else (p + 1 + 1, none)) else (p + 1, none) := (if_neg c1).trans ((if_neg c2).trans ((if_neg g92).trans ((if_neg g40).trans (if_pos g47))))
theorem pM_64 {r : Nat} {e : List (Nat × Int × Nat)} {p : Nat} (c1 : ¬ (97 ≤ chr tx ln p ∧ chr tx ln p ≤ 100)) (c2 : chr tx ln p ≠ 123) (g92 : chr tx ln p ≠ 92) (g40 : chr tx ln p ≠ 40) (g47 : chr tx ln p ≠ 47) (g64 : chr tx ln p = 64) : pM tx ln (r + 1) e p = thn (pM tx ln r e (p + 1)) (fun a q => thn (pT tx ln r (tnm e) q) (fun b q' => (q', some (mN p 9 0 a.1 b.1 .nil, a.2 && gud b)))) := (if_neg c1).trans ((if_neg c2).trans ((if_neg g92).trans ((if_neg g40).trans ((if_neg g47).trans (if_pos g64)))))
theorem pM_46 {r : Nat} {e : List (Nat × Int × Nat)} {p : Nat} (c1 : ¬ (97 ≤ chr tx ln p ∧ chr tx ln p ≤ 100)) (c2 : chr tx ln p ≠ 123) (g92 : chr tx ln p ≠ 92) (g40 : chr tx ln p ≠ 40) (g47 : chr tx ln p ≠ 47) (g64 : chr tx ln p ≠ 64) (g46 : chr tx ln p = 46) : pM tx ln (r + 1) e p = if 120 ≤ chr tx ln (p + 1) ∧ chr tx ln (p + 1) ≤ 122 then thn (pM tx ln r e (p + 1 + 1)) (fun a q => (q, some (mN p 11 (chr tx ln (p + 1) - 120).toNat a.1 .nil .nil, a.2))) else (p + 1, none) := (if_neg c1).trans ((if_neg c2).trans ((if_neg g92).trans ((if_neg g40).trans ((if_neg g47).trans ((if_neg g64).trans (if_pos g46))))))
theorem pM_63 {r : Nat} {e : List (Nat × Int × Nat)} {p : Nat} (c1 : ¬ (97 ≤ chr tx ln p ∧ chr tx ln p ≤ 100)) (c2 : chr tx ln p ≠ 123) (g92 : chr tx ln p ≠ 92) (g40 : chr tx ln p ≠ 40) (g47 : chr tx ln p ≠ 47) (g64 : chr tx ln p ≠ 64) (g46 : chr tx ln p ≠ 46) (g63 : chr tx ln p = 63) : pM tx ln (r + 1) e p = if 48 ≤ chr tx ln (p + 1) ∧ chr tx ln (p + 1) ≤ 49 then thn (pM tx ln r e (p + 1 + 1)) (fun a q => thn (pM tx ln r e q) (fun b q' => (q', some (mN p 12 (chr tx ln (p + 1) - 48).toNat a.1 b.1 .nil, a.2 && b.2)))) else (p + 1, none) := (if_neg c1).trans ((if_neg c2).trans ((if_neg g92).trans ((if_neg g40).trans ((if_neg g47).trans ((if_neg g64).trans ((if_neg g46).trans (if_pos g63)))))))
theorem pM_none {r : Nat} {e : List (Nat × Int × Nat)} {p : Nat} (c1 : ¬ (97 ≤ chr tx ln p ∧ chr tx ln p ≤ 100)) (c2 : chr tx ln p ≠ 123) (g92 : chr tx ln p ≠ 92) (g40 : chr tx ln p ≠ 40) (g47 : chr tx ln p ≠ 47) (g64 : chr tx ln p ≠ 64) (g46 : chr tx ln p ≠ 46) (g63 : chr tx ln p ≠ 63) : pM tx ln (r + 1) e p = (p, none) := (if_neg c1).trans ((if_neg c2).trans ((if_neg g92).trans ((if_neg g40).trans ((if_neg g47).trans ((if_neg g64).trans ((if_neg g46).trans (if_neg g63)))))))
set_option maxRecDepth 20000 in
set_option maxHeartbeats 2000000 in
theorem c_holding {r : Nat} (IH : TmC tx ln d r) {X c p dp : Nat} {e : List (Nat × Int × Nat)} {M : pm_M} {Rf : Nat → Nat → Nat} {K L : Nat → Nat} {n s z : Nat} {cn : Int} {Q : Option Value → pm_S → Prop} (hS : RmS tx ln X e p c M Rf K L n z cn) (c1 : ¬ (97 ≤ chr tx ln p ∧ chr tx ln p ≤ 100)) (c2 : chr tx ln p ≠ 123) (hdp : dp + r + 1 = 24) (he : e.length + r + 1 ≤ 24) (h : RmQ X e (r + 2) p c (pM tx ln (r + 1) e p) M Rf K L n s z cn Q) : pm_Wc (d + 8 * r + 177) 93 [.ref 38, .int (zI (p : Int)), .int (zI (dp : Int))] (zM M, Rf, K, L, n, s) Q := by
  have hX := hS.2.1
  have l60 := hS.1.2.2.2.2.2.2.2.2.1.2.1
  have pl0 := hS.1.2.2.2.2.2.2.2.2.2.2.1
  have hcp := hS.2.2.2.2.1
  have rt := hS.1.2.2.2.2.2.2.2.2.1
  have h7 := hS.1.2.2.2.2.2.2.2.2.2.1
  have hcz := hS.1.2.2.2.2.2.1
  refine wc_in (ls0 := [some (.ref 38), some (.int (zI (p : Int))), some (.int (zI (dp : Int)))]) (by decide) (Nat.le_of_ble_eq_true rfl) rfl rfl ?_
  refine wp_aload_n d93_0 rfl ?_
  refine wz_bipush d93_1 (by decide) ?_
  refine wp_virt (as := [.int (zI 92)]) (rest := []) d93_3 rfl rfl rfl (hS.1.1.o (by decide) rfl) rfl rfl (Nat.le_of_ble_eq_true rfl) ?_
  refine c_take hS.1.1 rt h7 pl0 (by decide) (by decide) (fun g92 hlt => ?_) (fun g92 => ?_)
  · skip
    rw [pM_92 c1 c2 g92] at h
    have S1 := hS.adv hlt
    have cx1 := hS.wset (s := s) ((p + 1 : Nat) : Int) ⟨by omega, by omega⟩
    refine wz_if_eq (t := 24) d93_6 (by decide) ⟨by omega, by omega⟩ (fun hb => absurd hb (by decide)) (fun _ => ?_)
    refine wp_aload_n d93_9 rfl ?_
    refine wp_aload_n d93_10 rfl ?_
    refine wp_getR (q := X) d93_11 rfl (S1.1.1.o (by decide) rfl) (by decide) S1.2.2.1 (by rcases hX with e | e <;> omega) ?_
    refine wz_iconst d93_14 ?_
    refine wp_iload_n d93_15 rfl ?_
    refine wp_virt (as := [.int (zI (p : Int)), .int (zI 1)]) (rest := [.ref 38]) d93_16 rfl rfl rfl (by rcases hX with e | e <;> (rw [e]; exact S1.1.1.o (by decide) rfl)) rfl rfl (Nat.le_of_ble_eq_true rfl) ?_
    refine wc_deep (show 0 + 1 ≤ d + 8 * r + 176 by omega) ?_
    refine c_tadd hX S1.1.1 S1.1.2.2.1 S1.2.2.2.1 (by omega) ⟨by decide, by decide⟩ ⟨by omega, by omega⟩ (fun M2 f2 m62 kd2 pl2 r2 => ?_)
    have A2 := S1.add (s := s) f2 m62 r2 (by omega) (p0 := p) (hS.2.2.2.2.2.2.2.same (Nat.le_refl _) (fun i _ _ => mset_p _ _ _ _ (by omega))) (by omega) pl2
    have S2 := A2.1
    have cx2 := cx1.trans A2.2 (Int.le_refl _)
    have gf2 : GF M2 ↔ GF M := by
      unfold GF
      rw [f2 38 11 (by omega) (by omega), f2 38 12 (by omega) (by omega), mset_i _ _ _ _ (by decide), mset_i _ _ _ _ (by decide)]
    refine wp_iload_n d93_19 rfl ?_
    refine wp_virt (as := [.int (zI (dp : Int)), .int (zI (c : Int))]) (rest := []) d93_20 rfl rfl rfl (S2.1.1.o (by decide) rfl) rfl rfl (Nat.le_of_ble_eq_true rfl) ?_
    refine c_function (v := c) (p0 := p) (M0 := M) IH ⟨S2, cx2, ⟨Int.le_refl _, by omega⟩, ⟨Nat.le_refl _, by omega⟩, Nat.le_refl _, kd2.trans (by decide), pl2, gf2⟩ hdp he (fun M5 R5 K5 L5 n5 s5 z5 cn5 c5 i5 xx5 u1 u2 u3 u4 u5 u6 u7 u8 u9 ua ub t5 => ?_)
    exact wp_ret d93_23 rfl (h M5 R5 K5 L5 n5 s5 z5 cn5 c5 i5 xx5 u1 u2 u3 u4 u5 u6 u7 u8 u9 ua ub t5)
  refine wz_if_eq (t := 24) d93_6 (by decide) ⟨by omega, by omega⟩ (fun _ => ?_) (fun hb => absurd (by decide) hb)
  refine wp_aload_n d93_24 rfl ?_
  refine wz_bipush d93_25 (by decide) ?_
  refine wp_virt (as := [.int (zI 40)]) (rest := []) d93_27 rfl rfl rfl (hS.1.1.o (by decide) rfl) rfl rfl (Nat.le_of_ble_eq_true rfl) ?_
  refine c_take hS.1.1 rt h7 pl0 (by decide) (by decide) (fun g40 hlt => ?_) (fun g40 => ?_)
  · skip
    rw [pM_40 c1 c2 g92 g40] at h
    have S1 := hS.adv hlt
    have cx1 := hS.wset (s := s) ((p + 1 : Nat) : Int) ⟨by omega, by omega⟩
    refine wz_if_eq (t := 48) d93_30 (by decide) ⟨by omega, by omega⟩ (fun hb => absurd hb (by decide)) (fun _ => ?_)
    refine wp_aload_n d93_33 rfl ?_
    refine wp_aload_n d93_34 rfl ?_
    refine wp_getR (q := X) d93_35 rfl (S1.1.1.o (by decide) rfl) (by decide) S1.2.2.1 (by rcases hX with e | e <;> omega) ?_
    refine wz_iconst d93_38 ?_
    refine wp_iload_n d93_39 rfl ?_
    refine wp_virt (as := [.int (zI (p : Int)), .int (zI 2)]) (rest := [.ref 38]) d93_40 rfl rfl rfl (by rcases hX with e | e <;> (rw [e]; exact S1.1.1.o (by decide) rfl)) rfl rfl (Nat.le_of_ble_eq_true rfl) ?_
    refine wc_deep (show 0 + 1 ≤ d + 8 * r + 176 by omega) ?_
    refine c_tadd hX S1.1.1 S1.1.2.2.1 S1.2.2.2.1 (by omega) ⟨by decide, by decide⟩ ⟨by omega, by omega⟩ (fun M2 f2 m62 kd2 pl2 r2 => ?_)
    have A2 := S1.add (s := s) f2 m62 r2 (by omega) (p0 := p) (hS.2.2.2.2.2.2.2.same (Nat.le_refl _) (fun i _ _ => mset_p _ _ _ _ (by omega))) (by omega) pl2
    have S2 := A2.1
    have cx2 := cx1.trans A2.2 (Int.le_refl _)
    have gf2 : GF M2 ↔ GF M := by
      unfold GF
      rw [f2 38 11 (by omega) (by omega), f2 38 12 (by omega) (by omega), mset_i _ _ _ _ (by decide), mset_i _ _ _ _ (by decide)]
    refine wp_iload_n d93_43 rfl ?_
    refine wp_virt (as := [.int (zI (dp : Int)), .int (zI (c : Int))]) (rest := []) d93_44 rfl rfl rfl (S2.1.1.o (by decide) rfl) rfl rfl (Nat.le_of_ble_eq_true rfl) ?_
    refine c_application (v := c) (p0 := p) (M0 := M) IH ⟨S2, cx2, ⟨Int.le_refl _, by omega⟩, ⟨Nat.le_refl _, by omega⟩, Nat.le_refl _, kd2.trans (by decide), pl2, gf2⟩ hdp he (fun M5 R5 K5 L5 n5 s5 z5 cn5 c5 i5 xx5 u1 u2 u3 u4 u5 u6 u7 u8 u9 ua ub t5 => ?_)
    exact wp_ret d93_47 rfl (h M5 R5 K5 L5 n5 s5 z5 cn5 c5 i5 xx5 u1 u2 u3 u4 u5 u6 u7 u8 u9 ua ub t5)
  refine wz_if_eq (t := 48) d93_30 (by decide) ⟨by omega, by omega⟩ (fun _ => ?_) (fun hb => absurd (by decide) hb)
  refine wp_aload_n d93_48 rfl ?_
  refine wz_bipush d93_49 (by decide) ?_
  refine wp_virt (as := [.int (zI 47)]) (rest := []) d93_51 rfl rfl rfl (hS.1.1.o (by decide) rfl) rfl rfl (Nat.le_of_ble_eq_true rfl) ?_
  refine c_take hS.1.1 rt h7 pl0 (by decide) (by decide) (fun g47 hlt => ?_) (fun g47 => ?_)
  · skip
    rw [pM_47 c1 c2 g92 g40 g47] at h
    have S1 := hS.adv hlt
    have cx1 := hS.wset (s := s) ((p + 1 : Nat) : Int) ⟨by omega, by omega⟩
    refine wz_if_eq (t := 72) d93_54 (by decide) ⟨by omega, by omega⟩ (fun hb => absurd hb (by decide)) (fun _ => ?_)
    refine wp_aload_n d93_57 rfl ?_
    refine wp_aload_n d93_58 rfl ?_
    refine wp_getR (q := X) d93_59 rfl (S1.1.1.o (by decide) rfl) (by decide) S1.2.2.1 (by rcases hX with e | e <;> omega) ?_
    refine wz_iconst d93_62 ?_
    refine wp_iload_n d93_63 rfl ?_
    refine wp_virt (as := [.int (zI (p : Int)), .int (zI 3)]) (rest := [.ref 38]) d93_64 rfl rfl rfl (by rcases hX with e | e <;> (rw [e]; exact S1.1.1.o (by decide) rfl)) rfl rfl (Nat.le_of_ble_eq_true rfl) ?_
    refine wc_deep (show 0 + 1 ≤ d + 8 * r + 176 by omega) ?_
    refine c_tadd hX S1.1.1 S1.1.2.2.1 S1.2.2.2.1 (by omega) ⟨by decide, by decide⟩ ⟨by omega, by omega⟩ (fun M2 f2 m62 kd2 pl2 r2 => ?_)
    have A2 := S1.add (s := s) f2 m62 r2 (by omega) (p0 := p) (hS.2.2.2.2.2.2.2.same (Nat.le_refl _) (fun i _ _ => mset_p _ _ _ _ (by omega))) (by omega) pl2
    have S2 := A2.1
    have cx2 := cx1.trans A2.2 (Int.le_refl _)
    have gf2 : GF M2 ↔ GF M := by
      unfold GF
      rw [f2 38 11 (by omega) (by omega), f2 38 12 (by omega) (by omega), mset_i _ _ _ _ (by decide), mset_i _ _ _ _ (by decide)]
    refine wp_iload_n d93_67 rfl ?_
    refine wp_virt (as := [.int (zI (dp : Int)), .int (zI (c : Int))]) (rest := []) d93_68 rfl rfl rfl (S2.1.1.o (by decide) rfl) rfl rfl (Nat.le_of_ble_eq_true rfl) ?_
    refine c_general (v := c) (p0 := p) (M0 := M) IH ⟨S2, cx2, ⟨Int.le_refl _, by omega⟩, ⟨Nat.le_refl _, by omega⟩, Nat.le_refl _, kd2.trans (by decide), pl2, gf2⟩ hdp he (fun M5 R5 K5 L5 n5 s5 z5 cn5 c5 i5 xx5 u1 u2 u3 u4 u5 u6 u7 u8 u9 ua ub t5 => ?_)
    exact wp_ret d93_71 rfl (h M5 R5 K5 L5 n5 s5 z5 cn5 c5 i5 xx5 u1 u2 u3 u4 u5 u6 u7 u8 u9 ua ub t5)
  refine wz_if_eq (t := 72) d93_54 (by decide) ⟨by omega, by omega⟩ (fun _ => ?_) (fun hb => absurd (by decide) hb)
  refine wp_aload_n d93_72 rfl ?_
  refine wz_bipush d93_73 (by decide) ?_
  refine wp_virt (as := [.int (zI 64)]) (rest := []) d93_75 rfl rfl rfl (hS.1.1.o (by decide) rfl) rfl rfl (Nat.le_of_ble_eq_true rfl) ?_
  refine c_take hS.1.1 rt h7 pl0 (by decide) (by decide) (fun g64 hlt => ?_) (fun g64 => ?_)
  · skip
    rw [pM_64 c1 c2 g92 g40 g47 g64] at h
    have S1 := hS.adv hlt
    have cx1 := hS.wset (s := s) ((p + 1 : Nat) : Int) ⟨by omega, by omega⟩
    refine wz_if_eq (t := 96) d93_78 (by decide) ⟨by omega, by omega⟩ (fun hb => absurd hb (by decide)) (fun _ => ?_)
    refine wp_aload_n d93_81 rfl ?_
    refine wp_aload_n d93_82 rfl ?_
    refine wp_getR (q := X) d93_83 rfl (S1.1.1.o (by decide) rfl) (by decide) S1.2.2.1 (by rcases hX with e | e <;> omega) ?_
    refine wz_iconst d93_86 ?_
    refine wp_iload_n d93_87 rfl ?_
    refine wp_virt (as := [.int (zI (p : Int)), .int (zI 4)]) (rest := [.ref 38]) d93_88 rfl rfl rfl (by rcases hX with e | e <;> (rw [e]; exact S1.1.1.o (by decide) rfl)) rfl rfl (Nat.le_of_ble_eq_true rfl) ?_
    refine wc_deep (show 0 + 1 ≤ d + 8 * r + 176 by omega) ?_
    refine c_tadd hX S1.1.1 S1.1.2.2.1 S1.2.2.2.1 (by omega) ⟨by decide, by decide⟩ ⟨by omega, by omega⟩ (fun M2 f2 m62 kd2 pl2 r2 => ?_)
    have A2 := S1.add (s := s) f2 m62 r2 (by omega) (p0 := p) (hS.2.2.2.2.2.2.2.same (Nat.le_refl _) (fun i _ _ => mset_p _ _ _ _ (by omega))) (by omega) pl2
    have S2 := A2.1
    have cx2 := cx1.trans A2.2 (Int.le_refl _)
    have gf2 : GF M2 ↔ GF M := by
      unfold GF
      rw [f2 38 11 (by omega) (by omega), f2 38 12 (by omega) (by omega), mset_i _ _ _ _ (by decide), mset_i _ _ _ _ (by decide)]
    refine wp_iload_n d93_91 rfl ?_
    refine wp_virt (as := [.int (zI (dp : Int)), .int (zI (c : Int))]) (rest := []) d93_92 rfl rfl rfl (S2.1.1.o (by decide) rfl) rfl rfl (Nat.le_of_ble_eq_true rfl) ?_
    refine c_special (v := c) (p0 := p) (M0 := M) IH ⟨S2, cx2, ⟨Int.le_refl _, by omega⟩, ⟨Nat.le_refl _, by omega⟩, Nat.le_refl _, kd2.trans (by decide), pl2, gf2⟩ hdp he (fun M5 R5 K5 L5 n5 s5 z5 cn5 c5 i5 xx5 u1 u2 u3 u4 u5 u6 u7 u8 u9 ua ub t5 => ?_)
    exact wp_ret d93_95 rfl (h M5 R5 K5 L5 n5 s5 z5 cn5 c5 i5 xx5 u1 u2 u3 u4 u5 u6 u7 u8 u9 ua ub t5)
  refine wz_if_eq (t := 96) d93_78 (by decide) ⟨by omega, by omega⟩ (fun _ => ?_) (fun hb => absurd (by decide) hb)
  refine wp_aload_n d93_96 rfl ?_
  refine wz_bipush d93_97 (by decide) ?_
  refine wp_virt (as := [.int (zI 46)]) (rest := []) d93_99 rfl rfl rfl (hS.1.1.o (by decide) rfl) rfl rfl (Nat.le_of_ble_eq_true rfl) ?_
  refine c_take hS.1.1 rt h7 pl0 (by decide) (by decide) (fun g46 hlt => ?_) (fun g46 => ?_)
  · skip
    rw [pM_46 c1 c2 g92 g40 g47 g64 g46] at h
    have S1 := hS.adv hlt
    have cx1 := hS.wset (s := s) ((p + 1 : Nat) : Int) ⟨by omega, by omega⟩
    refine wz_if_eq (t := 121) d93_102 (by decide) ⟨by omega, by omega⟩ (fun hb => absurd hb (by decide)) (fun _ => ?_)
    refine wp_aload_n d93_105 rfl ?_
    refine wp_aload_n d93_106 rfl ?_
    refine wp_getR (q := X) d93_107 rfl (S1.1.1.o (by decide) rfl) (by decide) S1.2.2.1 (by rcases hX with e | e <;> omega) ?_
    refine wz_bipush d93_110 (by decide) ?_
    refine wp_iload_n d93_112 rfl ?_
    refine wp_virt (as := [.int (zI (p : Int)), .int (zI 6)]) (rest := [.ref 38]) d93_113 rfl rfl rfl (by rcases hX with e | e <;> (rw [e]; exact S1.1.1.o (by decide) rfl)) rfl rfl (Nat.le_of_ble_eq_true rfl) ?_
    refine wc_deep (show 0 + 1 ≤ d + 8 * r + 176 by omega) ?_
    refine c_tadd hX S1.1.1 S1.1.2.2.1 S1.2.2.2.1 (by omega) ⟨by decide, by decide⟩ ⟨by omega, by omega⟩ (fun M2 f2 m62 kd2 pl2 r2 => ?_)
    have A2 := S1.add (s := s) f2 m62 r2 (by omega) (p0 := p) (hS.2.2.2.2.2.2.2.same (Nat.le_refl _) (fun i _ _ => mset_p _ _ _ _ (by omega))) (by omega) pl2
    have S2 := A2.1
    have cx2 := cx1.trans A2.2 (Int.le_refl _)
    have gf2 : GF M2 ↔ GF M := by
      unfold GF
      rw [f2 38 11 (by omega) (by omega), f2 38 12 (by omega) (by omega), mset_i _ _ _ _ (by decide), mset_i _ _ _ _ (by decide)]
    refine wp_iload_n d93_116 rfl ?_
    refine wp_virt (as := [.int (zI (dp : Int)), .int (zI (c : Int))]) (rest := []) d93_117 rfl rfl rfl (S2.1.1.o (by decide) rfl) rfl rfl (Nat.le_of_ble_eq_true rfl) ?_
    refine c_selection (v := c) (p0 := p) (M0 := M) IH ⟨S2, cx2, ⟨Int.le_refl _, by omega⟩, ⟨Nat.le_refl _, by omega⟩, Nat.le_refl _, kd2.trans (by decide), pl2, gf2⟩ hdp he (fun M5 R5 K5 L5 n5 s5 z5 cn5 c5 i5 xx5 u1 u2 u3 u4 u5 u6 u7 u8 u9 ua ub t5 => ?_)
    exact wp_ret d93_120 rfl (h M5 R5 K5 L5 n5 s5 z5 cn5 c5 i5 xx5 u1 u2 u3 u4 u5 u6 u7 u8 u9 ua ub t5)
  refine wz_if_eq (t := 121) d93_102 (by decide) ⟨by omega, by omega⟩ (fun _ => ?_) (fun hb => absurd (by decide) hb)
  refine wp_aload_n d93_121 rfl ?_
  refine wz_bipush d93_122 (by decide) ?_
  refine wp_virt (as := [.int (zI 63)]) (rest := []) d93_124 rfl rfl rfl (hS.1.1.o (by decide) rfl) rfl rfl (Nat.le_of_ble_eq_true rfl) ?_
  refine c_take hS.1.1 rt h7 pl0 (by decide) (by decide) (fun g63 hlt => ?_) (fun g63 => ?_)
  · skip
    rw [pM_63 c1 c2 g92 g40 g47 g64 g46 g63] at h
    have S1 := hS.adv hlt
    have cx1 := hS.wset (s := s) ((p + 1 : Nat) : Int) ⟨by omega, by omega⟩
    refine wz_if_eq (t := 148) d93_127 (by decide) ⟨by omega, by omega⟩ (fun hb => absurd hb (by decide)) (fun _ => ?_)
    refine wp_aload_n d93_130 rfl ?_
    refine wp_aload_n d93_131 rfl ?_
    refine wp_getR (q := X) d93_132 rfl (S1.1.1.o (by decide) rfl) (by decide) S1.2.2.1 (by rcases hX with e | e <;> omega) ?_
    refine wz_bipush d93_135 (by decide) ?_
    refine wp_iload_n d93_137 rfl ?_
    refine wp_virt (as := [.int (zI (p : Int)), .int (zI 7)]) (rest := [.ref 38]) d93_138 rfl rfl rfl (by rcases hX with e | e <;> (rw [e]; exact S1.1.1.o (by decide) rfl)) rfl rfl (Nat.le_of_ble_eq_true rfl) ?_
    refine wc_deep (show 0 + 1 ≤ d + 8 * r + 176 by omega) ?_
    refine c_tadd hX S1.1.1 S1.1.2.2.1 S1.2.2.2.1 (by omega) ⟨by decide, by decide⟩ ⟨by omega, by omega⟩ (fun M2 f2 m62 kd2 pl2 r2 => ?_)
    have A2 := S1.add (s := s) f2 m62 r2 (by omega) (p0 := p) (hS.2.2.2.2.2.2.2.same (Nat.le_refl _) (fun i _ _ => mset_p _ _ _ _ (by omega))) (by omega) pl2
    have S2 := A2.1
    have cx2 := cx1.trans A2.2 (Int.le_refl _)
    have gf2 : GF M2 ↔ GF M := by
      unfold GF
      rw [f2 38 11 (by omega) (by omega), f2 38 12 (by omega) (by omega), mset_i _ _ _ _ (by decide), mset_i _ _ _ _ (by decide)]
    refine wp_iload_n d93_141 rfl ?_
    refine wp_virt (as := [.int (zI (dp : Int)), .int (zI (c : Int))]) (rest := []) d93_142 rfl rfl rfl (S2.1.1.o (by decide) rfl) rfl rfl (Nat.le_of_ble_eq_true rfl) ?_
    refine c_choice (v := c) (p0 := p) (M0 := M) IH ⟨S2, cx2, ⟨Int.le_refl _, by omega⟩, ⟨Nat.le_refl _, by omega⟩, Nat.le_refl _, kd2.trans (by decide), pl2, gf2⟩ hdp he (fun M5 R5 K5 L5 n5 s5 z5 cn5 c5 i5 xx5 u1 u2 u3 u4 u5 u6 u7 u8 u9 ua ub t5 => ?_)
    refine wp_goto (t := 149) d93_145 (by decide) ?_
    exact wp_ret d93_149 rfl (h M5 R5 K5 L5 n5 s5 z5 cn5 c5 i5 xx5 u1 u2 u3 u4 u5 u6 u7 u8 u9 ua ub t5)
  refine wz_if_eq (t := 148) d93_127 (by decide) ⟨by omega, by omega⟩ (fun _ => ?_) (fun hb => absurd (by decide) hb)
  · skip
    rw [pM_none c1 c2 g92 g40 g47 g64 g46 g63] at h
    refine wz_iconst d93_148 ?_
    exact wp_ret d93_149 rfl (h M Rf K L n s z cn c (-1) (CX.refl hS.1.1 hS.1.2.1 hS.1.2.2.1) hS.1.2.2.2.1 (Int.le_refl _) (by omega) hcz h7 hS.1.2.2.2.2.2.2.2.2.2.2.2.1 hS.2.2.2.2.2.1 hS.2.2.2.1 (Nat.le_refl _) (by omega) hS.2.2.2.2.2.2.2 rfl)
set_option maxRecDepth 20000 in
set_option maxHeartbeats 2000000 in
theorem c_anyTerm {r : Nat} (IH : ∀ r', r = r' + 1 → TmC tx ln d r') : TmC tx ln d r := by
  intro dp X e p c M Rf K L n s z cn Q hdp hS he h
  have nl := nct_len e
  have hX := hS.2.1
  have l60 := hS.1.2.2.2.2.2.2.2.2.1.2.1
  have pl0 := hS.1.2.2.2.2.2.2.2.2.2.2.1
  have hcp := hS.2.2.2.2.1
  have rt := hS.1.2.2.2.2.2.2.2.2.1
  have h7 := hS.1.2.2.2.2.2.2.2.2.2.1
  have hcz := hS.1.2.2.2.2.2.1
  refine wc_in (ls0 := [some (.ref 38), some (.int (zI (dp : Int))), none, none, none]) (by decide) (Nat.le_of_ble_eq_true rfl) rfl rfl ?_
  refine wp_aload_n d92_0 rfl ?_
  refine wz_getI (v := (p : Int)) d92_1 rfl (hS.1.1.o (by decide) rfl) (by decide) (h7) ?_
  refine wp_istore_n d92_4 (Nat.le_of_ble_eq_true rfl) rfl ?_
  refine wp_aload_n d92_5 rfl ?_
  refine wz_bipush d92_6 (by decide) ?_
  refine wz_bipush d92_8 (by decide) ?_
  refine wp_virt (as := [.int (zI 100), .int (zI 97)]) (rest := []) d92_10 rfl rfl rfl (hS.1.1.o (by decide) rfl) rfl rfl (Nat.le_of_ble_eq_true rfl) ?_
  refine c_takeB hS.1.1 rt h7 pl0 (by decide) (by decide) (by decide) (by decide) (fun c1 hlt => ?_) (fun c1 => ?_)
  · skip
    rw [pM_v c1] at h
    have S1 := hS.adv hlt
    have cx1 := hS.wset (s := s) ((p + 1 : Nat) : Int) ⟨by omega, by omega⟩
    refine wp_istore_n d92_13 (Nat.le_of_ble_eq_true rfl) rfl ?_
    refine wp_iload_n d92_14 rfl ?_
    refine wz_if_eq (t := 49) d92_15 (by decide) ⟨by omega, by omega⟩ (fun hb => absurd hb (by omega)) (fun _ => ?_)
    refine wp_aload_n d92_18 rfl ?_
    refine wp_getR (q := X) d92_19 rfl (S1.1.1.o (by decide) rfl) (by decide) S1.2.2.1 (by rcases hX with e | e <;> omega) ?_
    refine wz_iconst d92_22 ?_
    refine wp_iload_n d92_23 rfl ?_
    refine wp_virt (as := [.int (zI (p : Int)), .int (zI 0)]) (rest := []) d92_24 rfl rfl rfl (by rcases hX with e | e <;> (rw [e]; exact S1.1.1.o (by decide) rfl)) rfl rfl (Nat.le_of_ble_eq_true rfl) ?_
    refine wc_deep (show 0 + 1 ≤ d + 8 * r + 169 by omega) ?_
    refine c_tadd hX S1.1.1 S1.1.2.2.1 S1.2.2.2.1 (by omega) ⟨by decide, by decide⟩ ⟨by omega, by omega⟩ (fun M2 f2 m62 kd2 pl2 r2 => ?_)
    have A2 := S1.add (s := s) f2 m62 r2 (by omega) (p0 := p) (hS.2.2.2.2.2.2.2.same (Nat.le_refl _) (fun i _ _ => mset_p _ _ _ _ (by omega))) (by omega) pl2
    have S2 := A2.1
    have cx2 := cx1.trans A2.2 (Int.le_refl _)
    have gf2 : GF M2 ↔ GF M := by
      unfold GF
      rw [f2 38 11 (by omega) (by omega), f2 38 12 (by omega) (by omega), mset_i _ _ _ _ (by decide), mset_i _ _ _ _ (by decide)]
    refine wp_istore d92_27 (Nat.le_of_ble_eq_true rfl) rfl ?_
    refine wp_aload_n d92_29 rfl ?_
    refine wp_getR (q := X) d92_30 rfl (S2.1.1.o (by decide) rfl) (by decide) S2.2.2.1 (by rcases hX with e | e <;> omega) ?_
    refine wp_iload d92_33 rfl ?_
    refine wz_iconst d92_35 ?_
    refine wp_aload_n d92_36 rfl ?_
    refine wp_iload_n d92_37 rfl ?_
    refine wp_virt (as := [.int (zI (chr tx ln p))]) (rest := [.int (zI 0), .int (zI (c : Int)), .ref X]) d92_38 rfl rfl rfl (S2.1.1.o (by decide) rfl) rfl rfl (Nat.le_of_ble_eq_true rfl) ?_
    have n25 : Rf 38 5 = X := hS.2.2.1
    -- behind the look-up
    have fin : ∀ (M3 : pm_M) (b : Int), RmS tx ln X e (p + 1) (c + 1) M3 Rf K L n z cn → CX (WTm X c e) M Rf K L n s z cn M3 Rf K L n s z → R32 b → M3 (X + 1) (c : Int) = 0 → M3 (X + 2) (c : Int) = (p : Int) → ((bnr e (chr tx ln p)).isSome = true → (0 ≤ b ∧ b < ((c + 1 : Nat) : Int)) ∧ M3 (X + 2) b = (((bnr e (chr tx ln p)).getD 0 : Nat) : Int)) → (GF M3 ↔ GF M ∧ (bnr e (chr tx ln p)).isSome = true) → pm_Wp none (d + 8 * r + 169) 92 41 [some (.ref 38), some (.int (zI (dp : Int))), some (.int (zI (p : Int))), some (.int (zI (chr tx ln p))), some (.int (zI (c : Int)))] [.int (zI b), .int (zI 0), .int (zI (c : Int)), .ref X] (zM M3, Rf, K, L, n, s) Q := by
      intro M3 b S3 cx3 rb k13 k23 hb3 gf3
      refine wz_iconst d92_41 ?_
      refine wz_iconst d92_42 ?_
      refine wp_virt (as := [.int (zI 0), .int (zI 0), .int (zI b), .int (zI 0), .int (zI (c : Int))]) (rest := []) d92_43 rfl rfl rfl (by rcases hX with e | e <;> (rw [e]; exact S3.1.1.o (by decide) rfl)) rfl rfl (Nat.le_of_ble_eq_true rfl) ?_
      refine wc_deep (show 0 + 1 ≤ d + 8 * r + 169 by omega) ?_
      refine c_tfill hX S3.1.1 S3.1.2.2.1 (by omega) ⟨by omega, by omega⟩ rb ⟨by omega, by omega⟩ ⟨by omega, by omega⟩ (fun M6 f6 fm6 fx6 fy6 fz6 r6 => ?_)
      have F6 := S3.fil (s := s) f6 r6 (c0 := c) (Nat.le_refl _)
      have S6 := F6.1
      have cx6 := cx3.trans F6.2 (Int.le_refl _)
      have gf6 : GF M6 ↔ GF M ∧ (bnr e (chr tx ln p)).isSome = true := by
        have g0 := gf3
        unfold GF at g0 ⊢
        rw [f6 38 11 (by omega), f6 38 12 (by omega)]; exact g0
      refine wp_iload d92_46 rfl ?_
      refine wp_ret d92_48 rfl (h M6 Rf K L n s z cn (c + 1) (c : Int) cx6 S6.1.2.2.2.1 (Int.le_refl _) (by show cn ≤ cn + ((p + 1 - p : Nat) : Int); omega) hcz S6.1.2.2.2.2.2.2.2.2.2.1 S6.1.2.2.2.2.2.2.2.2.2.2.2.1 S6.2.2.2.2.2.1 S6.2.2.2.1 (by omega) (by show c + 1 ≤ c + (p + 1 - p); omega) S6.2.2.2.2.2.2.2 ⟨⟨rfl, by omega⟩, fun hg => ?_, gf6⟩)
      obtain ⟨g1, g2⟩ := hb3 hg
      refine CNd.mkv ⟨Int.le_refl _, by omega⟩ ((f6 _ _ (by omega)).trans k13) ((f6 _ _ (by omega)).trans k23) ?_
      rw [fx6]
      exact ⟨g1, (f6 _ _ (by omega)).trans g2⟩
    refine wc_deep (show 0 + 1 ≤ d + 8 * r + 169 by omega) ?_
    refine c_binderOf S2.1.1 S2.1.2.2.1 S2.2.2.2.2.2.1 (by omega) S2.2.2.2.2.2.2.1 ⟨by omega, by omega⟩ (fun pl b eb b0 b1 eb2 => ?_) (fun eb => ?_)
    · refine fin M2 b S2 cx2 ⟨by omega, by omega⟩ kd2 pl2 (fun _ => ⟨⟨b0, b1⟩, by rw [eb]; exact eb2⟩) ?_
      rw [eb, gf2]
      exact ⟨fun x => ⟨x, rfl⟩, fun x => x.1⟩
    · have f3 : ∀ (q : Nat) (i : Int), ¬ (q = 38 ∧ i = 11) → mset M2 38 11 0 q i = M2 q i := fun q i hq => by unfold mset; rw [if_neg hq]
      have S3 : RmS tx ln X e (p + 1) (c + 1) (mset M2 38 11 0) Rf K L n z cn := S2.of (S2.1.set (fun q i hq => f3 q i (fun x => hq ⟨x.1, Or.inr x.2⟩)) (by rw [f3 38 7 (by omega)]; exact S2.1.2.2.2.2.2.2.2.2.2.1) (Nat.le_refl _) (by omega) (mset_R32 S2.1.2.2.1 ⟨by omega, by omega⟩)) S2.2.2.1 (by rw [f3 X 6 (by omega)]; exact S2.2.2.2.1) (by omega) (by rw [f3 38 9 (by omega)]; exact S2.2.2.2.2.2.1) (Nat.le_refl _) (fun q hq i _ _ => f3 q i (by omega)) (fun i _ _ => f3 _ i (by omega)) (S2.2.2.2.2.2.2.2.same (Nat.le_refl _) (fun i _ _ => f3 _ i (by omega)))
      refine fin _ 0 S3 (cx2.set (fun g hg => by have := S2.1.2.1.2.1 g hg; omega) (by unfold WTm WT2 WT; omega) ⟨by omega, by omega⟩) ⟨by omega, by omega⟩ (by rw [f3 _ _ (by omega)]; exact kd2) (by rw [f3 _ _ (by omega)]; exact pl2) (fun hb => by rw [eb] at hb; cases hb) ?_
      rw [eb]
      unfold GF
      rw [mset_s]
      exact ⟨fun x => absurd rfl x.1, fun x => by cases x.2⟩
  refine wp_istore_n d92_13 (Nat.le_of_ble_eq_true rfl) rfl ?_
  refine wp_iload_n d92_14 rfl ?_
  refine wz_if_eq (t := 49) d92_15 (by decide) ⟨by omega, by omega⟩ (fun _ => ?_) (fun hb => absurd (by decide) hb)
  refine wp_iload_n d92_49 rfl ?_
  refine wz_bipush d92_50 (by decide) ?_
  refine wz_icmp_le (t := 57) d92_52 (by decide) ⟨by omega, by omega⟩ ⟨by omega, by omega⟩ (fun _ => ?_) (fun hb => absurd (by omega) hb)
  refine wp_aload_n d92_57 rfl ?_
  refine wz_bipush d92_58 (by decide) ?_
  refine wp_virt (as := [.int (zI 123)]) (rest := []) d92_60 rfl rfl rfl (hS.1.1.o (by decide) rfl) rfl rfl (Nat.le_of_ble_eq_true rfl) ?_
  refine c_take hS.1.1 rt h7 pl0 (by decide) (by decide) (fun c2 hlt => ?_) (fun c2 => ?_)
  · skip
    rw [pM_r c1 c2] at h
    have S1 := hS.adv hlt
    have cx1 := hS.wset (s := s) ((p + 1 : Nat) : Int) ⟨by omega, by omega⟩
    refine wz_if_eq (t := 82) d92_63 (by decide) ⟨by omega, by omega⟩ (fun hb => absurd hb (by decide)) (fun _ => ?_)
    refine wp_aload_n d92_66 rfl ?_
    refine wz_iconst d92_67 ?_
    refine wp_aload_n d92_68 rfl ?_
    refine wp_getR (q := X) d92_69 rfl (S1.1.1.o (by decide) rfl) (by decide) S1.2.2.1 (by rcases hX with e | e <;> omega) ?_
    refine wz_iconst d92_72 ?_
    refine wp_iload_n d92_73 rfl ?_
    refine wp_virt (as := [.int (zI (p : Int)), .int (zI 5)]) (rest := [.int (zI 0), .ref 38]) d92_74 rfl rfl rfl (by rcases hX with e | e <;> (rw [e]; exact S1.1.1.o (by decide) rfl)) rfl rfl (Nat.le_of_ble_eq_true rfl) ?_
    refine wc_deep (show 0 + 1 ≤ d + 8 * r + 169 by omega) ?_
    refine c_tadd hX S1.1.1 S1.1.2.2.1 S1.2.2.2.1 (by omega) ⟨by decide, by decide⟩ ⟨by omega, by omega⟩ (fun M2 f2 m62 kd2 pl2 r2 => ?_)
    have A2 := S1.add (s := s) f2 m62 r2 (by omega) (p0 := p) (hS.2.2.2.2.2.2.2.same (Nat.le_refl _) (fun i _ _ => mset_p _ _ _ _ (by omega))) (by omega) pl2
    have S2 := A2.1
    have cx2 := cx1.trans A2.2 (Int.le_refl _)
    have gf2 : GF M2 ↔ GF M := by
      unfold GF
      rw [f2 38 11 (by omega) (by omega), f2 38 12 (by omega) (by omega), mset_i _ _ _ _ (by decide), mset_i _ _ _ _ (by decide)]
    refine wp_iload_n d92_77 rfl ?_
    refine wp_virt (as := [.int (zI (dp : Int)), .int (zI (c : Int)), .int (zI 0)]) (rest := []) d92_78 rfl rfl rfl (S2.1.1.o (by decide) rfl) rfl rfl (Nat.le_of_ble_eq_true rfl) ?_
    refine c_recM (v := c) (p0 := p) (M0 := M) IH ⟨S2, cx2, ⟨Int.le_refl _, by omega⟩, ⟨Nat.le_refl _, by omega⟩, Nat.le_refl _, kd2.trans (by decide), pl2, gf2⟩ hdp he (fun M5 R5 K5 L5 n5 s5 z5 cn5 c5 i5 xx5 u1 u2 u3 u4 u5 u6 u7 u8 u9 ua ub t5 => wp_ret d92_81 rfl (h M5 R5 K5 L5 n5 s5 z5 cn5 c5 i5 xx5 u1 u2 u3 u4 u5 u6 u7 u8 u9 ua ub t5))
  refine wz_if_eq (t := 82) d92_63 (by decide) ⟨by omega, by omega⟩ (fun _ => ?_) (fun hb => absurd (by decide) hb)
  cases r with
  | zero =>
    rw [pM_z c1 c2] at h
    refine wp_iload_n d92_82 rfl ?_
    refine wz_bipush d92_83 (by decide) ?_
    refine wz_icmp_ne (t := 92) d92_85 (by decide) ⟨by omega, by omega⟩ ⟨by omega, by omega⟩ (fun hb => absurd (by omega) hb) (fun _ => ?_)
    refine wz_iconst d92_88 ?_
    refine wp_goto (t := 98) d92_89 (by decide) ?_
    exact wp_ret d92_98 rfl (h M Rf K L n s z cn c (-1) (CX.refl hS.1.1 hS.1.2.1 hS.1.2.2.1) hS.1.2.2.2.1 (Int.le_refl _) (by omega) hcz h7 hS.1.2.2.2.2.2.2.2.2.2.2.2.1 hS.2.2.2.2.2.1 hS.2.2.2.1 (Nat.le_refl _) (by omega) hS.2.2.2.2.2.2.2 rfl)
  | succ r =>
  have IHr := IH r rfl
  refine wp_iload_n d92_82 rfl ?_
  refine wz_bipush d92_83 (by decide) ?_
  refine wz_icmp_ne (t := 92) d92_85 (by decide) ⟨by omega, by omega⟩ ⟨by omega, by omega⟩ (fun _ => ?_) (fun hb => absurd hb (by omega))
  refine wp_aload_n d92_92 rfl ?_
  refine wp_iload_n d92_93 rfl ?_
  refine wp_iload_n d92_94 rfl ?_
  refine wp_virt (as := [.int (zI (dp : Int)), .int (zI (p : Int))]) (rest := []) d92_95 rfl rfl rfl (hS.1.1.o (by decide) rfl) rfl rfl (Nat.le_of_ble_eq_true rfl) ?_
  refine wc_deep (show d + 8 * r + 177 ≤ d + 8 * (r + 1) + 169 by omega) ?_
  refine c_holding IHr hS c1 c2 (by omega) (by omega) (fun M5 R5 K5 L5 n5 s5 z5 cn5 c5 i5 xx5 u1 u2 u3 u4 u5 u6 u7 u8 u9 ua ub t5 => wp_ret d92_98 rfl (h M5 R5 K5 L5 n5 s5 z5 cn5 c5 i5 xx5 u1 u2 u3 u4 u5 u6 u7 u8 u9 ua ub t5))
theorem c_terms (tx : Nat → Int) (ln d : Nat) : ∀ r, TmC tx ln d r
  | 0 => c_anyTerm (fun r' e => by omega)
  | r + 1 => c_anyTerm (fun r' e => by
    have : r' = r := by omega
    subst this
    exact c_terms tx ln d r')
end PmC38
