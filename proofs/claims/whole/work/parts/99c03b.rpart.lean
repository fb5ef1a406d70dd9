/-! THE CLASS: reading records. -/
section PmC37
variable {tx : Nat → Int} {ln d : Nat}
theorem c_binderOf {X : Nat} {cnt : Int} {c : Int} {e : List (Nat × Int × Nat)} {Q : Option Value → pm_S → Prop} {M : pm_M} {Rf : Nat → Nat → Nat} {K L : Nat → Nat} {n s : Nat} (hG : pm_G Rf K L n) (hM : ∀ p i, R32 (M p i)) (ho : M 38 9 = (nct e : Int)) (o1 : nct e ≤ 24) (ht : NNm M X cnt e) (rc : R32 c) (h1 : ∀ (pl : Nat) (b : Int), bnr e c = some pl → 0 ≤ b → b < cnt → M (X + 2) b = (pl : Int) → Q (some (.int (zI b))) (zM M, Rf, K, L, n, s)) (h0 : bnr e c = none → Q (some (.int (zI 0))) (zM (mset M 38 11 0), Rf, K, L, n, s)) : pm_Wc (d + 1) 85 [.ref 38, .int (zI c)] (zM M, Rf, K, L, n, s) Q := by
  have loop : ∀ e' : List (Nat × Int × Nat), nct e' ≤ 24 → NNm M X cnt e' → bnr e c = bnr e' c → pm_Wp none d 85 12 [some (.ref 38), some (.int (zI c)), some (.int (zI ((nct e' : Int) - 1)))] [] (zM M, Rf, K, L, n, s) Q := by
    intro e'
    induction e' with
    | nil =>
      intro hl' t' eq
      rw [show ((nct [] : Nat) : Int) - 1 = -1 by rfl]
      refine wp_iload_n d85_12 rfl ?_
      refine wz_if_lt (t := 39) d85_13 (by decide) ⟨by omega, by omega⟩ (fun _ => ?_) (fun hb => absurd (by decide) hb)
      refine wp_aload_n d85_39 rfl ?_
      refine wz_iconst d85_40 ?_
      refine wz_putI (i := 11) d85_41 rfl (hG.o (by decide) rfl) (by decide) (by decide) rfl ?_
      refine wz_iconst d85_44 ?_
      exact wp_ret d85_45 rfl (h0 eq)
    | cons a e' ih =>
      intro hl' t' eq
      have eq : bnr e c = if a.1 = 1 ∧ a.2.1 = c then some a.2.2 else bnr e' c := eq
      have hl' : (if a.1 = 1 then nct e' + 1 else nct e') ≤ 24 := hl'
      show pm_Wp none d 85 12 [some (.ref 38), some (.int (zI c)), some (.int (zI (((if a.1 = 1 then nct e' + 1 else nct e') : Nat) - 1 : Int)))] [] (zM M, Rf, K, L, n, s) Q
      by_cases ka : a.1 = 1
      · rw [if_pos ka] at hl' ⊢
        obtain ⟨t1, t2, t3⟩ := t'.1 ka
        rw [show (((nct e' + 1 : Nat) : Int)) - 1 = (nct e' : Int) by omega]
        have ra : R32 a.2.1 := by rw [← t1]; exact hM _ _
        refine wp_iload_n d85_12 rfl ?_
        refine wz_if_lt (t := 39) d85_13 (by decide) ⟨by omega, by omega⟩ (fun hb => absurd hb (by omega)) (fun _ => ?_)
        refine wp_aload_n d85_16 rfl ?_
        refine wp_getR (q := 40) d85_17 rfl (hG.o (by decide) rfl) (by decide) (hG.r (by decide +kernel)) (by decide) ?_
        refine wp_iload_n d85_20 rfl ?_
        refine wz_cald (z := 24) (v := a.2.1) d85_21 (hG.a (by decide) rfl rfl) (by omega) (by omega) (by decide) (t1) ?_
        refine wp_iload_n d85_22 rfl ?_
        refine wz_icmp_ne (t := 33) d85_23 (by decide) ra rc (fun hne => ?_) (fun heq => ?_)
        · skip
          rw [if_neg (fun z => hne z.2)] at eq
          refine wz_iinc d85_33 rfl rfl ?_
          refine wp_goto (t := 12) d85_36 (by decide) ?_
          rw [show (nct e' : Int) + (-1) = (nct e' : Int) - 1 by omega]
          exact ih (by omega) t'.2 eq
        · skip
          rw [if_pos ⟨ka, heq⟩] at eq
          refine wp_aload_n d85_26 rfl ?_
          refine wp_getR (q := 41) d85_27 rfl (hG.o (by decide) rfl) (by decide) (hG.r (by decide +kernel)) (by decide) ?_
          refine wp_iload_n d85_30 rfl ?_
          refine wz_iald (z := 24) (v := M 41 (nct e' : Int)) d85_31 (hG.a (by decide) rfl rfl) (by omega) (by omega) (by decide) (rfl) ?_
          exact wp_ret d85_32 rfl (h1 _ _ eq t2.1 t2.2 t3)
      · rw [if_neg ka] at hl' ⊢
        rw [if_neg (fun z => ka z.1)] at eq
        exact ih hl' t'.2 eq
  refine wc_in (ls0 := [some (.ref 38), some (.int (zI c)), none]) (by decide) (Nat.le_of_ble_eq_true rfl) rfl rfl ?_
  refine wp_aload_n d85_0 rfl ?_
  refine wz_getI (v := (nct e : Int)) d85_1 rfl (hG.o (by decide) rfl) (by decide) (ho) ?_
  refine wz_bipush d85_4 (by decide) ?_
  refine wz_minl (rest := []) d85_6 rfl rfl rfl (Nat.le_of_ble_eq_true rfl) ⟨by omega, by omega⟩ ⟨by omega, by omega⟩ (by omega) ?_
  refine wz_iconst d85_9 ?_
  refine wz_isub d85_10 ?_
  refine wp_istore_n d85_11 (Nat.le_of_ble_eq_true rfl) rfl ?_
  exact loop e o1 ht rfl
theorem c_recPartM {r X c : Nat} (IH : TmC tx ln d r) {e : List (Nat × Int × Nat)} {p dp : Nat} {M : pm_M} {Rf : Nat → Nat → Nat} {K L : Nat → Nat} {n s z : Nat} {cn : Int} {Q : Option Value → pm_S → Prop} (hS : RmS tx ln X e p c M Rf K L n z cn) (hdp : dp + r + 1 = 24) (he : e.length + r + 1 ≤ 24) (h : RmQ X e (r + 1) p c (if chr tx ln p = 61 then pM tx ln r e (p + 1) else (p, none)) M Rf K L n s z cn Q) : pm_Wc (d + 8 * r + 172) 91 [.ref 38, .int (zI 0), .int (zI (dp : Int))] (zM M, Rf, K, L, n, s) Q := by
  have l60 := hS.1.2.2.2.2.2.2.2.2.1.2.1
  have pl0 := hS.1.2.2.2.2.2.2.2.2.2.2.1
  refine wc_in (ls0 := [some (.ref 38), some (.int (zI 0)), some (.int (zI (dp : Int)))]) (by decide) (Nat.le_of_ble_eq_true rfl) rfl rfl ?_
  refine wp_iload_n d91_0 rfl ?_
  refine wz_if_eq (t := 12) d91_1 (by decide) ⟨by omega, by omega⟩ (fun _ => ?_) (fun hb => absurd (by decide) hb)
  refine wp_aload_n d91_12 rfl ?_
  refine wz_bipush d91_13 (by decide) ?_
  refine wp_virt (as := [.int (zI 61)]) (rest := []) d91_15 rfl rfl rfl (hS.1.1.o (by decide) rfl) rfl rfl (Nat.le_of_ble_eq_true rfl) ?_
  refine c_take hS.1.1 hS.1.2.2.2.2.2.2.2.2.1 hS.1.2.2.2.2.2.2.2.2.2.1 pl0 (by decide) (by decide) (fun hc hlt => ?_) (fun hc => ?_)
  rotate_left
  · skip
    rw [if_neg hc] at h
    refine wz_if_eq (t := 31) d91_18 (by decide) ⟨by omega, by omega⟩ (fun _ => ?_) (fun hb => absurd (by decide) hb)
    refine wz_iconst d91_31 ?_
    exact wp_ret d91_32 rfl (h M Rf K L n s z cn c (-1) (CX.refl hS.1.1 hS.1.2.1 hS.1.2.2.1) hS.1.2.2.2.1 (Int.le_refl _) (by omega) hS.1.2.2.2.2.2.1 hS.1.2.2.2.2.2.2.2.2.2.1 hS.1.2.2.2.2.2.2.2.2.2.2.2.1 hS.2.2.2.2.2.1 hS.2.2.2.1 (Nat.le_refl _) (by omega) hS.2.2.2.2.2.2.2 rfl)
  rw [if_pos hc] at h
  have S1 := hS.adv hlt
  have cx1 := hS.wset (s := s) ((p + 1 : Nat) : Int) ⟨by omega, by omega⟩
  have fwm := pM_fw (tx := tx) (ln := ln) r e (p + 1) (by omega)
  refine wz_if_eq (t := 31) d91_18 (by decide) ⟨by omega, by omega⟩ (fun hb => absurd hb (by decide)) (fun _ => ?_)
  refine wp_aload_n d91_21 rfl ?_
  refine wp_iload_n d91_22 rfl ?_
  refine wz_iconst d91_23 ?_
  refine wz_iadd d91_24 ?_
  refine wp_virt (as := [.int (zI ((dp : Int) + 1))]) (rest := []) d91_25 rfl rfl rfl (S1.1.1.o (by decide) rfl) rfl rfl (Nat.le_of_ble_eq_true rfl) ?_
  rw [show (dp : Int) + 1 = ((dp + 1 : Nat) : Int) by omega]
  refine wc_deep (show d + 8 * r + 170 ≤ d + 8 * r + 171 by omega) ?_
  refine IH (dp + 1) X e (p + 1) c _ Rf K L n s z cn _ (by omega) S1 (by omega) (fun M1 R1 K1 L1 n1 s1 z1 cn1 c1 i1 xx1 u1 u2 u3 u4 u5 u6 u7 u8 u9 ua ub t1 => ?_)
  have f1 := fwm.1
  refine wp_goto (t := 32) d91_28 (by decide) ?_
  refine wp_ret d91_32 rfl (h M1 R1 K1 L1 n1 s1 z1 cn1 c1 i1 (cx1.trans xx1 (Int.le_refl _)) u1 u2 (by omega) u4 u5 u6 u7 u8 u9 (by omega) ub ?_)
  have eg : GF (mset M 38 7 ((p + 1 : Nat) : Int)) = GF M := by unfold GF; rw [mset_i _ _ _ _ (by decide), mset_i _ _ _ _ (by decide)]
  rw [eg] at t1
  exact t1
end PmC37
