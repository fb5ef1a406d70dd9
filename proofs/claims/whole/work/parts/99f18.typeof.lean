/-! THE MODEL: typeOf, fits. -/
section PmF18
variable {d : Nat} {Q : Option Value → pm_S → Prop} {N : pm_M} {Rf : Nat → Nat → Nat} {K L : Nat → Nat} {n s : Nat} {a b : Nat} {T : Ty} {Tt : Int → Option Ty} {k : Int}
theorem typeOf_no (hG : pm_G Rf K L n) (h4 : N 56 4 = 0) (h : Q (some (.int (zI (-2)))) (zM N, Rf, K, L, n, s)) : pm_Wc (d + 1) 196 [.ref 56, .int (zI k)] (zM N, Rf, K, L, n, s) Q := by
  refine wc_in (ls0 := [some (.ref 56), some (.int (zI k)), none]) (by decide) (Nat.le_of_ble_eq_true rfl) rfl rfl ?_
  refine wp_aload_n d196_0 rfl ?_
  refine wz_getI (v := 0) d196_1 rfl (hG.o (by decide) rfl) (by decide) (h4) ?_
  refine wz_if_eq (t := 15) d196_4 (by decide) ⟨by omega, by omega⟩ (fun _ => ?_) (fun hb => absurd (by decide) hb)
  refine wz_bipush d196_15 (by decide) ?_
  exact wp_ret d196_17 rfl (h)
theorem fits_no (hG : pm_G Rf K L n) (h4 : N 56 4 = 0) (h : Q (some (.int (zI 0))) (zM N, Rf, K, L, n, s)) : pm_Wc (d + 1) 197 [.ref 56, .int (zI k)] (zM N, Rf, K, L, n, s) Q := by
  refine wc_in (ls0 := [some (.ref 56), some (.int (zI k))]) (by decide) (Nat.le_of_ble_eq_true rfl) rfl rfl ?_
  refine wp_aload_n d197_0 rfl ?_
  refine wz_getI (v := 0) d197_1 rfl (hG.o (by decide) rfl) (by decide) (h4) ?_
  refine wz_if_le (t := 39) d197_4 (by decide) ⟨by omega, by omega⟩ (fun _ => ?_) (fun hb => absurd (by decide) hb)
  refine wz_iconst d197_39 ?_
  exact wp_ret d197_40 rfl (h)
theorem m_typeOf (hC : CmL d) (hG : pm_G Rf K L n) (hM : ∀ p i, R32 (N p i)) (rk : R32 k) (hT : SLM N Tt) (tm : TMm N a b T) (tw : TWf 24 0 [] T) (tl : TL 24 T [] [] ∧ mch T ≤ 60) (h2 : ¬ (0 ≤ k ∧ k ≤ 3) → Q (some (.int (zI (-2)))) (zM N, Rf, K, L, n, s)) (h0 : (0 ≤ k ∧ k ≤ 3) → ∀ p, tyF 24 T [] [] = .inl p → ∀ N' : pm_M, (∀ p i, R32 (N' p i)) → MF N N' → SLM N' Tt → Q (some (.int (zI (p : Int)))) (zM N', Rf, K, L, n, s)) (h1 : (0 ≤ k ∧ k ≤ 3) → ∀ A, tyF 24 T [] [] = .inr A → ∀ N' : pm_M, (∀ p i, R32 (N' p i)) → MF N N' → SLM N' (slu Tt k A) → Q (some (.int (zI (-1)))) (zM N', Rf, K, L, n, s)) : pm_Wc (d + 12) 196 [.ref 56, .int (zI k)] (zM N, Rf, K, L, n, s) Q := by
  have t4 := tm.1
  have a1 := tm.2.2.2.1
  have a60 := tm.2.2.2.2.1
  refine wc_in (ls0 := [some (.ref 56), some (.int (zI k)), none]) (by decide) (Nat.le_of_ble_eq_true rfl) rfl rfl ?_
  refine wp_aload_n d196_0 rfl ?_
  refine wz_getI (v := (a : Int)) d196_1 rfl (hG.o (by decide) rfl) (by decide) (t4) ?_
  refine wz_if_eq (t := 15) d196_4 (by decide) ⟨by omega, by omega⟩ (fun hb => absurd hb (by omega)) (fun _ => ?_)
  refine wp_aload_n d196_7 rfl ?_
  refine wp_iload_n d196_8 rfl ?_
  refine wp_virt (as := [.int (zI k)]) (rest := []) d196_9 rfl rfl rfl (hG.o (by decide) rfl) rfl rfl (Nat.le_of_ble_eq_true rfl) ?_
  refine wc_deep (show d + 10 + 1 ≤ d + 11 by omega) ?_
  refine m_isSlot rk (fun k0 k3 => ?_) (fun hk => ?_)
  · skip
    have hk : 0 ≤ k ∧ k ≤ 3 := ⟨k0, k3⟩
    refine wz_if_ne (t := 18) d196_12 (by decide) ⟨by omega, by omega⟩ (fun _ => ?_) (fun hb => absurd hb (by decide))
    refine wp_aload_n d196_18 rfl ?_
    refine wp_virt (as := []) (rest := []) d196_19 rfl rfl rfl (hG.o (by decide) rfl) rfl rfl (Nat.le_of_ble_eq_true rfl) ?_
    refine m_typesT hC hG hM tm tw tl (fun N1 hM1 fr1 rr _ row1 => ?_)
    have mf1 : MF N N1 := fun p i hw => fr1 p i (fun q => hw (by unfold WTn at q; unfold WM; omega))
    have sl1 : SLM N1 Tt := hT.keep (fun i _ _ => fr1 72 i (by unfold WTn; omega)) (fun i hi => fr1 73 i (by unfold WTn; omega))
    cases et : tyF 24 T [] [] with
    | inl p =>
      rw [et] at rr
      have rr : R32 (p : Int) := rr
      show pm_Wp none _ 196 22 _ ((some (.int (zI (p : Int)))).toList ++ []) _ _
      refine wp_istore_n d196_22 (Nat.le_of_ble_eq_true rfl) rfl ?_
      refine wp_iload_n d196_23 rfl ?_
      refine wz_if_lt (t := 29) d196_24 (by decide) rr (fun hb => absurd hb (by omega)) (fun _ => ?_)
      refine wp_iload_n d196_27 rfl ?_
      exact wp_ret d196_28 rfl (h0 hk p et N1 hM1 mf1 sl1)
    | inr A =>
      have oA := tyF_ok 24 T [] [] A tw ⟨trivial, fun k hk => absurd hk (Nat.not_lt_zero _), fun a ha => by cases ha⟩ et
      have row1 := row1 A et
      show pm_Wp none _ 196 22 _ ((some (.int (zI (-1)))).toList ++ []) _ _
      refine wp_istore_n d196_22 (Nat.le_of_ble_eq_true rfl) rfl ?_
      refine wp_iload_n d196_23 rfl ?_
      refine wz_if_lt (t := 29) d196_24 (by decide) ⟨by omega, by omega⟩ (fun _ => ?_) (fun hb => absurd (by decide) hb)
      refine wp_aload_n d196_29 rfl ?_
      refine wz_iconst d196_30 ?_
      refine wz_iconst d196_31 ?_
      refine wp_iload_n d196_32 rfl ?_
      refine wz_iconst d196_33 ?_
      refine wp_virt (as := [.int (zI 0), .int (zI k), .int (zI 0), .int (zI 4)]) (rest := []) d196_34 rfl rfl rfl (hG.o (by decide) rfl) rfl rfl (Nat.le_of_ble_eq_true rfl) ?_
      refine wc_deep (show d + 8 + 3 ≤ d + 11 by omega) ?_
      refine m_copy (l := flat A) hG hM1 (by omega) (by omega) (by omega) (by omega) (by omega) (by omega) (by omega) (by omega) (by omega) row1 (ok_pre _ _ oA.1) ?_
      refine wp_aload_n d196_37 rfl ?_
      refine wp_getR (q := 72) d196_38 rfl (hG.o (by decide) rfl) (by decide) (hG.r (by decide +kernel)) (by decide) ?_
      refine wp_iload_n d196_41 rfl ?_
      refine wz_iconst d196_42 ?_
      refine wz_zast (z := 4) d196_43 (hG.a (by decide) rfl rfl) (by omega) (by omega) (by decide) (by omega) ?_
      refine wz_iconst d196_44 ?_
      have row2 := mput_row (flat A) N1 k 0
      refine wp_ret d196_45 rfl (h1 hk A et _ (mset_R32 (mput_R32 hM1 (row1.R32 hM1)) ⟨by omega, by omega⟩) ((mf1.put (by decide)).set (by unfold WM; omega)) (sl1.upd hk.1 hk.2 (mset_s _ _ _ _) (fun i _ _ hne => ?_) (Row.same (fun j _ _ => mset_p _ _ _ _ (by decide)) row2) (fun i hi hne => ?_) oA.2 oA.1))
      · rw [mset_i _ _ _ _ hne, mput_p _ _ _ _ (by decide)]
      · rw [mset_p _ _ _ _ (by decide), mput_o _ _ _ _ (by omega)]
  · skip
    refine wz_if_ne (t := 18) d196_12 (by decide) ⟨by omega, by omega⟩ (fun hb => absurd (by decide) hb) (fun _ => ?_)
    refine wz_bipush d196_15 (by decide) ?_
    exact wp_ret d196_17 rfl (h2 hk)
theorem m_fits (hC : CmL d) (hG : pm_G Rf K L n) (hM : ∀ p i, R32 (N p i)) (rk : R32 k) (hT : SLM N Tt) (tm : TMm N a b T) (tw : TWf 24 0 [] T) (tl : TL 24 T [] [] ∧ mch T ≤ 60) (h0 : (sl Tt k = none ∨ ∃ p, tyF 24 T [] [] = .inl p) → ∀ N' : pm_M, (∀ p i, R32 (N' p i)) → MF N N' → SLM N' Tt → Q (some (.int (zI 0))) (zM N', Rf, K, L, n, s)) (h1 : ∀ A B, tyF 24 T [] [] = .inr A → sl Tt k = some B → ∀ N' : pm_M, (∀ p i, R32 (N' p i)) → MF N N' → SLM N' Tt → Q (some (.int (zI (if bel [] A B = true then 1 else 0)))) (zM N', Rf, K, L, n, s)) : pm_Wc (d + 12) 197 [.ref 56, .int (zI k)] (zM N, Rf, K, L, n, s) Q := by
  have t4 := tm.1
  have a1 := tm.2.2.2.1
  have a60 := tm.2.2.2.2.1
  refine wc_in (ls0 := [some (.ref 56), some (.int (zI k))]) (by decide) (Nat.le_of_ble_eq_true rfl) rfl rfl ?_
  refine wp_aload_n d197_0 rfl ?_
  refine wz_getI (v := (a : Int)) d197_1 rfl (hG.o (by decide) rfl) (by decide) (t4) ?_
  refine wz_if_le (t := 39) d197_4 (by decide) ⟨by omega, by omega⟩ (fun hb => absurd hb (by omega)) (fun _ => ?_)
  refine wp_aload_n d197_7 rfl ?_
  refine wp_iload_n d197_8 rfl ?_
  refine wp_virt (as := [.int (zI k)]) (rest := []) d197_9 rfl rfl rfl (hG.o (by decide) rfl) rfl rfl (Nat.le_of_ble_eq_true rfl) ?_
  refine wc_deep (show d + 9 + 2 ≤ d + 11 by omega) ?_
  refine m_holds hG rk hT (fun B eB => ?_) (fun eN => ?_)
  · skip
    refine wz_if_eq (t := 39) d197_12 (by decide) ⟨by omega, by omega⟩ (fun hb => absurd hb (by decide)) (fun _ => ?_)
    refine wp_aload_n d197_15 rfl ?_
    refine wp_virt (as := []) (rest := []) d197_16 rfl rfl rfl (hG.o (by decide) rfl) rfl rfl (Nat.le_of_ble_eq_true rfl) ?_
    refine m_typesT hC hG hM tm tw tl (fun N1 hM1 fr1 rr eu row1 => ?_)
    obtain ⟨e22, x, e24, x0, x1⟩ := eu
    have mf1 : MF N N1 := fun p i hw => fr1 p i (fun q => hw (by unfold WTn at q; unfold WM; omega))
    have sl1 : SLM N1 Tt := hT.keep (fun i _ _ => fr1 72 i (by unfold WTn; omega)) (fun i hi => fr1 73 i (by unfold WTn; omega))
    obtain ⟨j0, j3, -, rB, lB, oB⟩ := sl1.at eB
    cases et : tyF 24 T [] [] with
    | inl p =>
      rw [et] at rr
      have rr : R32 (p : Int) := rr
      show pm_Wp none _ 197 19 _ ((some (.int (zI (p : Int)))).toList ++ []) _ _
      refine wz_if_ge (t := 39) d197_19 (by decide) rr (fun _ => ?_) (fun hb => absurd (by omega) hb)
      refine wz_iconst d197_39 ?_
      exact wp_ret d197_40 rfl (h0 (Or.inr ⟨p, et⟩) N1 hM1 mf1 sl1)
    | inr A =>
      have oA := tyF_ok 24 T [] [] A tw ⟨trivial, fun k hk => absurd hk (Nat.not_lt_zero _), fun a ha => by cases ha⟩ et
      have row1 := row1 A et
      have oA1 : ok 0 A = true := oA.1
      have w1 : wt [] A ≤ 127 := wt_closed oA1 oA.2
      have w2 : wt [] B ≤ 127 := wt_closed oB lB
      have b1 := rwt_le A [] [] rfl (fun _ => Nat.le_refl _)
      have b2 := rwt_le B [] [] rfl (fun _ => Nat.le_refl _)
      have b3 : trx ([], A, B) ≤ rwt [] A + rwt [] B := trx_trw (z := ([], A, B)) ⟨trivial, oA1, oB⟩
      have c1 : hgt [] A ≤ 16 := hgt_closed oA1 oA.2
      have c2 : hgt [] B ≤ 16 := hgt_closed oB lB
      have lA := oA.2
      have th : TH N1 132 x 4 0 k 0 (-1) (([] : List Ty).length : Int) ([], A, B) := ⟨by omega, by omega, by omega, (show (0 : Int) + ((flat A).length : Int) ≤ 17 by omega), row1, j0, by omega, by omega, (show (0 : Int) + ((flat B).length : Int) ≤ 17 by omega), rB, rfl, rfl, trivial, oA1, oB⟩
      have fin : ∀ N' : pm_M, UK N1 N' 132 x → MF N N' ∧ (∀ p i, R32 (N' p i)) ∧ SLM N' Tt := fun N' k => ⟨mf1.trans k.mf, k.2.1, sl1.keep (fun i _ _ => k.1 72 i (fun e => by omega) (fun e => by omega) (fun e => by omega) (fun e => by omega)) (fun i hi => k.1 73 i (fun e => by omega) (fun _ => by omega) (fun e => by omega) (fun e => by omega))⟩
      have hh := h1 A B et eB
      show pm_Wp none _ 197 19 _ ((some (.int (zI (-1)))).toList ++ []) _ _
      refine wz_if_ge (t := 39) d197_19 (by decide) ⟨by omega, by omega⟩ (fun hb => absurd hb (by decide)) (fun _ => ?_)
      refine wp_aload_n d197_22 rfl ?_
      refine wz_iconst d197_23 ?_
      refine wz_iconst d197_24 ?_
      refine wp_iload_n d197_25 rfl ?_
      refine wz_iconst d197_26 ?_
      refine wz_iconst d197_27 ?_
      refine wz_iconst d197_28 ?_
      refine wp_virt (as := [.int (zI 0), .int (zI (-1)), .int (zI 0), .int (zI k), .int (zI 0), .int (zI 4)]) (rest := []) d197_29 rfl rfl rfl (hG.o (by decide) rfl) rfl rfl (Nat.le_of_ble_eq_true rfl) ?_
      refine wc_deep (show d + 4 + 7 ≤ d + 11 by omega) ?_
      refine m_under2 (d := d + 4) (Γ := []) hG hM1 e22 e24 th x0 (show 0 + trx ([], A, B) ≤ 1990 by omega) (by omega) (by omega) (show 2 * (hgt [] A + hgt [] B) + 3 ≤ 300 by omega) (fun hB N2 k2 => ?_) (fun hB N2 k2 => ?_)
      · skip
        obtain ⟨f1, f2, f3⟩ := fin N2 k2
        have hh := hh N2 f2 f1 f3
        rw [if_pos hB] at hh
        refine wz_if_eq (t := 39) d197_32 (by decide) ⟨by omega, by omega⟩ (fun hb => absurd hb (by decide)) (fun _ => ?_)
        refine wz_iconst d197_35 ?_
        refine wp_goto (t := 40) d197_36 (by decide) ?_
        exact wp_ret d197_40 rfl (hh)
      · skip
        obtain ⟨f1, f2, f3⟩ := fin N2 k2
        have hh := hh N2 f2 f1 f3
        rw [if_neg hB] at hh
        refine wz_if_eq (t := 39) d197_32 (by decide) ⟨by omega, by omega⟩ (fun _ => ?_) (fun hb => absurd (by decide) hb)
        refine wz_iconst d197_39 ?_
        exact wp_ret d197_40 rfl (hh)
  · skip
    refine wz_if_eq (t := 39) d197_12 (by decide) ⟨by omega, by omega⟩ (fun _ => ?_) (fun hb => absurd (by decide) hb)
    refine wz_iconst d197_39 ?_
    exact wp_ret d197_40 rfl (h0 (Or.inl eN) N hM (MF.refl N) hT)
end PmF18
