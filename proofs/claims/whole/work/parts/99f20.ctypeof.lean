/-! THE CLASS: copyFrom, typeOf. -/
section PmF20
variable {d : Nat} {Q : Option Value → pm_S → Prop} {M : pm_M} {Rf : Nat → Nat → Nat} {K L : Nat → Nat} {n s : Nat} {T : Int → Option Ty} {o : Option (Sum Nat Ty)}
theorem c_copyFrom {kp kc : Nat} (hk : KPs kp kc) (h4 : kp ≠ 4) (hG : pm_G Rf K L n) (hM : ∀ p i, R32 (M p i)) (h : ∀ M' : pm_M, (∀ p i, R32 (M' p i)) → (∀ (p : Nat) (i : Int), ¬ (p = kp ∧ i = 1) → p ≠ kc → M' p i = M p i) → M' kp 1 = M 4 1 → (∀ j : Int, 0 ≤ j → j < 16 → M' kc j = M 5 j) → Q none (zM M', Rf, K, L, n, s)) : pm_Wc (d + 1) 24 [.ref kp, .ref 4] (zM M, Rf, K, L, n, s) Q := by
  obtain ⟨o1, o2, o3, o4, o5, o6, -, -, o9⟩ := hk.ko
  have hkc : kc ≠ 5 ∧ kc ≠ 4 ∧ kp ≠ 5 := by rcases hk with h | h | h | h | h <;> omega
  have go : pm_At K n kp 1 := hG.o (c := 1) o1 o3
  have ga : pm_Ar K L n kc 0 16 := hG.a o2 o4 o5
  have gr : Rf kp 0 = kc := hG.r o6
  have loop : ∀ (m : Nat) (j : Nat) (M' : pm_M), j + m = 16 → (∀ p i, R32 (M' p i)) → (∀ (p : Nat) (i : Int), ¬ (p = kp ∧ i = 1) → p ≠ kc → M' p i = M p i) → M' kp 1 = M 4 1 → (∀ i : Int, 0 ≤ i → i < j → M' kc i = M 5 i) → pm_Wp none d 24 10 [some (.ref kp), some (.ref 4), some (.int (zI (j : Int)))] [] (zM M', Rf, K, L, n, s) Q := by
    intro m
    induction m with
    | zero =>
      intro j M' hj r1 fr e1 ec
      have ej : j = 16 := by omega
      subst ej
      refine wp_iload_n d24_10 rfl ?_
      refine wz_bipush d24_11 (by decide) ?_
      refine wz_icmp_ge (t := 34) d24_13 (by decide) ⟨by omega, by omega⟩ ⟨by omega, by omega⟩ (fun _ => ?_) (fun hb => absurd (by decide) hb)
      exact wp_ret d24_34 rfl (h M' r1 fr e1 ec)
    | succ m ih =>
      intro j M' hj r1 fr e1 ec
      refine wp_iload_n d24_10 rfl ?_
      refine wz_bipush d24_11 (by decide) ?_
      refine wz_icmp_ge (t := 34) d24_13 (by decide) ⟨by omega, by omega⟩ ⟨by omega, by omega⟩ (fun hb => absurd hb (by omega)) (fun _ => ?_)
      refine wp_aload_n d24_16 rfl ?_
      refine wp_getR (q := kc) d24_17 rfl go (by decide) gr (by omega) ?_
      refine wp_iload_n d24_20 rfl ?_
      refine wp_aload_n d24_21 rfl ?_
      refine wp_getR (q := 5) d24_22 rfl (hG.o (by decide) rfl) (by decide) (hG.r (by decide +kernel)) (by decide) ?_
      refine wp_iload_n d24_25 rfl ?_
      refine wz_iald (z := 16) (v := M 5 (j : Int)) d24_26 (hG.a (by decide) rfl rfl) (by omega) (by omega) (by decide) (fr 5 _ (by omega) (by omega)) ?_
      refine wz_iast (z := 16) d24_27 ga (by omega) (by omega) (by omega) ?_
      refine wz_iinc d24_28 rfl rfl ?_
      refine wp_goto (t := 10) d24_31 (by decide) ?_
      have q := ih (j + 1) (mset M' kc (j : Int) (M 5 (j : Int))) (by omega) (mset_R32 r1 (hM 5 _)) (fun p i h1 h2 => by rw [mset_p _ _ _ _ h2]; exact fr p i h1 h2) (by rw [mset_p _ _ _ _ o9]; exact e1) (fun i i0 i1 => by
        by_cases c : i = (j : Int)
        · rw [c, mset_s]
        · rw [mset_i _ _ _ _ c]; exact ec i i0 (by omega))
      rw [show ((j + 1 : Nat) : Int) = (j : Int) + 1 by omega] at q
      exact q
  refine wc_in (ls0 := [some (.ref kp), some (.ref 4), none]) (by decide) (Nat.le_of_ble_eq_true rfl) (by simp [pm_vc]) rfl ?_
  refine wp_aload_n d24_0 rfl ?_
  refine wp_aload_n d24_1 rfl ?_
  refine wz_getI (v := M 4 1) d24_2 rfl (hG.o (by decide) rfl) (by decide) (rfl) ?_
  refine wz_putI (i := 1) d24_5 rfl go rfl (by decide) rfl ?_
  refine wz_iconst d24_8 ?_
  refine wp_istore_n d24_9 (Nat.le_of_ble_eq_true rfl) rfl ?_
  refine loop 16 0 _ (by omega) (mset_R32 hM (hM 4 1)) (fun p i h1 _ => ?_) (mset_s _ _ _ _) (fun i i0 i1 => by omega)
  unfold mset
  rw [if_neg h1]
theorem c_typeOf {k : Int} (hG : pm_G Rf K L n) (hM : ∀ p i, R32 (M p i)) (rk : R32 k) (hT : SLC M T) (ht : CTm M o) (h2 : (o = none ∨ ¬ (0 ≤ k ∧ k ≤ 3)) → Q (some (.int (zI (-2)))) (zM M, Rf, K, L, n, s)) (h0 : ∀ p : Nat, o = some (.inl p) → (0 ≤ k ∧ k ≤ 3) → Q (some (.int (zI (p : Int)))) (zM M, Rf, K, L, n, s)) (h1 : ∀ A, o = some (.inr A) → (0 ≤ k ∧ k ≤ 3) → ∀ (k' : Nat) (M' : pm_M), k = (k' : Int) → k' < 4 → (∀ p i, R32 (M' p i)) → (∀ (p : Nat) (i : Int), ¬ (p = 30 + 2 * k' ∧ i = 1) → p ≠ 31 + 2 * k' → M' p i = M p i) → SLC M' (slu T k A) → Q (some (.int (zI (-1)))) (zM M', Rf, K, L, n, s)) : pm_Wc (d + 2) 11 [.ref 1, .int (zI k)] (zM M, Rf, K, L, n, s) Q := by
  cases o with
  | none =>
    have ht : M 1 11 = 0 := ht
    refine wc_in (ls0 := [some (.ref 1), some (.int (zI k))]) (by decide) (Nat.le_of_ble_eq_true rfl) rfl rfl ?_
    refine wp_aload_n d11_0 rfl ?_
    refine wz_getI (v := 0) d11_1 rfl (hG.o (by decide) rfl) (by decide) (ht) ?_
    refine wz_if_eq (t := 14) d11_4 (by decide) ⟨by omega, by omega⟩ (fun _ => ?_) (fun hb => absurd (by decide) hb)
    refine wz_bipush d11_14 (by decide) ?_
    exact wp_ret d11_16 rfl (h2 (Or.inl rfl))
  | some r =>
    obtain ⟨e11, e12⟩ := ht
    refine wc_in (ls0 := [some (.ref 1), some (.int (zI k))]) (by decide) (Nat.le_of_ble_eq_true rfl) rfl rfl ?_
    refine wp_aload_n d11_0 rfl ?_
    refine wz_getI (v := 1) d11_1 rfl (hG.o (by decide) rfl) (by decide) (e11) ?_
    refine wz_if_eq (t := 14) d11_4 (by decide) ⟨by omega, by omega⟩ (fun hb => absurd hb (by decide)) (fun _ => ?_)
    refine wp_iload_n d11_7 rfl ?_
    refine wp_stat (as := [.int (zI k)]) (rest := []) d11_8 rfl rfl rfl rfl rfl (Nat.le_of_ble_eq_true rfl) ?_
    refine c_isSlot rk (fun k0 k3 => ?_) (fun hk => ?_)
    · skip
      refine wz_if_ne (t := 17) d11_11 (by decide) ⟨by omega, by omega⟩ (fun _ => ?_) (fun hb => absurd hb (by decide))
      cases r with
      | inl q =>
        have e12 : M 1 12 = (q : Int) := e12
        have rq := hM 1 12
        rw [e12] at rq
        refine wp_aload_n d11_17 rfl ?_
        refine wz_getI (v := (q : Int)) d11_18 rfl (hG.o (by decide) rfl) (by decide) (e12) ?_
        refine wz_iconst d11_21 ?_
        refine wz_icmp_ne (t := 38) d11_22 (by decide) rq ⟨by omega, by omega⟩ (fun _ => ?_) (fun hb => absurd hb (by omega))
        refine wp_aload_n d11_38 rfl ?_
        refine wz_getI (v := (q : Int)) d11_39 rfl (hG.o (by decide) rfl) (by decide) (e12) ?_
        exact wp_ret d11_42 rfl (h0 q rfl ⟨k0, k3⟩)
      | inr A =>
        obtain ⟨e12, q1, q2, q3, q4⟩ := e12
        obtain ⟨k', rfl⟩ : ∃ k' : Nat, k = (k' : Int) := ⟨k.toNat, by omega⟩
        have hk : k' < 4 := by omega
        refine wp_aload_n d11_17 rfl ?_
        refine wz_getI (v := (-1)) d11_18 rfl (hG.o (by decide) rfl) (by decide) (e12) ?_
        refine wz_iconst d11_21 ?_
        refine wz_icmp_ne (t := 38) d11_22 (by decide) ⟨by omega, by omega⟩ ⟨by omega, by omega⟩ (fun hb => absurd (rfl) hb) (fun _ => ?_)
        refine wp_aload_n d11_25 rfl ?_
        refine wp_getR (q := 3) d11_26 rfl (hG.o (by decide) rfl) (by decide) (hG.r (by decide +kernel)) (by decide) ?_
        refine wp_iload_n d11_29 rfl ?_
        refine wz_aald (z := 4) (q := 30 + 2 * k') d11_30 (hG.a (by decide) rfl rfl) (by omega) (by omega) (by decide) (by rw [Int.toNat_natCast]; exact hG.slot hk) (by omega) ?_
        refine wp_aload_n d11_31 rfl ?_
        refine wp_getR (q := 4) d11_32 rfl (hG.o (by decide) rfl) (by decide) (hG.r (by decide +kernel)) (by decide) ?_
        refine wp_virt (as := [.ref 4]) (rest := []) d11_35 rfl rfl rfl (hG.o (c := 1) (KPs_slot hk).ko.1 (KPs_slot hk).ko.2.2.1) rfl rfl (Nat.le_of_ble_eq_true rfl) ?_
        refine c_copyFrom (KPs_slot hk) (by omega) hG hM (fun M' g1 g2 g3 g4 => ?_)
        refine wp_aload_n d11_38 rfl ?_
        refine wz_getI (v := (-1)) d11_39 rfl (hG.o (by decide) rfl) (by decide) ((g2 1 12 (by omega) (by omega)).trans e12) ?_
        refine wp_ret d11_42 rfl (h1 A rfl ⟨k0, k3⟩ k' M' rfl hk g1 g2 (hT.upd hk g2 ⟨g3.trans q1, ?_, q3, q4⟩))
        have kc : ∀ (l : List Int) (j : Int), 0 ≤ j → j + l.length ≤ 16 → KC M 5 j l → KC M' (31 + 2 * k') j l := by
          intro l
          induction l with
          | nil => intro j _ _ _; trivial
          | cons c l ihl =>
            intro j j0 j1 hc
            rw [List.length_cons] at j1
            exact ⟨(g4 j j0 (by omega)).trans hc.1, ihl (j + 1) (by omega) (by omega) hc.2⟩
        exact kc (flat A) 0 (by omega) (by omega) q2
    · skip
      refine wz_if_ne (t := 17) d11_11 (by decide) ⟨by omega, by omega⟩ (fun hb => absurd (by decide) hb) (fun _ => ?_)
      refine wz_bipush d11_14 (by decide) ?_
      exact wp_ret d11_16 rfl (h2 (Or.inr hk))
end PmF20
