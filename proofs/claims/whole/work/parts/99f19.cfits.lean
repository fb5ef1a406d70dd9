/-! THE CLASS: fits. -/
/-- what the class knows of its term: none, or what was found -/
def CTm (M : pm_M) : Option (Sum Nat Ty) → Prop
  | none => M 1 11 = 0
  | some r => M 1 11 = 1 ∧ FTc M r
section PmF19
variable {d : Nat} {Q : Option Value → pm_S → Prop} {M : pm_M} {Rf : Nat → Nat → Nat} {K L : Nat → Nat} {n s : Nat} {T : Int → Option Ty} {o : Option (Sum Nat Ty)} {k : Int}
theorem c_termHasType (hG : pm_G Rf K L n) (hM : ∀ p i, R32 (M p i)) (ht : CTm M o) (h1 : ∀ A, o = some (.inr A) → Q (some (.int (zI 1))) (zM M, Rf, K, L, n, s)) (h0 : (∀ A, o ≠ some (.inr A)) → Q (some (.int (zI 0))) (zM M, Rf, K, L, n, s)) : pm_Wc (d + 1) 19 [.ref 1] (zM M, Rf, K, L, n, s) Q := by
  cases o with
  | none =>
    have ht : M 1 11 = 0 := ht
    refine wc_in (ls0 := [some (.ref 1)]) (by decide) (Nat.le_of_ble_eq_true rfl) rfl rfl ?_
    refine wp_aload_n d19_0 rfl ?_
    refine wz_getI (v := 0) d19_1 rfl (hG.o (by decide) rfl) (by decide) (ht) ?_
    refine wz_if_eq (t := 19) d19_4 (by decide) ⟨by omega, by omega⟩ (fun _ => ?_) (fun hb => absurd (by decide) hb)
    refine wz_iconst d19_19 ?_
    exact wp_ret d19_20 rfl (h0 (fun A e => by cases e))
  | some r =>
    obtain ⟨e11, e12⟩ := ht
    cases r with
    | inl q =>
      have e12 : M 1 12 = (q : Int) := e12
      have rq := hM 1 12
      rw [e12] at rq
      refine wc_in (ls0 := [some (.ref 1)]) (by decide) (Nat.le_of_ble_eq_true rfl) rfl rfl ?_
      refine wp_aload_n d19_0 rfl ?_
      refine wz_getI (v := 1) d19_1 rfl (hG.o (by decide) rfl) (by decide) (e11) ?_
      refine wz_if_eq (t := 19) d19_4 (by decide) ⟨by omega, by omega⟩ (fun hb => absurd hb (by decide)) (fun _ => ?_)
      refine wp_aload_n d19_7 rfl ?_
      refine wz_getI (v := (q : Int)) d19_8 rfl (hG.o (by decide) rfl) (by decide) (e12) ?_
      refine wz_iconst d19_11 ?_
      refine wz_icmp_ne (t := 19) d19_12 (by decide) rq ⟨by omega, by omega⟩ (fun _ => ?_) (fun hb => absurd hb (by omega))
      refine wz_iconst d19_19 ?_
      exact wp_ret d19_20 rfl (h0 (fun A e => by cases e))
    | inr A =>
      have e12 : M 1 12 = -1 := e12.1
      refine wc_in (ls0 := [some (.ref 1)]) (by decide) (Nat.le_of_ble_eq_true rfl) rfl rfl ?_
      refine wp_aload_n d19_0 rfl ?_
      refine wz_getI (v := 1) d19_1 rfl (hG.o (by decide) rfl) (by decide) (e11) ?_
      refine wz_if_eq (t := 19) d19_4 (by decide) ⟨by omega, by omega⟩ (fun hb => absurd hb (by decide)) (fun _ => ?_)
      refine wp_aload_n d19_7 rfl ?_
      refine wz_getI (v := (-1)) d19_8 rfl (hG.o (by decide) rfl) (by decide) (e12) ?_
      refine wz_iconst d19_11 ?_
      refine wz_icmp_ne (t := 19) d19_12 (by decide) ⟨by omega, by omega⟩ ⟨by omega, by omega⟩ (fun hb => absurd (rfl) hb) (fun _ => ?_)
      refine wz_iconst d19_15 ?_
      refine wp_goto (t := 20) d19_16 (by decide) ?_
      exact wp_ret d19_20 rfl (h1 A rfl)
theorem c_fits {z : Nat} (hG : pm_G Rf K L n) (hR : RmI Rf K L n z) (hM : ∀ p i, R32 (M p i)) (ri : R32 k) (hT : SLC M T) (ht : CTm M o) (h0 : ((∀ A, o ≠ some (.inr A)) ∨ sl T k = none) → Q (some (.int (zI 0))) (zM M, Rf, K, L, n, s)) (h1 : ∀ A B, o = some (.inr A) → sl T k = some B → ∀ (M' : pm_M) (Rf' : Nat → Nat → Nat) (K' L' : Nat → Nat) (n' s' z' : Nat), CX WC1 M Rf K L n s z 1 M' Rf' K' L' n' s' z' → Q (some (.int (zI (if bel [] A B = true then 1 else 0)))) (zM M', Rf', K', L', n', s')) : pm_Wc (d + 76) 12 [.ref 1, .int (zI k)] (zM M, Rf, K, L, n, s) Q := by
  refine wc_in (ls0 := [some (.ref 1), some (.int (zI k))]) (by decide) (Nat.le_of_ble_eq_true rfl) rfl rfl ?_
  refine wp_aload_n d12_0 rfl ?_
  refine wp_virt (as := []) (rest := []) d12_1 rfl rfl rfl (hG.o (by decide) rfl) rfl rfl (Nat.le_of_ble_eq_true rfl) ?_
  refine wc_deep (show d + 74 + 1 ≤ d + 75 by omega) ?_
  refine c_termHasType hG hM ht (fun A eA => ?_) (fun e => ?_)
  · skip
    refine wz_if_eq (t := 36) d12_4 (by decide) ⟨by omega, by omega⟩ (fun hb => absurd hb (by decide)) (fun _ => ?_)
    refine wp_aload_n d12_7 rfl ?_
    refine wp_iload_n d12_8 rfl ?_
    refine wp_virt (as := [.int (zI k)]) (rest := []) d12_9 rfl rfl rfl (hG.o (by decide) rfl) rfl rfl (Nat.le_of_ble_eq_true rfl) ?_
    refine wc_deep (show d + 73 + 2 ≤ d + 75 by omega) ?_
    refine c_hasType hG hM ri hT (fun B eB => ?_) (fun e => ?_)
    · skip
      have hh := h1 A B eA eB
      obtain ⟨k', hk', rfl, et'⟩ := sl_nat eB
      have hs' := hT k' hk'
      rw [et'] at hs'
      have hA : KTY M 4 5 A := by
        rw [eA] at ht
        exact ht.2.2
      refine wz_if_eq (t := 36) d12_12 (by decide) ⟨by omega, by omega⟩ (fun hb => absurd hb (by decide)) (fun _ => ?_)
      refine wp_aload_n d12_15 rfl ?_
      refine wp_aload_n d12_16 rfl ?_
      refine wp_getR (q := 4) d12_17 rfl (hG.o (by decide) rfl) (by decide) (hG.r (by decide +kernel)) (by decide) ?_
      refine wp_aload_n d12_20 rfl ?_
      refine wp_getR (q := 3) d12_21 rfl (hG.o (by decide) rfl) (by decide) (hG.r (by decide +kernel)) (by decide) ?_
      refine wp_iload_n d12_24 rfl ?_
      refine wz_aald (z := 4) (q := 30 + 2 * k') d12_25 (hG.a (by decide) rfl rfl) (by omega) (by omega) (by decide) (by rw [Int.toNat_natCast]; exact hG.slot hk') (by omega) ?_
      refine wp_virt (as := [.ref (30 + 2 * k'), .ref 4]) (rest := []) d12_26 rfl rfl rfl (hG.o (by decide) rfl) (by simp [pm_vc]) rfl (Nat.le_of_ble_eq_true rfl) ?_
      refine c_keptBelow (Or.inl ⟨rfl, rfl⟩) (KPs_slot hk') hG hR hM hA hs' (fun M' Rf' K' L' n' s' z' cx => ?_)
      have q := hh M' Rf' K' L' n' s' z' cx
      by_cases hb : bel [] A B = true
      · rw [if_pos hb] at q ⊢
        refine wz_if_eq (t := 36) d12_29 (by decide) ⟨by omega, by omega⟩ (fun hb => absurd hb (by decide)) (fun _ => ?_)
        refine wz_iconst d12_32 ?_
        refine wp_goto (t := 37) d12_33 (by decide) ?_
        exact wp_ret d12_37 rfl q
      · rw [if_neg hb] at q ⊢
        refine wz_if_eq (t := 36) d12_29 (by decide) ⟨by omega, by omega⟩ (fun _ => ?_) (fun hb => absurd (by decide) hb)
        refine wz_iconst d12_36 ?_
        exact wp_ret d12_37 rfl q
    · skip
      refine wz_if_eq (t := 36) d12_12 (by decide) ⟨by omega, by omega⟩ (fun _ => ?_) (fun hb => absurd (by decide) hb)
      refine wz_iconst d12_36 ?_
      exact wp_ret d12_37 rfl (h0 (Or.inr e))
  · skip
    refine wz_if_eq (t := 36) d12_4 (by decide) ⟨by omega, by omega⟩ (fun _ => ?_) (fun hb => absurd (by decide) hb)
    refine wz_iconst d12_36 ?_
    exact wp_ret d12_37 rfl (h0 (Or.inl e))
end PmF19
