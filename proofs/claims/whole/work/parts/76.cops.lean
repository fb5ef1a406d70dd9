/-! THE CLASS: slots; size, same, below. -/
def SCT (M : pm_M) (i : Nat) : Option Ty → Prop
  | none => M (30 + 2 * i) 1 = 0
  | some t => KTY M (30 + 2 * i) (31 + 2 * i) t
/-- the class's four slots -/
def SLC (M : pm_M) (T : Int → Option Ty) : Prop := ∀ i : Nat, i < 4 → SCT M i (T i)
theorem KO_slot {i : Nat} (h : i < 4) : KO (30 + 2 * i) (31 + 2 * i) := by
  rcases (show i = 0 ∨ i = 1 ∨ i = 2 ∨ i = 3 by omega) with rfl | rfl | rfl | rfl
  · exact KO_30
  · exact KO_32
  · exact KO_34
  · exact KO_36
theorem pm_G.slot {Rf : Nat → Nat → Nat} {K L : Nat → Nat} {n : Nat} (hG : pm_G Rf K L n) {i : Nat} (h : i < 4) : Rf 3 i = 30 + 2 * i := by
  rcases (show i = 0 ∨ i = 1 ∨ i = 2 ∨ i = 3 by omega) with rfl | rfl | rfl | rfl
  · exact hG.r (by decide +kernel)
  · exact hG.r (by decide +kernel)
  · exact hG.r (by decide +kernel)
  · exact hG.r (by decide +kernel)
theorem sl_nat {T : Int → Option Ty} {i : Int} {t : Ty} (h : sl T i = some t) : ∃ k : Nat, k < 4 ∧ i = (k : Int) ∧ T (k : Int) = some t := by
  obtain ⟨hi, e⟩ := sl_some h
  refine ⟨i.toNat, by omega, by omega, ?_⟩
  rw [Int.toNat_of_nonneg hi.1]; exact e
/-- what the class's calls on types may write besides the rows -/
def WC1 (p : Nat) (i : Int) : Prop := (p = 6 ∧ i = 6) ∨ p = 12 ∨ (i = 2 ∧ (p = 4 ∨ p = 30 ∨ p = 32 ∨ p = 34 ∨ p = 36))
theorem CX.less {W : Nat → Int → Prop} {M : pm_M} {Rf : Nat → Nat → Nat} {K L : Nat → Nat} {n s z : Nat} {cn cn' : Int} {M' : pm_M} {Rf' : Nat → Nat → Nat} {K' L' : Nat → Nat} {n' s' z' : Nat} (h : CX W M Rf K L n s z cn M' Rf' K' L' n' s' z') (hc : cn' ≤ cn) : CX W M Rf K L n s z cn' M' Rf' K' L' n' s' z' := by
  obtain ⟨h1, h2, h3, h4, h5, h6, h7, h8, h9, h10, h11, h12⟩ := h
  exact ⟨h1, h2, h3, h4, h5, h6, h7, h8, h9, h10, fun g hg i i0 i1 => h11 g hg i i0 (by omega), h12⟩
theorem KTY.same {M M' : pm_M} {kp kc : Nat} {t : Ty} (h : KTY M kp kc t) (e1 : M' kp 1 = M kp 1) (e2 : ∀ i, M' kc i = M kc i) : KTY M' kp kc t :=
  ⟨by rw [e1]; exact h.1, KC.same e2 h.2.1, h.2.2⟩
theorem CX.kty {i : Nat} {M : pm_M} {Rf : Nat → Nat → Nat} {K L : Nat → Nat} {n s z : Nat} {cn : Int} {M' : pm_M} {Rf' : Nat → Nat → Nat} {K' L' : Nat → Nat} {n' s' z' : Nat} {t : Ty} (h : CX WC1 M Rf K L n s z cn M' Rf' K' L' n' s' z') (hR : RmI Rf K L n z) (hn : 99 ≤ n) (hi : i < 4) (k : KTY M (30 + 2 * i) (31 + 2 * i) t) : KTY M' (30 + 2 * i) (31 + 2 * i) t := by
  have far := (KO_slot hi).far hR
  exact k.same (h.mem _ (by omega) far.1 1 (by unfold WC1; omega)) (fun j => h.mem _ (by omega) far.2 j (by unfold WC1; omega))
theorem CX.slc {M : pm_M} {Rf : Nat → Nat → Nat} {K L : Nat → Nat} {n s z : Nat} {cn : Int} {M' : pm_M} {Rf' : Nat → Nat → Nat} {K' L' : Nat → Nat} {n' s' z' : Nat} {T : Int → Option Ty} (h : CX WC1 M Rf K L n s z cn M' Rf' K' L' n' s' z') (hR : RmI Rf K L n z) (hn : 99 ≤ n) (k : SLC M T) : SLC M' T := by
  intro i hi
  have := k i hi
  cases e : T (i : Int) with
  | none =>
    rw [e] at this
    show M' (30 + 2 * i) 1 = 0
    rw [h.mem _ (by omega) ((KO_slot hi).far hR).1 1 (by unfold WC1; omega)]
    exact this
  | some t => rw [e] at this; exact h.kty hR hn hi this
section PmC13
variable {d : Nat} {Q : Option Value → pm_S → Prop} {M : pm_M} {Rf : Nat → Nat → Nat} {K L : Nat → Nat} {n s : Nat}
theorem c_isSlot {i : Int} (ri : R32 i) (h1 : 0 ≤ i → i ≤ 3 → Q (some (.int (zI 1))) (zM M, Rf, K, L, n, s)) (h0 : ¬ (0 ≤ i ∧ i ≤ 3) → Q (some (.int (zI 0))) (zM M, Rf, K, L, n, s)) : pm_Wc (d + 1) 17 [.int (zI i)] (zM M, Rf, K, L, n, s) Q := by
  refine wc_in (ls0 := [some (.int (zI i))]) (by decide) (Nat.le_of_ble_eq_true rfl) rfl rfl ?_
  refine wp_iload_n d17_0 rfl ?_
  refine wz_if_lt (t := 13) d17_1 (by decide) ri (fun hb => ?_) (fun hb => ?_)
  · refine wz_iconst d17_13 ?_
    exact wp_ret d17_14 rfl (h0 (by omega))
  · refine wp_iload_n d17_4 rfl ?_
    refine wz_iconst d17_5 ?_
    refine wz_icmp_ge (t := 13) d17_6 (by decide) ri ⟨by omega, by omega⟩ (fun hb' => ?_) (fun hb' => ?_)
    · refine wz_iconst d17_13 ?_
      exact wp_ret d17_14 rfl (h0 (by omega))
    · refine wz_iconst d17_9 ?_
      refine wp_goto (t := 14) d17_10 (by decide) ?_
      exact wp_ret d17_14 rfl (h1 (by omega) (by omega))
theorem c_hasType {i : Int} {T : Int → Option Ty} (hG : pm_G Rf K L n) (hM : ∀ p i, R32 (M p i)) (ri : R32 i) (hT : SLC M T) (h1 : ∀ t, sl T i = some t → Q (some (.int (zI 1))) (zM M, Rf, K, L, n, s)) (h0 : sl T i = none → Q (some (.int (zI 0))) (zM M, Rf, K, L, n, s)) : pm_Wc (d + 2) 18 [.ref 1, .int (zI i)] (zM M, Rf, K, L, n, s) Q := by
  refine wc_in (ls0 := [some (.ref 1), some (.int (zI i))]) (by decide) (Nat.le_of_ble_eq_true rfl) rfl rfl ?_
  refine wp_iload_n d18_0 rfl ?_
  refine wp_stat (as := [.int (zI i)]) (rest := []) d18_1 rfl rfl rfl rfl rfl (Nat.le_of_ble_eq_true rfl) ?_
  refine c_isSlot ri (fun i0 i3 => ?_) (fun hn => ?_)
  · have es : sl T i = T i := if_pos ⟨i0, i3⟩
    obtain ⟨k, rfl⟩ : ∃ k : Nat, i = (k : Int) := ⟨i.toNat, by omega⟩
    have hk : k < 4 := by omega
    have ko := KO_slot hk
    have hs := hT k hk
    refine wz_if_eq (t := 23) d18_4 (by decide) ⟨by omega, by omega⟩ (fun hb => absurd hb (by decide)) (fun _ => ?_)
    refine wp_aload_n d18_7 rfl ?_
    refine wp_getR (q := 3) d18_8 rfl (hG.o (by decide) rfl) (by decide) (hG.r (by decide +kernel)) (by decide) ?_
    refine wp_iload_n d18_11 rfl ?_
    refine wz_aald (z := 4) (q := 30 + 2 * k) d18_12 (hG.a (by decide) rfl rfl) (by omega) (by omega) (by decide) (by rw [Int.toNat_natCast]; exact hG.slot hk) (by omega) ?_
    refine wz_getI (v := M (30 + 2 * k) 1) d18_13 rfl (hG.o ko.1 ko.2.2.1) (by decide) rfl ?_
    cases e : T (k : Int) with
    | none =>
      rw [e] at hs
      have hs : M (30 + 2 * k) 1 = 0 := hs
      refine wz_if_le (t := 23) d18_16 (by decide) (hM _ _) (fun _ => ?_) (fun hb => absurd (by omega) hb)
      refine wz_iconst d18_23 ?_
      exact wp_ret d18_24 rfl (h0 (es.trans e))
    | some t =>
      rw [e] at hs
      have hl := hs.1
      have fp := flat_pos hs.2.2.2
      refine wz_if_le (t := 23) d18_16 (by decide) (hM _ _) (fun hb => absurd hb (by omega)) (fun _ => ?_)
      refine wz_iconst d18_19 ?_
      refine wp_goto (t := 24) d18_20 (by decide) ?_
      exact wp_ret d18_24 rfl (h1 t (es.trans e))
  · refine wz_if_eq (t := 23) d18_4 (by decide) ⟨by omega, by omega⟩ (fun _ => ?_) (fun hb => absurd (by decide) hb)
    refine wz_iconst d18_23 ?_
    exact wp_ret d18_24 rfl (h0 (if_neg hn))
theorem c_size {i : Int} {T : Int → Option Ty} (hG : pm_G Rf K L n) (hM : ∀ p i, R32 (M p i)) (ri : R32 i) (hT : SLC M T) (h1 : ∀ t, sl T i = some t → Q (some (.int (zI ((flat t).length : Int)))) (zM M, Rf, K, L, n, s)) (h0 : sl T i = none → Q (some (.int (zI 0))) (zM M, Rf, K, L, n, s)) : pm_Wc (d + 3) 8 [.ref 1, .int (zI i)] (zM M, Rf, K, L, n, s) Q := by
  refine wc_in (ls0 := [some (.ref 1), some (.int (zI i))]) (by decide) (Nat.le_of_ble_eq_true rfl) rfl rfl ?_
  refine wp_aload_n d8_0 rfl ?_
  refine wp_iload_n d8_1 rfl ?_
  refine wp_virt (as := [.int (zI i)]) (rest := []) d8_2 rfl rfl rfl (hG.o (by decide) rfl) rfl rfl (Nat.le_of_ble_eq_true rfl) ?_
  refine c_hasType hG hM ri hT (fun t e => ?_) (fun e => ?_)
  · obtain ⟨k, hk, rfl, et⟩ := sl_nat e
    have ko := KO_slot hk
    have hs := hT k hk
    rw [et] at hs
    refine wz_if_eq (t := 20) d8_5 (by decide) ⟨by omega, by omega⟩ (fun hb => absurd hb (by decide)) (fun _ => ?_)
    refine wp_aload_n d8_8 rfl ?_
    refine wp_getR (q := 3) d8_9 rfl (hG.o (by decide) rfl) (by decide) (hG.r (by decide +kernel)) (by decide) ?_
    refine wp_iload_n d8_12 rfl ?_
    refine wz_aald (z := 4) (q := 30 + 2 * k) d8_13 (hG.a (by decide) rfl rfl) (by omega) (by omega) (by decide) (by rw [Int.toNat_natCast]; exact hG.slot hk) (by omega) ?_
    refine wz_getI (v := ((flat t).length : Int)) d8_14 rfl (hG.o ko.1 ko.2.2.1) (by decide) hs.1 ?_
    refine wp_goto (t := 21) d8_17 (by decide) ?_
    exact wp_ret d8_21 rfl (h1 t e)
  · refine wz_if_eq (t := 20) d8_5 (by decide) ⟨by omega, by omega⟩ (fun _ => ?_) (fun hb => absurd (by decide) hb)
    refine wz_iconst d8_20 ?_
    exact wp_ret d8_21 rfl (h0 e)
theorem c_clear (hG : pm_G Rf K L n) (h : Q none (zM (mset M 6 6 1), Rf, K, L, n, s)) : pm_Wc (d + 1) 27 [.ref 6] (zM M, Rf, K, L, n, s) Q := by
  refine wc_in (ls0 := [some (.ref 6)]) (by decide) (Nat.le_of_ble_eq_true rfl) rfl rfl ?_
  refine wp_aload_n d27_0 rfl ?_
  refine wz_iconst d27_1 ?_
  refine wz_putI (i := 6) d27_2 rfl (hG.o (by decide) rfl) rfl (by decide) rfl ?_
  exact wp_ret d27_5 rfl h
end PmC13
