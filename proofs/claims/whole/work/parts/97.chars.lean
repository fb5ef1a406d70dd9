/-! THE CLASS: reading single characters. -/
theorem wz_minl {mi pc : Nat} {X : pm_X} {d : Nat} {ls : pm_L} {σ : pm_S} {Q : Option Value → pm_S → Prop} {k : Nat} {x y : Int} {rest : List Value} (hd : decode (pm_code mi) pc = .ok (.invokestatic k, 3)) (hb : pm_bi (pm_ow mi) k = 2) (hm : pm_mth (pm_ow mi) k = none) (hv2 : rest.all pm_vc = true) (hr : rest.length ≤ 8) (rx : R32 x) (ry : R32 y) (hxy : x ≤ y) (h : pm_Wp X d mi (pc + 3) ls (.int (zI x) :: rest) σ Q) : pm_Wp X d mi pc ls (.int (zI y) :: .int (zI x) :: rest) σ Q :=
  wp_min hd hb hm hv2 hr (if_neg (by rw [zI_lt ry rx]; omega)) h
/-- the text in the class's row -/
def RTX (M : pm_M) (tx : Nat → Int) (ln : Nat) : Prop := M 38 6 = (ln : Int) ∧ ln ≤ 60 ∧ ∀ i : Nat, i < ln → M 2 i = tx i ∧ 32 ≤ tx i ∧ tx i ≤ 126
/-- open type names, innermost first -/
def TNm (M : pm_M) : List Int → Prop
  | [] => True
  | a :: e => M 39 (e.length : Int) = a ∧ TNm M e
theorem TNm.same {M M' : pm_M} : ∀ {e : List Int}, (∀ i : Int, 0 ≤ i → i < e.length → M' 39 i = M 39 i) → TNm M e → TNm M' e
  | [], _, _ => trivial
  | a :: e, h, t => ⟨by rw [h _ (by omega) (by rw [List.length_cons]; omega)]; exact t.1, TNm.same (fun i h0 h1 => h i h0 (by rw [List.length_cons]; omega)) t.2⟩
theorem RTX.cha {M : pm_M} {tx : Nat → Int} {ln : Nat} (h : RTX M tx ln) (p : Nat) : (p < ln ∧ chr tx ln p = tx p ∧ 32 ≤ chr tx ln p ∧ chr tx ln p ≤ 126) ∨ (¬ p < ln ∧ chr tx ln p = 0) := by
  by_cases c : p < ln
  · have e : chr tx ln p = tx p := if_pos c
    exact Or.inl ⟨c, e, by rw [e]; exact (h.2.2 p c).2⟩
  · exact Or.inr ⟨c, if_neg c⟩
section PmC26
variable {d : Nat} {Q : Option Value → pm_S → Prop} {M : pm_M} {Rf : Nat → Nat → Nat} {K L : Nat → Nat} {n s : Nat} {tx : Nat → Int} {ln p : Nat}
theorem c_next (hG : pm_G Rf K L n) (ht : RTX M tx ln) (ha : M 38 7 = (p : Int)) (hp : p ≤ ln) (h : Q (some (.int (zI (chr tx ln p)))) (zM M, Rf, K, L, n, s)) : pm_Wc (d + 1) 78 [.ref 38] (zM M, Rf, K, L, n, s) Q := by
  have hc := ht.cha p
  have hl := ht.2.1
  refine wc_in (ls0 := [some (.ref 38)]) (by decide) (Nat.le_of_ble_eq_true rfl) rfl rfl ?_
  refine wp_aload_n d78_0 rfl ?_
  refine wz_getI (v := (p : Int)) d78_1 rfl (hG.o (by decide) rfl) (by decide) (ha) ?_
  refine wp_aload_n d78_4 rfl ?_
  refine wz_getI (v := (ln : Int)) d78_5 rfl (hG.o (by decide) rfl) (by decide) (ht.1) ?_
  refine wz_icmp_ge (t := 23) d78_8 (by decide) ⟨by omega, by omega⟩ ⟨by omega, by omega⟩ (fun hb => ?_) (fun hb => ?_)
  · skip
    refine wz_iconst d78_23 ?_
    have e : chr tx ln p = 0 := by omega
    rw [e] at h
    exact wp_retc d78_24 rfl (by omega) (by omega) h
  · skip
    refine wp_aload_n d78_11 rfl ?_
    refine wp_getR (q := 2) d78_12 rfl (hG.o (by decide) rfl) (by decide) (hG.r (by decide +kernel)) (by decide) ?_
    refine wp_aload_n d78_15 rfl ?_
    refine wz_getI (v := (p : Int)) d78_16 rfl (hG.o (by decide) rfl) (by decide) (ha) ?_
    refine wz_cald (z := 60) (v := tx p) d78_19 (hG.a (by decide) rfl rfl) (by omega) (by omega) (by decide) ((ht.2.2 p (by omega)).1) ?_
    refine wp_goto (t := 24) d78_20 (by decide) ?_
    have e : chr tx ln p = tx p := by omega
    rw [e] at h hc
    exact wp_retc d78_24 rfl (by omega) (by omega) h
theorem c_take {c : Int} (hG : pm_G Rf K L n) (ht : RTX M tx ln) (ha : M 38 7 = (p : Int)) (hp : p ≤ ln) (c1 : 1 ≤ c) (c2 : c ≤ 200) (h1 : chr tx ln p = c → p < ln → Q (some (.int (zI 1))) (zM (mset M 38 7 ((p + 1 : Nat) : Int)), Rf, K, L, n, s)) (h0 : chr tx ln p ≠ c → Q (some (.int (zI 0))) (zM M, Rf, K, L, n, s)) : pm_Wc (d + 2) 79 [.ref 38, .int (zI c)] (zM M, Rf, K, L, n, s) Q := by
  have hc := ht.cha p
  have hl := ht.2.1
  refine wc_in (ls0 := [some (.ref 38), some (.int (zI c))]) (by decide) (Nat.le_of_ble_eq_true rfl) rfl rfl ?_
  refine wp_aload_n d79_0 rfl ?_
  refine wp_virt (as := []) (rest := []) d79_1 rfl rfl rfl (hG.o (by decide) rfl) rfl rfl (Nat.le_of_ble_eq_true rfl) ?_
  refine c_next hG ht ha hp ?_
  refine wp_iload_n d79_4 rfl ?_
  refine wz_icmp_eq (t := 10) d79_5 (by decide) ⟨by omega, by omega⟩ ⟨by omega, by omega⟩ (fun hb => ?_) (fun hb => ?_)
  · skip
    refine wp_aload_n d79_10 rfl ?_
    refine wp_dupr d79_11 ?_
    refine wz_getI (v := (p : Int)) d79_12 rfl (hG.o (by decide) rfl) (by decide) (ha) ?_
    refine wz_iconst d79_15 ?_
    refine wz_iadd d79_16 ?_
    refine wz_putI (i := 7) d79_17 rfl (hG.o (by decide) rfl) rfl (by decide) rfl ?_
    refine wz_iconst d79_20 ?_
    rw [show (p : Int) + 1 = ((p + 1 : Nat) : Int) by omega]
    exact wp_ret d79_21 rfl (h1 hb (by omega))
  · skip
    refine wz_iconst d79_8 ?_
    exact wp_ret d79_9 rfl (h0 hb)
theorem c_takeB {lo hi : Int} (hG : pm_G Rf K L n) (ht : RTX M tx ln) (ha : M 38 7 = (p : Int)) (hp : p ≤ ln) (c1 : 1 ≤ lo) (c2 : hi ≤ 200) (c3 : lo ≤ 200) (c4 : 0 ≤ hi) (h1 : lo ≤ chr tx ln p ∧ chr tx ln p ≤ hi → p < ln → Q (some (.int (zI (chr tx ln p)))) (zM (mset M 38 7 ((p + 1 : Nat) : Int)), Rf, K, L, n, s)) (h0 : ¬ (lo ≤ chr tx ln p ∧ chr tx ln p ≤ hi) → Q (some (.int (zI 0))) (zM M, Rf, K, L, n, s)) : pm_Wc (d + 2) 80 [.ref 38, .int (zI lo), .int (zI hi)] (zM M, Rf, K, L, n, s) Q := by
  have hc := ht.cha p
  have hl := ht.2.1
  refine wc_in (ls0 := [some (.ref 38), some (.int (zI lo)), some (.int (zI hi)), none]) (by decide) (Nat.le_of_ble_eq_true rfl) rfl rfl ?_
  refine wp_aload_n d80_0 rfl ?_
  refine wp_virt (as := []) (rest := []) d80_1 rfl rfl rfl (hG.o (by decide) rfl) rfl rfl (Nat.le_of_ble_eq_true rfl) ?_
  refine c_next hG ht ha hp ?_
  refine wp_istore_n d80_4 (Nat.le_of_ble_eq_true rfl) rfl ?_
  refine wp_iload_n d80_5 rfl ?_
  refine wp_iload_n d80_6 rfl ?_
  refine wz_icmp_lt (t := 15) d80_7 (by decide) ⟨by omega, by omega⟩ ⟨by omega, by omega⟩ (fun hb => ?_) (fun hb1 => ?_)
  · skip
    refine wz_iconst d80_15 ?_
    exact wp_retc d80_16 rfl (by omega) (by omega) (h0 (by omega))
  refine wp_iload_n d80_10 rfl ?_
  refine wp_iload_n d80_11 rfl ?_
  refine wz_icmp_le (t := 17) d80_12 (by decide) ⟨by omega, by omega⟩ ⟨by omega, by omega⟩ (fun hb2 => ?_) (fun hb2 => ?_)
  rotate_left
  · skip
    refine wz_iconst d80_15 ?_
    exact wp_retc d80_16 rfl (by omega) (by omega) (h0 (by omega))
  refine wp_aload_n d80_17 rfl ?_
  refine wp_dupr d80_18 ?_
  refine wz_getI (v := (p : Int)) d80_19 rfl (hG.o (by decide) rfl) (by decide) (ha) ?_
  refine wz_iconst d80_22 ?_
  refine wz_iadd d80_23 ?_
  refine wz_putI (i := 7) d80_24 rfl (hG.o (by decide) rfl) rfl (by decide) rfl ?_
  refine wp_iload_n d80_27 rfl ?_
  rw [show (p : Int) + 1 = ((p + 1 : Nat) : Int) by omega]
  exact wp_retc d80_28 rfl (by omega) (by omega) (h1 ⟨by omega, by omega⟩ (by omega))
theorem c_takeLabel {l dp : Nat} (hG : pm_G Rf K L n) (ht : RTX M tx ln) (ha : M 38 7 = (p : Int)) (hp : p ≤ ln) (hl3 : l ≤ 3) (hdp : dp ≤ 100) (h1 : ¬ (chr tx ln p < 120 + (l : Int) ∨ 123 ≤ chr tx ln p) → dp < 24 → p < ln → Q (some (.int (zI (((chr tx ln p - 120).toNat : Nat) : Int)))) (zM (mset M 38 7 ((p + 1 : Nat) : Int)), Rf, K, L, n, s)) (h0 : 24 ≤ dp ∨ (chr tx ln p < 120 + (l : Int) ∨ 123 ≤ chr tx ln p) → Q (some (.int (zI (-1)))) (zM M, Rf, K, L, n, s)) : pm_Wc (d + 2) 81 [.ref 38, .int (zI (l : Int)), .int (zI (dp : Int))] (zM M, Rf, K, L, n, s) Q := by
  have hc := ht.cha p
  have hl := ht.2.1
  refine wc_in (ls0 := [some (.ref 38), some (.int (zI (l : Int))), some (.int (zI (dp : Int))), none]) (by decide) (Nat.le_of_ble_eq_true rfl) rfl rfl ?_
  refine wp_aload_n d81_0 rfl ?_
  refine wp_virt (as := []) (rest := []) d81_1 rfl rfl rfl (hG.o (by decide) rfl) rfl rfl (Nat.le_of_ble_eq_true rfl) ?_
  refine c_next hG ht ha hp ?_
  refine wz_bipush d81_4 (by decide) ?_
  refine wz_isub d81_6 ?_
  refine wp_istore_n d81_7 (Nat.le_of_ble_eq_true rfl) rfl ?_
  refine wp_iload_n d81_8 rfl ?_
  refine wz_bipush d81_9 (by decide) ?_
  refine wz_icmp_ge (t := 24) d81_11 (by decide) ⟨by omega, by omega⟩ ⟨by omega, by omega⟩ (fun hb => ?_) (fun hb1 => ?_)
  · skip
    refine wz_iconst d81_24 ?_
    exact wp_ret d81_25 rfl (h0 (by omega))
  refine wp_iload_n d81_14 rfl ?_
  refine wp_iload_n d81_15 rfl ?_
  refine wz_icmp_lt (t := 24) d81_16 (by decide) ⟨by omega, by omega⟩ ⟨by omega, by omega⟩ (fun hb => ?_) (fun hb2 => ?_)
  · skip
    refine wz_iconst d81_24 ?_
    exact wp_ret d81_25 rfl (h0 (by omega))
  refine wp_iload_n d81_19 rfl ?_
  refine wz_iconst d81_20 ?_
  refine wz_icmp_lt (t := 26) d81_21 (by decide) ⟨by omega, by omega⟩ ⟨by omega, by omega⟩ (fun hb3 => ?_) (fun hb3 => ?_)
  rotate_left
  · skip
    refine wz_iconst d81_24 ?_
    exact wp_ret d81_25 rfl (h0 (by omega))
  refine wp_aload_n d81_26 rfl ?_
  refine wp_dupr d81_27 ?_
  refine wz_getI (v := (p : Int)) d81_28 rfl (hG.o (by decide) rfl) (by decide) (ha) ?_
  refine wz_iconst d81_31 ?_
  refine wz_iadd d81_32 ?_
  refine wz_putI (i := 7) d81_33 rfl (hG.o (by decide) rfl) rfl (by decide) rfl ?_
  refine wp_iload_n d81_36 rfl ?_
  rw [show (p : Int) + 1 = ((p + 1 : Nat) : Int) by omega, show chr tx ln p - 120 = (((chr tx ln p - 120).toNat : Nat) : Int) by omega]
  exact wp_ret d81_37 rfl (h1 (by omega) (by omega) (by omega))
theorem c_openType {c : Int} {o : Nat} (hG : pm_G Rf K L n) (ho : M 38 8 = (o : Int)) (o1 : o < 24) (c0 : 0 ≤ c) (c1 : c ≤ 200) (h : Q none (zM (mset (mset M 39 (o : Int) c) 38 8 ((o + 1 : Nat) : Int)), Rf, K, L, n, s)) : pm_Wc (d + 1) 82 [.ref 38, .int (zI c)] (zM M, Rf, K, L, n, s) Q := by
  refine wc_in (ls0 := [some (.ref 38), some (.int (zI c))]) (by decide) (Nat.le_of_ble_eq_true rfl) rfl rfl ?_
  refine wp_aload_n d82_0 rfl ?_
  refine wz_getI (v := (o : Int)) d82_1 rfl (hG.o (by decide) rfl) (by decide) (ho) ?_
  refine wz_bipush d82_4 (by decide) ?_
  refine wz_icmp_ge (t := 19) d82_6 (by decide) ⟨by omega, by omega⟩ ⟨by omega, by omega⟩ (fun hb => absurd hb (by omega)) (fun _ => ?_)
  refine wp_aload_n d82_9 rfl ?_
  refine wp_getR (q := 39) d82_10 rfl (hG.o (by decide) rfl) (by decide) (hG.r (by decide +kernel)) (by decide) ?_
  refine wp_aload_n d82_13 rfl ?_
  refine wz_getI (v := (o : Int)) d82_14 rfl (hG.o (by decide) rfl) (by decide) (ho) ?_
  refine wp_iload_n d82_17 rfl ?_
  refine wz_cast (z := 24) d82_18 (hG.a (by decide) rfl rfl) (by omega) (by omega) (by decide) (by omega) (by omega) ?_
  refine wp_aload_n d82_19 rfl ?_
  refine wp_dupr d82_20 ?_
  refine wz_getI (v := (o : Int)) d82_21 rfl (hG.o (by decide) rfl) (by decide) (by rw [mset_p _ _ _ _ (by decide)]; exact ho) ?_
  refine wz_iconst d82_24 ?_
  refine wz_iadd d82_25 ?_
  refine wz_putI (i := 8) d82_26 rfl (hG.o (by decide) rfl) rfl (by decide) rfl ?_
  rw [show (o : Int) + 1 = ((o + 1 : Nat) : Int) by omega]
  exact wp_ret d82_29 rfl (h)
theorem c_openName {c v : Int} {o : Nat} (hG : pm_G Rf K L n) (ho : M 38 9 = (o : Int)) (o1 : o < 24) (c0 : 0 ≤ c) (c1 : c ≤ 200) (h : Q none (zM (mset (mset (mset M 40 (o : Int) c) 41 (o : Int) v) 38 9 ((o + 1 : Nat) : Int)), Rf, K, L, n, s)) : pm_Wc (d + 1) 83 [.ref 38, .int (zI c), .int (zI v)] (zM M, Rf, K, L, n, s) Q := by
  refine wc_in (ls0 := [some (.ref 38), some (.int (zI c)), some (.int (zI v))]) (by decide) (Nat.le_of_ble_eq_true rfl) rfl rfl ?_
  refine wp_aload_n d83_0 rfl ?_
  refine wz_getI (v := (o : Int)) d83_1 rfl (hG.o (by decide) rfl) (by decide) (ho) ?_
  refine wz_bipush d83_4 (by decide) ?_
  refine wz_icmp_ge (t := 29) d83_6 (by decide) ⟨by omega, by omega⟩ ⟨by omega, by omega⟩ (fun hb => absurd hb (by omega)) (fun _ => ?_)
  refine wp_aload_n d83_9 rfl ?_
  refine wp_getR (q := 40) d83_10 rfl (hG.o (by decide) rfl) (by decide) (hG.r (by decide +kernel)) (by decide) ?_
  refine wp_aload_n d83_13 rfl ?_
  refine wz_getI (v := (o : Int)) d83_14 rfl (hG.o (by decide) rfl) (by decide) (ho) ?_
  refine wp_iload_n d83_17 rfl ?_
  refine wz_cast (z := 24) d83_18 (hG.a (by decide) rfl rfl) (by omega) (by omega) (by decide) (by omega) (by omega) ?_
  refine wp_aload_n d83_19 rfl ?_
  refine wp_getR (q := 41) d83_20 rfl (hG.o (by decide) rfl) (by decide) (hG.r (by decide +kernel)) (by decide) ?_
  refine wp_aload_n d83_23 rfl ?_
  refine wz_getI (v := (o : Int)) d83_24 rfl (hG.o (by decide) rfl) (by decide) (by rw [mset_p _ _ _ _ (by decide)]; exact ho) ?_
  refine wp_iload_n d83_27 rfl ?_
  refine wz_iast (z := 24) d83_28 (hG.a (by decide) rfl rfl) (by omega) (by omega) (by decide) ?_
  refine wp_aload_n d83_29 rfl ?_
  refine wp_dupr d83_30 ?_
  refine wz_getI (v := (o : Int)) d83_31 rfl (hG.o (by decide) rfl) (by decide) (by rw [mset_p _ _ _ _ (by decide), mset_p _ _ _ _ (by decide)]; exact ho) ?_
  refine wz_iconst d83_34 ?_
  refine wz_iadd d83_35 ?_
  refine wz_putI (i := 9) d83_36 rfl (hG.o (by decide) rfl) rfl (by decide) rfl ?_
  rw [show (o : Int) + 1 = ((o + 1 : Nat) : Int) by omega]
  exact wp_ret d83_39 rfl (h)
theorem c_lvlOf {c : Int} {e : List Int} (hG : pm_G Rf K L n) (hM : ∀ p i, R32 (M p i)) (ho : M 38 8 = (e.length : Int)) (o1 : e.length ≤ 24) (ht : TNm M e) (rc : R32 c) (h1 : ∀ k, lvl e c = some k → Q (some (.int (zI (k : Int)))) (zM M, Rf, K, L, n, s)) (h0 : lvl e c = none → Q (some (.int (zI 0))) (zM (mset M 38 11 0), Rf, K, L, n, s)) : pm_Wc (d + 1) 84 [.ref 38, .int (zI c)] (zM M, Rf, K, L, n, s) Q := by
  have loop : ∀ e' : List Int, e'.length ≤ 24 → TNm M e' → lvl e c = lvl e' c → pm_Wp none d 84 12 [some (.ref 38), some (.int (zI c)), some (.int (zI ((e'.length : Int) - 1)))] [] (zM M, Rf, K, L, n, s) Q := by
    intro e'
    induction e' with
    | nil =>
      intro hl' t' eq
      refine wp_iload_n d84_12 rfl ?_
      refine wz_if_lt (t := 34) d84_13 (by decide) ⟨by decide, by decide⟩ (fun _ => ?_) (fun hb => absurd (by decide) hb)
      refine wp_aload_n d84_34 rfl ?_
      refine wz_iconst d84_35 ?_
      refine wz_putI (i := 11) d84_36 rfl (hG.o (by decide) rfl) (by decide) (by decide) rfl ?_
      refine wz_iconst d84_39 ?_
      exact wp_ret d84_40 rfl (h0 eq)
    | cons a e' ih =>
      intro hl' t' eq
      have eq : lvl e c = if a = c then some e'.length else lvl e' c := eq
      rw [List.length_cons] at hl'
      rw [show (((a :: e').length : Nat) : Int) - 1 = (e'.length : Int) by rw [List.length_cons]; omega]
      have ra : R32 a := by rw [← t'.1]; exact hM _ _
      refine wp_iload_n d84_12 rfl ?_
      refine wz_if_lt (t := 34) d84_13 (by decide) ⟨by omega, by omega⟩ (fun hb => absurd hb (by omega)) (fun _ => ?_)
      refine wp_aload_n d84_16 rfl ?_
      refine wp_getR (q := 39) d84_17 rfl (hG.o (by decide) rfl) (by decide) (hG.r (by decide +kernel)) (by decide) ?_
      refine wp_iload_n d84_20 rfl ?_
      refine wz_cald (z := 24) (v := a) d84_21 (hG.a (by decide) rfl rfl) (by omega) (by omega) (by decide) (t'.1) ?_
      refine wp_iload_n d84_22 rfl ?_
      refine wz_icmp_ne (t := 28) d84_23 (by decide) ra rc (fun hne => ?_) (fun heq => ?_)
      · skip
        rw [if_neg hne] at eq
        refine wz_iinc d84_28 rfl rfl ?_
        refine wp_goto (t := 12) d84_31 (by decide) ?_
        rw [show (e'.length : Int) + (-1) = (e'.length : Int) - 1 by omega]
        exact ih (by omega) t'.2 eq
      · skip
        rw [if_pos heq] at eq
        refine wp_iload_n d84_26 rfl ?_
        exact wp_ret d84_27 rfl (h1 _ eq)
  refine wc_in (ls0 := [some (.ref 38), some (.int (zI c)), none]) (by decide) (Nat.le_of_ble_eq_true rfl) rfl rfl ?_
  refine wp_aload_n d84_0 rfl ?_
  refine wz_getI (v := (e.length : Int)) d84_1 rfl (hG.o (by decide) rfl) (by decide) (ho) ?_
  refine wz_bipush d84_4 (by decide) ?_
  refine wz_minl (rest := []) d84_6 rfl rfl rfl (Nat.le_of_ble_eq_true rfl) ⟨by omega, by omega⟩ ⟨by omega, by omega⟩ (by omega) ?_
  refine wz_iconst d84_9 ?_
  refine wz_isub d84_10 ?_
  refine wp_istore_n d84_11 (Nat.le_of_ble_eq_true rfl) rfl ?_
  exact loop e o1 ht rfl
end PmC26
