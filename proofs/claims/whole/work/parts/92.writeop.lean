/-! THE CLASS: show, write. -/
/-- what the page shows -/
def SH (M : pm_M) (w : List Int) : Prop := M 13 2 = (w.length : Int) ∧ w.length ≤ 100 ∧ ∀ i : Nat, i < w.length → w[i]? = some (M 14 i)
theorem wsep_len (h g : Nat) : (wsep h g).length ≤ 2 := by
  unfold wsep
  by_cases h1 : h < 8
  · rw [if_pos h1]
    by_cases h2 : g = 1
    · rw [if_pos h2]; decide
    · rw [if_neg h2]; simp
  · rw [if_neg h1]
    by_cases h2 : h % 2 ^ g ≠ 0
    · rw [if_pos h2]; simp
    · rw [if_neg h2]; simp
theorem wr_len : ∀ (N D o : Nat) (t : Ty), ok D t = true → (wrf N o t).length + 2 ≤ 6 * (flat t).length
  | 0, D, o, t, h => by
    have := flat_pos h
    show ([] : List Int).length + 2 ≤ _
    simp; omega
  | N + 1, D, o, t, h => by
    rcases ok_cases h with rfl | ⟨k, hk, rfl⟩ | ⟨a, b, rfl, ha, hb⟩ | ⟨a, b, rfl, ha, hb⟩ | ⟨m, x, y, z, hm, rfl, h0, h1, h2⟩
    · rw [wr_top]; decide
    · rw [wr_var]
      show 3 ≤ 6 * 1
      decide
    · have qa := wr_len N D o a ha
      have qb := wr_len N D o b hb
      rw [wr_fun, flat_fun]
      simp only [List.length_append, List.length_cons, List.length_nil]
      omega
    · have qa := wr_len N D o a ha
      have qb := wr_len N (D + 1) (o + 1) b hb
      rw [wr_all, flat_all]
      simp only [List.length_append, List.length_cons, List.length_nil]
      omega
    · have key : ∀ (g : Nat) (p : Ty), okl D m g p → (if bit m g = true then wsep (8 + m) g ++ wrf N o p else []).length ≤ 6 * (flat p).length := by
        intro g p hp
        by_cases hb : bit m g = true
        · rw [if_pos hb, List.length_append]
          have := wr_len N D o p (okl_on hp (bit_iff.mp hb))
          have := wsep_len (8 + m) g
          omega
        · rw [if_neg hb]; simp
      have k0 := key 0 x h0
      have k1 := key 1 y h1
      have k2 := key 2 z h2
      obtain ⟨p0, p1, p2⟩ := pt_rec hm x y z
      have hpS := hp_rec hm x y z
      rw [wr_rec hm, flat_rec]
      simp only [wpu, List.length_append, List.length_cons, List.length_nil]
      rw [hpS 0 (by decide), hpS 1 (by decide), hpS 2 (by decide), p0, p1, p2, hd_rec, if_neg (show ¬ (8 + m = 2 ∧ 0 = 1) by omega), if_neg (show ¬ (8 + m = 2 ∧ True) by omega), if_neg (show ¬ (8 + m = 2 ∧ 2 = 1) by omega)]
      omega
section PmC25
variable {d : Nat} {Q : Option Value → pm_S → Prop} {M : pm_M} {Rf : Nat → Nat → Nat} {K L : Nat → Nat} {n s : Nat}
theorem c_isOver {l : Nat} (hG : pm_G Rf K L n) (e3 : M 13 3 = (l : Int)) (hl : l ≤ 1000000) (h1 : 100 < l → Q (some (.int (zI 1))) (zM M, Rf, K, L, n, s)) (h0 : ¬ 100 < l → Q (some (.int (zI 0))) (zM M, Rf, K, L, n, s)) : pm_Wc (d + 1) 65 [.ref 13] (zM M, Rf, K, L, n, s) Q := by
  refine wc_in (ls0 := [some (.ref 13)]) (by decide) (Nat.le_of_ble_eq_true rfl) rfl rfl ?_
  refine wp_aload_n d65_0 rfl ?_
  refine wz_getI (v := (l : Int)) d65_1 rfl (hG.o (by decide) rfl) (by decide) (e3) ?_
  refine wz_bipush d65_4 (by decide) ?_
  refine wz_icmp_le (t := 13) d65_6 (by decide) ⟨by omega, by omega⟩ ⟨by omega, by omega⟩ (fun hb => ?_) (fun hb => ?_)
  · skip
    refine wz_iconst d65_13 ?_
    exact wp_ret d65_14 rfl (h0 (by omega))
  · skip
    refine wz_iconst d65_9 ?_
    refine wp_goto (t := 14) d65_10 (by decide) ?_
    exact wp_ret d65_14 rfl (h1 (by omega))
theorem c_show {w : List Int} (hG : pm_G Rf K L n) (hM : ∀ p i, R32 (M p i)) (hw : DR M w) (hl : w.length ≤ 1000000) (h3 : ¬ w.length ≤ 100 → Q (some (.int (zI (-3)))) (zM M, Rf, K, L, n, s)) (h : w.length ≤ 100 → ∀ M' : pm_M, (∀ (p : Nat) (i : Int), p ≠ 14 → ¬ (p = 13 ∧ i = 2) → M' p i = M p i) → SH M' w → (∀ p i, R32 (M' p i)) → Q (some (.int (zI (w.length : Int)))) (zM M', Rf, K, L, n, s)) : pm_Wc (d + 2) 66 [.ref 13] (zM M, Rf, K, L, n, s) Q := by
  obtain ⟨e3, ew, ec⟩ := hw
  have loop : w.length ≤ 100 → ∀ (k i : Nat) (M1 : pm_M), i + k = w.length → (∀ (p : Nat) (j : Int), p ≠ 14 → M1 p j = M p j) → (∀ j : Nat, j < i → w[j]? = some (M1 14 j)) → (∀ p i, R32 (M1 p i)) → pm_Wp none (d + 1) 66 12 [some (.ref 13), some (.int (zI (i : Int)))] [] (zM M1, Rf, K, L, n, s) Q := by
    intro hle k
    induction k with
    | zero =>
      intro i M1 hik f1 f2 hM1
      have e : i = w.length := by omega
      subst e
      refine wp_iload_n d66_12 rfl ?_
      refine wp_aload_n d66_13 rfl ?_
      refine wz_getI (v := (w.length : Int)) d66_14 rfl (hG.o (by decide) rfl) (by decide) ((f1 13 3 (by decide)).trans e3) ?_
      refine wz_icmp_ge (t := 38) d66_17 (by decide) ⟨by omega, by omega⟩ ⟨by omega, by omega⟩ (fun _ => ?_) (fun hb => absurd (by omega) hb)
      refine wp_aload_n d66_38 rfl ?_
      refine wp_aload_n d66_39 rfl ?_
      refine wz_getI (v := (w.length : Int)) d66_40 rfl (hG.o (by decide) rfl) (by decide) ((f1 13 3 (by decide)).trans e3) ?_
      refine wz_putI (i := 2) d66_43 rfl (hG.o (by decide) rfl) rfl (by decide) rfl ?_
      refine wp_aload_n d66_46 rfl ?_
      refine wz_getI (v := (w.length : Int)) d66_47 rfl (hG.o (by decide) rfl) (by decide) (mset_s _ _ _ _) ?_
      refine wp_ret d66_50 rfl (h hle _ (fun p i hp hi => ?_) ⟨mset_s _ _ _ _, hle, fun i hi => ?_⟩ (mset_R32 hM1 ⟨by omega, by omega⟩))
      · unfold mset
        rw [if_neg hi]; exact f1 p i hp
      · rw [mset_p _ _ _ _ (by decide)]; exact f2 i hi
    | succ k ih =>
      intro i M1 hik f1 f2 hM1
      have wi := ew i (by omega) (by omega)
      have cb := ec (M 15 i) (List.mem_of_getElem? wi)
      refine wp_iload_n d66_12 rfl ?_
      refine wp_aload_n d66_13 rfl ?_
      refine wz_getI (v := (w.length : Int)) d66_14 rfl (hG.o (by decide) rfl) (by decide) ((f1 13 3 (by decide)).trans e3) ?_
      refine wz_icmp_ge (t := 38) d66_17 (by decide) ⟨by omega, by omega⟩ ⟨by omega, by omega⟩ (fun hb => absurd hb (by omega)) (fun _ => ?_)
      refine wp_aload_n d66_20 rfl ?_
      refine wp_getR (q := 14) d66_21 rfl (hG.o (by decide) rfl) (by decide) (hG.r (by decide +kernel)) (by decide) ?_
      refine wp_iload_n d66_24 rfl ?_
      refine wp_aload_n d66_25 rfl ?_
      refine wp_getR (q := 15) d66_26 rfl (hG.o (by decide) rfl) (by decide) (hG.r (by decide +kernel)) (by decide) ?_
      refine wp_iload_n d66_29 rfl ?_
      refine wz_cald (z := 100) (v := M 15 i) d66_30 (hG.a (by decide) rfl rfl) (by omega) (by omega) (by decide) (f1 15 i (by decide)) ?_
      refine wz_cast (z := 100) d66_31 (hG.a (by decide) rfl rfl) (by omega) (by omega) (by decide) (by omega) (by omega) ?_
      refine wz_iinc d66_32 rfl rfl ?_
      refine wp_goto (t := 12) d66_35 (by decide) ?_
      refine ih (i + 1) _ (by omega) (fun p j hp => ?_) (fun j hj => ?_) (mset_R32 hM1 ⟨by omega, by omega⟩)
      · rw [mset_p _ _ _ _ hp]; exact f1 p j hp
      · by_cases e : j = i
        · subst e; rw [mset_s]; exact wi
        · rw [mset_i _ _ _ _ (by omega)]; exact f2 j (by omega)
  refine wc_in (ls0 := [some (.ref 13), none]) (by decide) (Nat.le_of_ble_eq_true rfl) rfl rfl ?_
  refine wp_aload_n d66_0 rfl ?_
  refine wp_virt (as := []) (rest := []) d66_1 rfl rfl rfl (hG.o (by decide) rfl) rfl rfl (Nat.le_of_ble_eq_true rfl) ?_
  refine c_isOver hG e3 (by omega) (fun hb => ?_) (fun hb => ?_)
  · skip
    refine wz_if_eq (t := 10) d66_4 (by decide) ⟨by omega, by omega⟩ (fun hb => absurd hb (by decide)) (fun _ => ?_)
    refine wz_bipush d66_7 (by decide) ?_
    exact wp_ret d66_9 rfl (h3 (by omega))
  · skip
    refine wz_if_eq (t := 10) d66_4 (by decide) ⟨by omega, by omega⟩ (fun _ => ?_) (fun hb => absurd (by decide) hb)
    refine wz_iconst d66_10 ?_
    refine wp_istore_n d66_11 (Nat.le_of_ble_eq_true rfl) rfl ?_
    exact loop (by omega) w.length 0 M (by omega) (fun _ _ _ => rfl) (fun j hj => absurd hj (Nat.not_lt_zero _)) hM
/-- what write may change besides the rows -/
def WC3 (p : Nat) (i : Int) : Prop := WC1 p i ∨ p = 13 ∨ p = 14 ∨ p = 15
theorem c_writeOp {z : Nat} {i : Int} {T : Int → Option Ty} (hG : pm_G Rf K L n) (hR : RmI Rf K L n z) (hM : ∀ p i, R32 (M p i)) (ri : R32 i) (hT : SLC M T) (h2 : sl T i = none → Q (some (.int (zI (-2)))) (zM M, Rf, K, L, n, s)) (h1 : ∀ A, sl T i = some A → ∀ (M' : pm_M) (Rf' : Nat → Nat → Nat) (K' L' : Nat → Nat) (n' s' z' : Nat), CX WC3 M Rf K L n s z 1 M' Rf' K' L' n' s' z' → SH M' (wrf 16 0 A) → Q (some (.int (zI ((wrf 16 0 A).length : Int)))) (zM M', Rf', K', L', n', s')) : pm_Wc (d + 60) 9 [.ref 1, .int (zI i)] (zM M, Rf, K, L, n, s) Q := by
  have hn := hG.1
  refine wc_in (ls0 := [some (.ref 1), some (.int (zI i))]) (by decide) (Nat.le_of_ble_eq_true rfl) rfl rfl ?_
  refine wp_aload_n d9_0 rfl ?_
  refine wp_iload_n d9_1 rfl ?_
  refine wp_virt (as := [.int (zI i)]) (rest := []) d9_2 rfl rfl rfl (hG.o (by decide) rfl) rfl rfl (Nat.le_of_ble_eq_true rfl) ?_
  refine c_hasType hG hM ri hT (fun A eA => ?_) (fun e => ?_)
  rotate_left
  · skip
    refine wz_if_ne (t := 11) d9_5 (by decide) ⟨by omega, by omega⟩ (fun hb => absurd (by decide) hb) (fun _ => ?_)
    refine wz_bipush d9_8 (by decide) ?_
    exact wp_ret d9_10 rfl (h2 e)
  refine wz_if_ne (t := 11) d9_5 (by decide) ⟨by omega, by omega⟩ (fun _ => ?_) (fun hb => absurd hb (by decide))
  have hh := h1 A eA
  obtain ⟨ki, hki, rfl, et⟩ := sl_nat eA
  have hs := hT ki hki
  rw [et] at hs
  have hs : KTY M (30 + 2 * ki) (31 + 2 * ki) A := hs
  have lA := hs.2.2.1
  have oA := hs.2.2.2
  have wl := wr_len 16 0 0 A oA
  refine wp_aload_n d9_11 rfl ?_
  refine wp_getR (q := 6) d9_12 rfl (hG.o (by decide) rfl) (by decide) (hG.r (by decide +kernel)) (by decide) ?_
  refine wp_virt (as := []) (rest := []) d9_15 rfl rfl rfl (hG.o (by decide) rfl) rfl rfl (Nat.le_of_ble_eq_true rfl) ?_
  refine c_clear hG ?_
  refine wp_aload_n d9_18 rfl ?_
  refine wp_getR (q := 13) d9_19 rfl (hG.o (by decide) rfl) (by decide) (hG.r (by decide +kernel)) (by decide) ?_
  refine wp_virt (as := []) (rest := []) d9_22 rfl rfl rfl (hG.o (by decide) rfl) rfl rfl (Nat.le_of_ble_eq_true rfl) ?_
  refine c_pbegin hG ?_
  refine wp_aload_n d9_25 rfl ?_
  refine wp_getR (q := 6) d9_26 rfl (hG.o (by decide) rfl) (by decide) (hG.r (by decide +kernel)) (by decide) ?_
  refine wp_aload_n d9_29 rfl ?_
  refine wp_getR (q := 13) d9_30 rfl (hG.o (by decide) rfl) (by decide) (hG.r (by decide +kernel)) (by decide) ?_
  refine wp_aload_n d9_33 rfl ?_
  refine wp_getR (q := 6) d9_34 rfl (hG.o (by decide) rfl) (by decide) (hG.r (by decide +kernel)) (by decide) ?_
  refine wp_aload_n d9_37 rfl ?_
  refine wp_getR (q := 3) d9_38 rfl (hG.o (by decide) rfl) (by decide) (hG.r (by decide +kernel)) (by decide) ?_
  refine wp_iload_n d9_41 rfl ?_
  refine wz_aald (z := 4) (q := 30 + 2 * ki) d9_42 (hG.a (by decide) rfl rfl) (by omega) (by omega) (by decide) (by rw [Int.toNat_natCast]; exact hG.slot hki) (by omega) ?_
  refine wp_virt (as := [.ref (30 + 2 * ki)]) (rest := [.ref 13, .ref 6]) d9_43 rfl rfl rfl (hG.o (by decide) rfl) (by simp [pm_vc]) rfl (Nat.le_of_ble_eq_true rfl) ?_
  have cm : mset (mset M 6 6 1) 13 3 0 = mset (mset M 13 3 0) 6 6 1 := by
    funext p q
    unfold mset
    by_cases a : p = 13 ∧ q = 3
    · rw [if_pos a, if_neg (by omega), if_pos a]
    · rw [if_neg a, if_neg a]
  rw [cm]
  have hM0 : ∀ p i, R32 (mset M 13 3 0 p i) := mset_R32 hM ⟨by omega, by omega⟩
  have hs0 : KTY (mset M 13 3 0) (30 + 2 * ki) (31 + 2 * ki) A := hs.same (mset_p _ _ _ _ (by omega)) (fun _ => mset_p _ _ _ _ (by omega))
  have cx0 : CX WC3 M Rf K L n s z 1 (mset M 13 3 0) Rf K L n s z := (CX.refl hG hR hM).set (fun g hg => by have := hR.2.1 g hg; omega) (Or.inr (Or.inl rfl)) ⟨by omega, by omega⟩
  refine wc_deep (show 0 + 21 ≤ d + 59 by omega) ?_
  refine c_unpack1 (KPs_slot hki) hG hR hM0 hs0 (fun M1 R1 K1 L1 n1 s1 z1 cx1 m61 mz1 nA => ?_)
  have cx01 := cx0.trans (cx1.weak (fun p i hw => Or.inl hw)) (Int.le_refl _)
  have d1 : DR M1 [] := by
    refine ⟨?_, fun i hi => absurd hi (Nat.not_lt_zero _), fun c hc => absurd hc (List.not_mem_nil)⟩
    rw [cx1.mem 13 (by omega) (fun g hg => by have := hR.2.1 g hg; omega) 3 (by unfold WC1; omega), mset_s]; rfl
  refine wz_iconst d9_46 ?_
  refine wz_iconst d9_47 ?_
  refine wp_virt (as := [.int (zI 0), .int (zI 0), .int (zI (((flat A).length : Int))), .ref 13]) (rest := []) d9_48 rfl rfl rfl (cx1.g.o (by decide) rfl) rfl rfl (Nat.le_of_ble_eq_true rfl) ?_
  refine wc_deep (show 0 + 2 * 16 + 2 ≤ d + 59 by omega) ?_
  refine c_write 0 16 R1 K1 L1 n1 s1 z1 0 0 0 _ _ A M1 [] _ cx1.g cx1.r cx1.r32 mz1 nA oA (by decide) (by decide) (by decide) d1 (by rw [List.length_nil]; omega) (fun M2 pf2 dr2 hM2 => ?_)
  rw [List.nil_append] at dr2
  refine wp_aload_n d9_51 rfl ?_
  refine wp_getR (q := 13) d9_52 rfl (cx1.g.o (by decide) rfl) (by decide) (cx1.g.r (by decide +kernel)) (by decide) ?_
  refine wp_virt (as := []) (rest := []) d9_55 rfl rfl rfl (cx1.g.o (by decide) rfl) rfl rfl (Nat.le_of_ble_eq_true rfl) ?_
  refine wc_deep (show 0 + 2 ≤ d + 59 by omega) ?_
  refine c_show cx1.g hM2 dr2 (by omega) (fun e => absurd (by omega) e) (fun _ M3 f3 sh3 hM3 => ?_)
  refine wp_ret d9_58 rfl (hh M3 R1 K1 L1 n1 s1 z1 (cx01.chg (fun p i hw => ?_) (fun p i hw g hg e => ?_) hM3) sh3)
  · unfold WC3 at hw
    rw [f3 p i (by omega) (by omega), pf2 p i (by omega) (by omega)]
  · have := cx1.r.2.1 g hg
    unfold WC3 WC1 at hw
    omega
end PmC25
