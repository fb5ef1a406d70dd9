/-! THE CLASS: readType. -/
/-- the class's text -/
def CT (M : pm_M) (tx : Nat → Int) (ln : Nat) : Prop := M 1 8 = (ln : Int) ∧ ln ≤ 60 ∧ ∀ i : Nat, i < ln → M 2 i = tx i ∧ 32 ≤ tx i ∧ tx i ≤ 126
/-- what readType answers, and the type -/
def rdT (tx : Nat → Int) (ln : Nat) : Int × Option Ty := match pT tx ln 23 [] 0 with
  | (q, none) => ((q : Int), none)
  | (q, some a) => if q < ln then ((q : Int), none) else if gud a = true then (-1, some a.1) else (-2, none)
def sluO (T : Int → Option Ty) (k : Int) : Option Ty → Int → Option Ty
  | none => T
  | some t => slu T k t
/-- the reader's fields at the start -/
def rbg (M : pm_M) (ln : Int) : pm_M := mset (mset (mset (mset (mset (mset M 38 6 ln) 38 7 0) 38 8 0) 38 9 0) 38 11 1) 38 12 0
theorem rbg_o {M : pm_M} {ln : Int} {p : Nat} {i : Int} (h : ¬ (p = 38 ∧ 6 ≤ i ∧ i ≤ 12)) : rbg M ln p i = M p i := by
  unfold rbg mset
  rw [if_neg (by omega), if_neg (by omega), if_neg (by omega), if_neg (by omega), if_neg (by omega), if_neg (by omega)]
section PmC32
variable {d : Nat} {Q : Option Value → pm_S → Prop} {M : pm_M} {Rf : Nat → Nat → Nat} {K L : Nat → Nat} {n s : Nat} {tx : Nat → Int} {ln : Nat}
theorem c_rbegin (hG : pm_G Rf K L n) (hl : ln ≤ 60) (h : Q none (zM (rbg M (ln : Int)), Rf, K, L, n, s)) : pm_Wc (d + 1) 76 [.ref 38, .int (zI (ln : Int))] (zM M, Rf, K, L, n, s) Q := by
  refine wc_in (ls0 := [some (.ref 38), some (.int (zI (ln : Int)))]) (by decide) (Nat.le_of_ble_eq_true rfl) rfl rfl ?_
  refine wp_aload_n d76_0 rfl ?_
  refine wp_iload_n d76_1 rfl ?_
  refine wp_aload_n d76_2 rfl ?_
  refine wp_getR (q := 2) d76_3 rfl (hG.o (by decide) rfl) (by decide) (hG.r (by decide +kernel)) (by decide) ?_
  refine wz_alen (z := 60) d76_6 (hG.a (by decide) rfl rfl) (by decide) ?_
  refine wz_minl (rest := [.ref 38]) d76_7 rfl rfl rfl (Nat.le_of_ble_eq_true rfl) ⟨by omega, by omega⟩ ⟨by omega, by omega⟩ (by omega) ?_
  refine wz_putI (i := 6) d76_10 rfl (hG.o (by decide) rfl) rfl (by decide) rfl ?_
  refine wp_aload_n d76_13 rfl ?_
  refine wz_iconst d76_14 ?_
  refine wz_putI (i := 7) d76_15 rfl (hG.o (by decide) rfl) rfl (by decide) rfl ?_
  refine wp_aload_n d76_18 rfl ?_
  refine wz_iconst d76_19 ?_
  refine wz_putI (i := 8) d76_20 rfl (hG.o (by decide) rfl) rfl (by decide) rfl ?_
  refine wp_aload_n d76_23 rfl ?_
  refine wz_iconst d76_24 ?_
  refine wz_putI (i := 9) d76_25 rfl (hG.o (by decide) rfl) rfl (by decide) rfl ?_
  refine wp_aload_n d76_28 rfl ?_
  refine wz_iconst d76_29 ?_
  refine wz_putI (i := 11) d76_30 rfl (hG.o (by decide) rfl) (by decide) (by decide) rfl ?_
  refine wp_aload_n d76_33 rfl ?_
  refine wz_iconst d76_34 ?_
  refine wz_putI (i := 12) d76_35 rfl (hG.o (by decide) rfl) (by decide) (by decide) rfl ?_
  exact wp_ret d76_38 rfl (h)
theorem c_rend {i p : Int} (hG : pm_G Rf K L n) (hi : R32 i) (h7 : M 38 7 = p) (h6 : M 38 6 = (ln : Int)) (hp : 0 ≤ p ∧ p ≤ 100) (hl : ln ≤ 60) (h : Q none (zM (mset M 38 10 (if i = -1 ∨ p < (ln : Int) then p else -1)), Rf, K, L, n, s)) : pm_Wc (d + 1) 77 [.ref 38, .int (zI i)] (zM M, Rf, K, L, n, s) Q := by
  refine wc_in (ls0 := [some (.ref 38), some (.int (zI i))]) (by decide) (Nat.le_of_ble_eq_true rfl) rfl rfl ?_
  refine wp_aload_n d77_0 rfl ?_
  refine wp_iload_n d77_1 rfl ?_
  refine wz_iconst d77_2 ?_
  refine wz_icmp_eq (t := 17) d77_3 (by decide) hi ⟨by omega, by omega⟩ (fun hb => ?_) (fun hb => ?_)
  · skip
    rw [if_pos (Or.inl hb)] at h
    refine wp_aload_n d77_17 rfl ?_
    refine wz_getI (v := p) d77_18 rfl (hG.o (by decide) rfl) (by decide) (h7) ?_
    refine wp_goto (t := 25) d77_21 (by decide) ?_
    refine wz_putI (i := 10) d77_25 rfl (hG.o (by decide) rfl) rfl (by decide) rfl ?_
    exact wp_ret d77_28 rfl (h)
  refine wp_aload_n d77_6 rfl ?_
  refine wz_getI (v := p) d77_7 rfl (hG.o (by decide) rfl) (by decide) (h7) ?_
  refine wp_aload_n d77_10 rfl ?_
  refine wz_getI (v := (ln : Int)) d77_11 rfl (hG.o (by decide) rfl) (by decide) (h6) ?_
  refine wz_icmp_ge (t := 24) d77_14 (by decide) ⟨by omega, by omega⟩ ⟨by omega, by omega⟩ (fun hb2 => ?_) (fun hb2 => ?_)
  · skip
    rw [if_neg (fun x => x.elim hb (fun y => by omega))] at h
    refine wz_iconst d77_24 ?_
    refine wz_putI (i := 10) d77_25 rfl (hG.o (by decide) rfl) rfl (by decide) rfl ?_
    exact wp_ret d77_28 rfl (h)
  · skip
    rw [if_pos (Or.inr (by omega))] at h
    refine wp_aload_n d77_17 rfl ?_
    refine wz_getI (v := p) d77_18 rfl (hG.o (by decide) rfl) (by decide) (h7) ?_
    refine wp_goto (t := 25) d77_21 (by decide) ?_
    refine wz_putI (i := 10) d77_25 rfl (hG.o (by decide) rfl) rfl (by decide) rfl ?_
    exact wp_ret d77_28 rfl (h)
/-- what reading may write besides the rows -/
def WRd (p : Nat) (i : Int) : Prop := (p = 6 ∧ i = 6) ∨ (p = 38 ∧ 6 ≤ i ∧ i ≤ 12) ∨ p = 39
theorem rbg_S {z : Nat} (hG : pm_G Rf K L n) (hR : RmI Rf K L n z) (hM : ∀ p i, R32 (M p i)) (m6 : M 6 6 = 1) (nt : ndf M Rf 1 1 tTop 0) (hl : ln ≤ 60) (ht : ∀ i : Nat, i < ln → M 2 i = tx i ∧ 32 ≤ tx i ∧ tx i ≤ 126) : RdS tx ln [] 0 (rbg M (ln : Int)) Rf K L n z 1 := by
  have hz := hR.2.2.2
  have f : ∀ (p : Nat) (i : Int), ¬ (p = 38 ∧ 6 ≤ i ∧ i ≤ 12) → rbg M (ln : Int) p i = M p i := fun p i h => rbg_o h
  refine ⟨hG, hR, ?_, (f 6 6 (by omega)).trans m6, Int.le_refl _, by omega, by omega, ndf_mono (fun g hg i _ _ => f _ i (by have := hR.2.1 g hg; omega)) (Int.le_refl _) (Nat.le_refl _) nt, ⟨?_, hl, fun i hi => ?_⟩, ?_, Nat.zero_le _, ?_, trivial⟩
  · unfold rbg
    exact mset_R32 (mset_R32 (mset_R32 (mset_R32 (mset_R32 (mset_R32 hM ⟨by omega, by omega⟩) ⟨by omega, by omega⟩) ⟨by omega, by omega⟩) ⟨by omega, by omega⟩) ⟨by omega, by omega⟩) ⟨by omega, by omega⟩
  · unfold rbg; simp [mset]
  · rw [f 2 i (by omega)]; exact ht i hi
  · unfold rbg; simp [mset]
  · unfold rbg; simp [mset]
theorem rbg_cx {z : Nat} {cn : Int} (hG : pm_G Rf K L n) (hR : RmI Rf K L n z) (hM : ∀ p i, R32 (M p i)) (hl : ln ≤ 60) : CX WRd M Rf K L n s z cn (rbg M (ln : Int)) Rf K L n s z := by
  have h38 : ∀ g, g < 5 → 38 ≠ Rf 6 g := fun g hg => by have := hR.2.1 g hg; omega
  unfold rbg
  exact ((((((CX.refl hG hR hM).set h38 (by unfold WRd; omega) ⟨by omega, by omega⟩).set h38 (by unfold WRd; omega) ⟨by omega, by omega⟩).set h38 (by unfold WRd; omega) ⟨by omega, by omega⟩).set h38 (by unfold WRd; omega) ⟨by omega, by omega⟩).set h38 (by unfold WRd; omega) ⟨by omega, by omega⟩).set h38 (by unfold WRd; omega) ⟨by omega, by omega⟩
theorem c_readWholeType {z : Nat} (hG : pm_G Rf K L n) (hR : RmI Rf K L n z) (hM : ∀ p i, R32 (M p i)) (m6 : M 6 6 = 1) (nt : ndf M Rf 1 1 tTop 0) (hl : ln ≤ 60) (ht : ∀ i : Nat, i < ln → M 2 i = tx i ∧ 32 ≤ tx i ∧ tx i ≤ 126) (h : ∀ (M' : pm_M) (Rf' : Nat → Nat → Nat) (K' L' : Nat → Nat) (n' s' z' : Nat) (cn' i : Int), CX WRd M Rf K L n s z 1 M' Rf' K' L' n' s' z' → M' 6 6 = cn' → cn' ≤ z' → TyR M' Rf' cn' 24 1 (pT tx ln 23 [] 0).2 i → M' 38 12 = big 0 (pT tx ln 23 [] 0).2 → M' 38 10 = (if (pT tx ln 23 [] 0).2 = none ∨ (pT tx ln 23 [] 0).1 < ln then ((pT tx ln 23 [] 0).1 : Int) else -1) → Q (some (.int (zI i))) (zM M', Rf', K', L', n', s')) : pm_Wc (d + 160) 74 [.ref 38, .int (zI (ln : Int))] (zM M, Rf, K, L, n, s) Q := by
  refine wc_in (ls0 := [some (.ref 38), some (.int (zI (ln : Int))), none]) (by decide) (Nat.le_of_ble_eq_true rfl) rfl rfl ?_
  refine wp_aload_n d74_0 rfl ?_
  refine wp_iload_n d74_1 rfl ?_
  refine wp_virt (as := [.int (zI (ln : Int))]) (rest := []) d74_2 rfl rfl rfl (hG.o (by decide) rfl) rfl rfl (Nat.le_of_ble_eq_true rfl) ?_
  refine c_rbegin hG hl ?_
  have S0 := rbg_S hG hR hM m6 nt hl ht
  have cx0 : CX WRd M Rf K L n s z 1 (rbg M (ln : Int)) Rf K L n s z := rbg_cx hG hR hM hl
  refine wp_aload_n d74_5 rfl ?_
  refine wz_iconst d74_6 ?_
  refine wp_virt (as := [.int (zI 1)]) (rest := []) d74_7 rfl rfl rfl (hG.o (by decide) rfl) rfl rfl (Nat.le_of_ble_eq_true rfl) ?_
  refine wc_deep (show 0 + 6 * 23 + 13 ≤ d + 159 by omega) ?_
  rw [show (1 : Int) = ((1 : Nat) : Int) by rfl]
  refine c_outerType (r := 23) S0 (by decide) (by decide) (fun M1 R1 K1 L1 n1 s1 z1 cn1 i1 cx1 u1 u2 u3 u4 u5 u6 t1 u7 => ?_)
  have f1 := pT_fw (tx := tx) (ln := ln) 23 [] 0 (Nat.zero_le _)
  have q60 := f1.2.1
  have cx01 := cx0.trans (cx1.weak (W' := WRd) (fun p i hw => by unfold WT2 WT at hw; unfold WRd; omega)) (Int.le_refl _)
  have e11 : rbg M (ln : Int) 38 11 = 1 := by unfold rbg; simp [mset]
  have e12 : rbg M (ln : Int) 38 12 = 0 := by unfold rbg; simp [mset]
  have e6 : M1 38 6 = (ln : Int) := by
    rw [cx1.mem 38 (by have := hG.1; omega) (fun g hg => by have := hR.2.1 g hg; omega) 6 (by unfold WT2 WT; omega)]
    unfold rbg; simp [mset]
  rw [e11] at t1
  rw [e12] at u7
  have ri : R32 i1 := by
    have hz1 := cx1.r.2.2.2.2
    cases o : (pT tx ln 23 [] 0).2 with
    | none =>
      rw [o] at t1
      have t1 : i1 = -1 := t1
      exact ⟨by omega, by omega⟩
    | some a =>
      rw [o] at t1
      have := ndf_rng t1.1
      exact ⟨by omega, by omega⟩
  refine wp_istore_n d74_10 (Nat.le_of_ble_eq_true rfl) rfl ?_
  refine wp_aload_n d74_11 rfl ?_
  refine wp_iload_n d74_12 rfl ?_
  refine wp_virt (as := [.int (zI i1)]) (rest := []) d74_13 rfl rfl rfl (cx1.g.o (by decide) rfl) rfl rfl (Nat.le_of_ble_eq_true rfl) ?_
  refine c_rend cx1.g ri u5 e6 ⟨by omega, by omega⟩ hl ?_
  have hN : (∀ p i, R32 (mset M1 38 10 (if i1 = -1 ∨ ((pT tx ln 23 [] 0).1 : Int) < (ln : Int) then ((pT tx ln 23 [] 0).1 : Int) else -1) p i)) := by
    refine mset_R32 cx1.r32 ?_
    by_cases c : i1 = -1 ∨ ((pT tx ln 23 [] 0).1 : Int) < (ln : Int)
    · rw [if_pos c]; exact ⟨by omega, by omega⟩
    · rw [if_neg c]; exact ⟨by omega, by omega⟩
  have hv := hN 38 10
  rw [mset_s] at hv
  refine wp_iload_n d74_16 rfl ?_
  refine wp_ret d74_17 rfl (h _ R1 K1 L1 n1 s1 z1 cn1 i1 (cx01.set (fun g hg => by have := cx1.r.2.1 g hg; omega) (by unfold WRd; omega) hv) (by rw [mset_p _ _ _ _ (by decide)]; exact u1) u4 ?_ (by rw [mset_i _ _ _ _ (by decide)]; exact u7) ?_)
  · cases o : (pT tx ln 23 [] 0).2 with
    | none => rw [o] at t1; exact t1
    | some a =>
      rw [o] at t1
      exact ⟨ndf_mono (fun g hg i _ _ => mset_p _ _ _ _ (by have := cx1.r.2.1 g hg; omega)) (Int.le_refl _) (Nat.le_refl _) t1.1, by rw [mset_i _ _ _ _ (by decide)]; exact t1.2⟩
  · rw [mset_s]
    have hiff : (i1 = -1 ∨ ((pT tx ln 23 [] 0).1 : Int) < (ln : Int)) ↔ ((pT tx ln 23 [] 0).2 = none ∨ (pT tx ln 23 [] 0).1 < ln) := by
      cases o : (pT tx ln 23 [] 0).2 with
      | none =>
        rw [o] at t1
        exact ⟨fun _ => Or.inl rfl, fun _ => Or.inl t1⟩
      | some a =>
        rw [o] at t1
        have rr := ndf_rng t1.1
        refine ⟨fun x => Or.inr ?_, fun x => Or.inr ?_⟩
        · rcases x with x | x
          · omega
          · omega
        · rcases x with x | x
          · cases x
          · omega
    by_cases c : i1 = -1 ∨ ((pT tx ln 23 [] 0).1 : Int) < (ln : Int)
    · rw [if_pos c, if_pos (hiff.mp c)]
    · rw [if_neg c, if_neg (fun x => c (hiff.mpr x))]
/-- what readType may write besides the rows -/
def WRT (p : Nat) (i : Int) : Prop := WRd p i ∨ (p = 1 ∧ i = 8) ∨ (30 ≤ p ∧ p ≤ 37)
theorem c_readType {z : Nat} {k : Int} {T : Int → Option Ty} (hG : pm_G Rf K L n) (hR : RmI Rf K L n z) (hM : ∀ p i, R32 (M p i)) (nt : ndf M Rf 1 1 tTop 0) (rk : R32 k) (hT : SLC M T) (hct : CT M tx ln) (h2 : ¬ (0 ≤ k ∧ k ≤ 3) → Q (some (.int (zI (-2)))) (zM M, Rf, K, L, n, s)) (h : 0 ≤ k → k ≤ 3 → ∀ (M' : pm_M) (Rf' : Nat → Nat → Nat) (K' L' : Nat → Nat) (n' s' z' : Nat), CX WRT M Rf K L n s z 1 M' Rf' K' L' n' s' z' → M' 1 8 = 0 → SLC M' (sluO T k (rdT tx ln).2) → Q (some (.int (zI (rdT tx ln).1))) (zM M', Rf', K', L', n', s')) : pm_Wc (d + 170) 2 [.ref 1, .int (zI k)] (zM M, Rf, K, L, n, s) Q := by
  have hn := hG.1
  obtain ⟨ct1, ct2, ct3⟩ := hct
  refine wc_in (ls0 := [some (.ref 1), some (.int (zI k)), none]) (by decide) (Nat.le_of_ble_eq_true rfl) rfl rfl ?_
  refine wp_iload_n d2_0 rfl ?_
  refine wp_stat (as := [.int (zI k)]) (rest := []) d2_1 rfl rfl rfl rfl rfl (Nat.le_of_ble_eq_true rfl) ?_
  refine c_isSlot rk (fun k0 k3 => ?_) (fun e => ?_)
  rotate_left
  · skip
    refine wz_if_ne (t := 10) d2_4 (by decide) ⟨by omega, by omega⟩ (fun hb => absurd (by decide) hb) (fun _ => ?_)
    refine wz_bipush d2_7 (by decide) ?_
    exact wp_ret d2_9 rfl (h2 e)
  refine wz_if_ne (t := 10) d2_4 (by decide) ⟨by omega, by omega⟩ (fun _ => ?_) (fun hb => absurd hb (by decide))
  refine wp_aload_n d2_10 rfl ?_
  refine wp_getR (q := 6) d2_11 rfl (hG.o (by decide) rfl) (by decide) (hG.r (by decide +kernel)) (by decide) ?_
  refine wp_virt (as := []) (rest := []) d2_14 rfl rfl rfl (hG.o (by decide) rfl) rfl rfl (Nat.le_of_ble_eq_true rfl) ?_
  refine c_clear hG ?_
  have hh := h k0 k3
  obtain ⟨kk, rfl⟩ : ∃ q : Nat, k = (q : Int) := ⟨k.toNat, by omega⟩
  have hkk : kk < 4 := by omega
  have hM0 : ∀ p i, R32 (mset M 6 6 1 p i) := mset_R32 hM ⟨by omega, by omega⟩
  have cx0 : CX WRd M Rf K L n s z 1 (mset M 6 6 1) Rf K L n s z := (CX.refl hG hR hM).set (fun g hg => (hR.ne6 hg).symm) (by unfold WRd; omega) ⟨by omega, by omega⟩
  refine wp_aload_n d2_17 rfl ?_
  refine wp_getR (q := 38) d2_18 rfl (hG.o (by decide) rfl) (by decide) (hG.r (by decide +kernel)) (by decide) ?_
  refine wp_aload_n d2_21 rfl ?_
  refine wz_getI (v := (ln : Int)) d2_22 rfl (hG.o (by decide) rfl) (by decide) (by rw [mset_p _ _ _ _ (by decide)]; exact ct1) ?_
  refine wp_virt (as := [.int (zI (ln : Int))]) (rest := []) d2_25 rfl rfl rfl (hG.o (by decide) rfl) rfl rfl (Nat.le_of_ble_eq_true rfl) ?_
  refine wc_deep (show 0 + 160 ≤ d + 169 by omega) ?_
  refine c_readWholeType hG hR hM0 (mset_s _ _ _ _) (ndf_mono (fun g hg i _ _ => mset_p _ _ _ _ (hR.ne6 hg)) (Int.le_refl _) (Nat.le_refl _) nt) ct2 (fun i hi => by rw [mset_p _ _ _ _ (by decide)]; exact ct3 i hi) (fun M1 R1 K1 L1 n1 s1 z1 cn1 i1 cx1 u1 u2 t1 u12 u10 => ?_)
  have cx01 := cx0.trans cx1 (Int.le_refl _)
  have cx2 : CX WRT M Rf K L n s z 1 (mset M1 1 8 0) R1 K1 L1 n1 s1 z1 := (cx01.weak (W' := WRT) (fun p i hw => Or.inl hw)).set (fun g hg => by have := cx1.r.2.1 g hg; omega) (Or.inr (Or.inl ⟨rfl, rfl⟩)) ⟨by omega, by omega⟩
  have sl2 : SLC (mset M1 1 8 0) T := by
    intro i hi
    have far := (KO_slot hi).far hR
    have e1 : ∀ j, ¬ (i = 0 ∧ i = 1) → mset M1 1 8 0 (30 + 2 * i) j = M (30 + 2 * i) j := fun j _ => by
      rw [mset_p _ _ _ _ (by omega)]
      exact cx01.mem _ (by omega) far.1 j (by unfold WRd; omega)
    have e2 : ∀ j, mset M1 1 8 0 (31 + 2 * i) j = M (31 + 2 * i) j := fun j => by
      rw [mset_p _ _ _ _ (by omega)]
      exact cx01.mem _ (by omega) far.2 j (by unfold WRd; omega)
    have := hT i hi
    cases et : T (i : Int) with
    | none => rw [et] at this; show mset M1 1 8 0 (30 + 2 * i) 1 = 0; rw [e1 1 (by omega)]; exact this
    | some t => rw [et] at this; exact KTY.same this (e1 1 (by omega)) e2
  have h18 : mset M1 1 8 0 1 8 = 0 := mset_s _ _ _ _
  have f1 := pT_fw (tx := tx) (ln := ln) 23 [] 0 (Nat.zero_le _)
  refine wp_istore_n d2_28 (Nat.le_of_ble_eq_true rfl) rfl ?_
  refine wp_aload_n d2_29 rfl ?_
  refine wz_iconst d2_30 ?_
  refine wz_putI (i := 8) d2_31 rfl (cx1.g.o (by decide) rfl) rfl (by decide) rfl ?_
  unfold rdT at hh
  cases hpt : pT tx ln 23 [] 0 with
  | mk q o =>
  rw [hpt] at hh t1 u12 u10 f1
  have q60 : q ≤ ln := f1.2.1
  -- a fault
  have flt : (o = none ∨ q < ln) → hh = hh → Q (some (.int (zI (q : Int)))) (zM (mset M1 1 8 0), R1, K1, L1, n1, s1) → pm_Wp none (d + 169) 2 34 [some (.ref 1), some (.int (zI (kk : Int))), some (.int (zI i1))] [] (zM (mset M1 1 8 0), R1, K1, L1, n1, s1) Q := by
    intro hfl _ hq
    refine wp_aload_n d2_34 rfl ?_
    refine wp_getR (q := 38) d2_35 rfl (cx2.g.o (by decide) rfl) (by decide) (cx2.g.r (by decide +kernel)) (by decide) ?_
    refine wz_getI (v := (q : Int)) d2_38 rfl (cx2.g.o (by decide) rfl) (by decide) ((mset_p _ _ _ _ (by decide)).trans (u10.trans (if_pos hfl))) ?_
    refine wz_iconst d2_41 ?_
    refine wz_icmp_eq (t := 53) d2_42 (by decide) ⟨by omega, by omega⟩ ⟨by omega, by omega⟩ (fun hb => absurd hb (by omega)) (fun _ => ?_)
    refine wp_aload_n d2_45 rfl ?_
    refine wp_getR (q := 38) d2_46 rfl (cx2.g.o (by decide) rfl) (by decide) (cx2.g.r (by decide +kernel)) (by decide) ?_
    refine wz_getI (v := (q : Int)) d2_49 rfl (cx2.g.o (by decide) rfl) (by decide) ((mset_p _ _ _ _ (by decide)).trans (u10.trans (if_pos hfl))) ?_
    exact wp_ret d2_52 rfl (hq)
  cases o with
  | none => exact flt (Or.inl rfl) rfl (hh _ R1 K1 L1 n1 s1 z1 cx2 h18 sl2)
  | some a =>
  by_cases hql : q < ln
  · refine flt (Or.inr hql) rfl ?_
    have hh : ∀ (M' : pm_M) (Rf' : Nat → Nat → Nat) (K' L' : Nat → Nat) (n' s' z' : Nat), CX WRT M Rf K L n s z 1 M' Rf' K' L' n' s' z' → M' 1 8 = 0 → SLC M' (sluO T kk (if q < ln then ((q : Int), none) else if gud a = true then (-1, some a.1) else (-2, none)).2) → Q (some (.int (zI (if q < ln then ((q : Int), (none : Option Ty)) else if gud a = true then (-1, some a.1) else (-2, none)).1))) (zM M', Rf', K', L', n', s') := hh
    rw [if_pos hql] at hh
    exact hh _ R1 K1 L1 n1 s1 z1 cx2 h18 sl2
  have hh : ∀ (M' : pm_M) (Rf' : Nat → Nat → Nat) (K' L' : Nat → Nat) (n' s' z' : Nat), CX WRT M Rf K L n s z 1 M' Rf' K' L' n' s' z' → M' 1 8 = 0 → SLC M' (sluO T kk (if q < ln then ((q : Int), none) else if gud a = true then (-1, some a.1) else (-2, none)).2) → Q (some (.int (zI (if q < ln then ((q : Int), (none : Option Ty)) else if gud a = true then (-1, some a.1) else (-2, none)).1))) (zM M', Rf', K', L', n', s') := hh
  rw [if_neg hql] at hh
  have u10 : M1 38 10 = -1 := u10.trans (if_neg (fun x => x.elim (fun y => by cases y) hql))
  obtain ⟨nd1, cl1⟩ := t1
  have pok := pT_ok 23 [] 0 q a hpt
  have cl1 : M1 38 11 = if a.2 = true then 1 else 0 := cl1
  have u12 : M1 38 12 = if 16 < (flat a.1).length then 1 else 0 := u12
  refine wp_aload_n d2_34 rfl ?_
  refine wp_getR (q := 38) d2_35 rfl (cx2.g.o (by decide) rfl) (by decide) (cx2.g.r (by decide +kernel)) (by decide) ?_
  refine wz_getI (v := (-1)) d2_38 rfl (cx2.g.o (by decide) rfl) (by decide) (by rw [mset_p _ _ _ _ (by decide)]; exact u10) ?_
  refine wz_iconst d2_41 ?_
  refine wz_icmp_eq (t := 53) d2_42 (by decide) ⟨by omega, by omega⟩ ⟨by omega, by omega⟩ (fun _ => ?_) (fun hb => absurd (rfl) hb)
  by_cases ha : a.2 = true
  rotate_left
  · skip
    have hg : ¬ gud a = true := fun x => by unfold gud at x; rw [Bool.and_eq_true] at x; exact ha x.1
    rw [if_neg hg] at hh
    refine wp_aload_n d2_53 rfl ?_
    refine wp_getR (q := 38) d2_54 rfl (cx2.g.o (by decide) rfl) (by decide) (cx2.g.r (by decide +kernel)) (by decide) ?_
    refine wz_getI (v := 0) d2_57 rfl (cx2.g.o (by decide) rfl) (by decide) ((mset_p _ _ _ _ (by decide)).trans (cl1.trans (if_neg ha))) ?_
    refine wz_if_eq (t := 73) d2_60 (by decide) ⟨by omega, by omega⟩ (fun _ => ?_) (fun hb => absurd (by decide) hb)
    refine wz_bipush d2_73 (by decide) ?_
    exact wp_ret d2_75 rfl (hh _ R1 K1 L1 n1 s1 z1 cx2 h18 sl2)
  refine wp_aload_n d2_53 rfl ?_
  refine wp_getR (q := 38) d2_54 rfl (cx2.g.o (by decide) rfl) (by decide) (cx2.g.r (by decide +kernel)) (by decide) ?_
  refine wz_getI (v := 1) d2_57 rfl (cx2.g.o (by decide) rfl) (by decide) ((mset_p _ _ _ _ (by decide)).trans (cl1.trans (if_pos ha))) ?_
  refine wz_if_eq (t := 73) d2_60 (by decide) ⟨by omega, by omega⟩ (fun hb => absurd hb (by decide)) (fun _ => ?_)
  by_cases hs : 16 < (flat a.1).length
  · skip
    have hg : ¬ gud a = true := fun x => by unfold gud at x; rw [Bool.and_eq_true, decide_eq_true_iff] at x; omega
    rw [if_neg hg] at hh
    refine wp_aload_n d2_63 rfl ?_
    refine wp_getR (q := 38) d2_64 rfl (cx2.g.o (by decide) rfl) (by decide) (cx2.g.r (by decide +kernel)) (by decide) ?_
    refine wz_getI (v := 1) d2_67 rfl (cx2.g.o (by decide) rfl) (by decide) ((mset_p _ _ _ _ (by decide)).trans (u12.trans (if_pos hs))) ?_
    refine wz_if_eq (t := 76) d2_70 (by decide) ⟨by omega, by omega⟩ (fun hb => absurd hb (by decide)) (fun _ => ?_)
    refine wz_bipush d2_73 (by decide) ?_
    exact wp_ret d2_75 rfl (hh _ R1 K1 L1 n1 s1 z1 cx2 h18 sl2)
  have hg : gud a = true := by unfold gud; rw [ha, decide_eq_true (by omega)]; rfl
  rw [if_pos hg] at hh
  have oa : ok 0 a.1 = true := pok.2.1 ha
  refine wp_aload_n d2_63 rfl ?_
  refine wp_getR (q := 38) d2_64 rfl (cx2.g.o (by decide) rfl) (by decide) (cx2.g.r (by decide +kernel)) (by decide) ?_
  refine wz_getI (v := 0) d2_67 rfl (cx2.g.o (by decide) rfl) (by decide) ((mset_p _ _ _ _ (by decide)).trans (u12.trans (if_neg hs))) ?_
  refine wz_if_eq (t := 76) d2_70 (by decide) ⟨by omega, by omega⟩ (fun _ => ?_) (fun hb => absurd (by decide) hb)
  refine wp_aload_n d2_76 rfl ?_
  refine wp_getR (q := 6) d2_77 rfl (cx2.g.o (by decide) rfl) (by decide) (cx2.g.r (by decide +kernel)) (by decide) ?_
  refine wp_iload_n d2_80 rfl ?_
  refine wp_aload_n d2_81 rfl ?_
  refine wp_getR (q := 3) d2_82 rfl (cx2.g.o (by decide) rfl) (by decide) (cx2.g.r (by decide +kernel)) (by decide) ?_
  refine wp_iload_n d2_85 rfl ?_
  refine wz_aald (z := 4) (q := 30 + 2 * kk) d2_86 (cx2.g.a (by decide) rfl rfl) (by omega) (by omega) (by decide) (by rw [Int.toNat_natCast]; exact cx2.g.slot hkk) (by omega) ?_
  refine wp_virt (as := [.ref (30 + 2 * kk), .int (zI i1)]) (rest := []) d2_87 rfl rfl rfl (cx2.g.o (by decide) rfl) (by simp [pm_vc]) rfl (Nat.le_of_ble_eq_true rfl) ?_
  refine wc_deep (show 0 + 24 + 3 ≤ d + 169 by omega) ?_
  refine c_keep (KO_slot hkk) cx2.g cx2.r u2 cx2.r32 (ndf_mono (fun g hg i _ _ => mset_p _ _ _ _ (by have := cx1.r.2.1 g hg; omega)) (Int.le_refl _) (Nat.le_refl _) nd1) oa (by decide) (by decide) (by omega) (fun M4 e1 e2 e3 e4 => ?_)
  have cx4 : CX WRT M Rf K L n s z 1 M4 R1 K1 L1 n1 s1 z1 := cx2.chg (fun p i hw => e1 p i (fun e => hw (by unfold WRT; omega)) (fun e => hw (by unfold WRT; omega))) (fun p i hw g hg e => by have := cx2.r.2.1 g hg; unfold WRT WRd at hw; omega) e4
  refine wz_iconst d2_90 ?_
  exact wp_ret d2_91 rfl (hh M4 R1 K1 L1 n1 s1 z1 cx4 (by rw [e1 1 8 (by omega) (by omega)]; exact h18) (sl2.upd hkk e1 ⟨e2, e3, by omega, oa⟩))
end PmC32
