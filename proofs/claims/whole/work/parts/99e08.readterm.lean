/-! THE CLASS: readTerm. -/
theorem CX.rs {W : Nat → Int → Prop} {M : pm_M} {Rf : Nat → Nat → Nat} {K L : Nat → Nat} {n s z : Nat} {cn : Int} {M' : pm_M} {Rf' : Nat → Nat → Nat} {K' L' : Nat → Nat} {n' s' z' p f x : Nat} (h : CX W M Rf K L n s z cn M' Rf' K' L' n' s' z') (hp : p ≠ 6) (hne : pm_RT.all (fun y => !(decide (y.1 = p) && decide (y.2.1 = f))) = true) : CX W M (rset Rf p f x) K L n s z cn M' (rset Rf' p f x) K' L' n' s' z' := by
  obtain ⟨h1, h2, h3, h4, h5, h6, h7, h8, h9, h10, h11, h12⟩ := h
  have e : ∀ g, rset Rf p f x 6 g = Rf 6 g := fun g => rset_o (fun q => hp q.1.symm)
  have e' : ∀ g, rset Rf' p f x 6 g = Rf' 6 g := fun g => rset_o (fun q => hp q.1.symm)
  refine ⟨h1.rs hne, h2.rs hp, h3, h4, h5, h6, h7, fun q hq g hg => ?_, fun g hg => ?_, fun q hq hg i hw => h10 q hq (fun g hg2 => by have := hg g hg2; rw [e] at this; exact this) i hw, fun g hg i i0 i1 => ?_, h12⟩
  · by_cases c : q = p ∧ g = f
    · obtain ⟨rfl, rfl⟩ := c
      rw [rset_s, rset_s]
    · rw [rset_o c, rset_o c]; exact h8 q hq g hg
  · rw [e, e']; exact h9 g hg
  · rw [e, e']; exact h11 g hg i i0 i1
theorem ndf_rs {M : pm_M} {Rf : Nat → Nat → Nat} {cn : Int} {N p f x : Nat} {t : Ty} {i : Int} (hp : p ≠ 6) (h : ndf M Rf cn N t i) : ndf M (rset Rf p f x) cn N t i := ndf_mono (fun g _ j _ _ => by rw [show rset Rf p f x 6 g = Rf 6 g from rset_o (fun q => hp q.1.symm)]) (Int.le_refl _) (Nat.le_refl _) h
/-- what readTerm may write besides the rows -/
def WTT (X : Nat) (p : Nat) (i : Int) : Prop := WRt X p i ∨ (p = 1 ∧ (i = 8 ∨ i = 11 ∨ i = 12 ∨ i = 13)) ∨ (p = 42 ∧ i = 2) ∨ p = 12 ∨ p = 4 ∨ p = 5
/-- the class's term: nodes of X stand for t -/
def TMc (M : pm_M) (X cnt : Nat) (t : Ty) : Prop := CNd M X 0 (cnt : Int) (fun _ _ => True) 24 t 0 ∧ PI M X cnt 60 ∧ cnt ≤ 60
/-- what was found of the term -/
def FTc (M : pm_M) : Sum Nat Ty → Prop
  | .inl q => M 1 12 = (q : Int)
  | .inr A => M 1 12 = -1 ∧ KTY M 4 5 A
/-- the references behind readTerm -/
def rfT (Rf : Nat → Nat → Nat) (X Y : Nat) : Nat → Nat → Nat := rset (rset (rset (rset Rf 38 5 X) 1 10 Y) 1 9 X) 42 1 X
section PmE11
variable {d : Nat} {Q : Option Value → pm_S → Prop} {M : pm_M} {Rf : Nat → Nat → Nat} {K L : Nat → Nat} {n s : Nat} {tx : Nat → Int} {ln : Nat}
set_option maxHeartbeats 1000000 in
theorem c_readTerm {X Y z : Nat} (hXY : (X = 16 ∧ Y = 23) ∨ (X = 23 ∧ Y = 16)) (hG : pm_G Rf K L n) (hR : RmI Rf K L n z) (hM : ∀ p i, R32 (M p i)) (nt : ndf M Rf 1 1 tTop 0) (hct : CT M tx ln) (r9 : Rf 1 9 = Y) (r10 : Rf 1 10 = X) (hL : ∀ t, rdM tx ln = (-1, some t) → TL 24 t [] [] ∧ TN 24 t [] [] ≤ 14800) (h0 : (rdM tx ln).2 = none → ∀ (M' : pm_M) (Rf' : Nat → Nat → Nat) (K' L' : Nat → Nat) (n' s' z' : Nat), CX (WTT X) M (rset Rf 38 5 X) K L n s z 1 M' Rf' K' L' n' s' z' → M' 1 8 = 0 → (∀ i, i ≠ 8 → M' 1 i = M 1 i) → (∀ q, q = 4 ∨ q = 5 → ∀ i, M' q i = M q i) → Q (some (.int (zI (rdM tx ln).1))) (zM M', Rf', K', L', n', s')) (h1 : ∀ t, rdM tx ln = (-1, some t) → ∀ (M' : pm_M) (Rf' : Nat → Nat → Nat) (K' L' : Nat → Nat) (n' s' z' cnt : Nat), CX (WTT X) M (rfT Rf X Y) K L n s z 1 M' Rf' K' L' n' s' z' → M' 1 8 = 0 → M' 1 11 = 1 → M' 1 13 = 0 → TMc M' X cnt t → FTc M' (tyF 24 t [] []) → Q (some (.int (zI (-1)))) (zM M', Rf', K', L', n', s')) : pm_Wc (d + 500) 3 [.ref 1] (zM M, Rf, K, L, n, s) Q := by
  have hn := hG.1
  have hX : X = 16 ∨ X = 23 := by omega
  have hY : Y = 16 ∨ Y = 23 := by omega
  obtain ⟨ct1, ct2, ct3⟩ := hct
  refine wc_in (ls0 := [some (.ref 1), none]) (by decide) (Nat.le_of_ble_eq_true rfl) rfl rfl ?_
  refine wp_aload_n d3_0 rfl ?_
  refine wp_getR (q := 6) d3_1 rfl (hG.o (by decide) rfl) (by decide) (hG.r (by decide +kernel)) (by decide) ?_
  refine wp_virt (as := []) (rest := []) d3_4 rfl rfl rfl (hG.o (by decide) rfl) rfl rfl (Nat.le_of_ble_eq_true rfl) ?_
  refine wc_deep (show 0 + 1 ≤ d + 499 by omega) ?_
  refine c_clear hG ?_
  have hM0 : ∀ p i, R32 (mset M 6 6 1 p i) := mset_R32 hM ⟨by omega, by omega⟩
  have cx0 : CX (WTT X) M Rf K L n s z 1 (mset M 6 6 1) Rf K L n s z := (CX.refl hG hR hM).set (fun g hg => (hR.ne6 hg).symm) (by unfold WTT WRt; omega) ⟨by omega, by omega⟩
  refine wp_aload_n d3_7 rfl ?_
  refine wp_getR (q := 38) d3_8 rfl (hG.o (by decide) rfl) (by decide) (hG.r (by decide +kernel)) (by decide) ?_
  refine wp_aload_n d3_11 rfl ?_
  refine wz_getI (v := (ln : Int)) d3_12 rfl (hG.o (by decide) rfl) (by decide) (by rw [mset_p _ _ _ _ (by decide)]; exact ct1) ?_
  refine wp_aload_n d3_15 rfl ?_
  refine wp_getR (q := X) d3_16 rfl (hG.o (by decide) rfl) (by decide) r10 (by omega) ?_
  refine wp_virt (as := [.ref X, .int (zI (ln : Int))]) (rest := []) d3_19 rfl rfl rfl (hG.o (by decide) rfl) (by simp [pm_vc]) rfl (Nat.le_of_ble_eq_true rfl) ?_
  refine wc_deep (show d + 356 ≤ d + 499 by omega) ?_
  refine c_readWholeTerm hX hG hR hM0 (mset_s _ _ _ _) (ndf_mono (fun g hg i _ _ => mset_p _ _ _ _ (hR.ne6 hg)) (Int.le_refl _) (Nat.le_refl _) nt) ct2 (fun i hi => by rw [mset_p _ _ _ _ (by decide)]; exact ct3 i hi) (fun M1 R1 K1 L1 n1 s1 z1 cn1 c1 i1 cx1 u1 u2 u3 u4 u5 u6 t1 u10 => ?_)
  have cx01 : CX (WTT X) M (rset Rf 38 5 X) K L n s z 1 M1 R1 K1 L1 n1 s1 z1 := (cx0.rs (by decide) (by decide +kernel)).trans (cx1.weak (W' := WTT X) (fun p i w => Or.inl w)) (Int.le_refl _)
  have k1 : ∀ i, M1 1 i = M 1 i := fun i => by
    rw [cx1.mem 1 (by omega) (fun g hg => by have := (hR.rs (p := 38) (f := 5) (x := X) (by decide)).2.1 g hg; omega) i (by unfold WRt; omega)]
    exact mset_p _ _ _ _ (by decide)
  have k4 : ∀ q, q = 4 ∨ q = 5 → ∀ i, M1 q i = M q i := fun q hq i => by
    rw [cx1.mem q (by omega) (fun g hg => by have := (hR.rs (p := 38) (f := 5) (x := X) (by decide)).2.1 g hg; omega) i (by unfold WRt; omega)]
    exact mset_p _ _ _ _ (by omega)
  have rr : ∀ p g, p ≤ 99 → ¬ (p = 6 ∧ g < 5) → R1 p g = rset Rf 38 5 X p g := fun p g hp hg => cx1.2.2.2.2.2.2.2.1 p (by omega) g hg
  have cx2 : CX (WTT X) M (rset Rf 38 5 X) K L n s z 1 (mset M1 1 8 0) R1 K1 L1 n1 s1 z1 := cx01.set (fun g hg => by have := cx1.r.2.1 g hg; omega) (by unfold WTT; omega) ⟨by omega, by omega⟩
  have m8 : mset M1 1 8 0 1 8 = 0 := mset_s _ _ _ _
  have k1' : ∀ i, i ≠ 8 → mset M1 1 8 0 1 i = M 1 i := fun i hi => by rw [mset_i _ _ _ _ hi]; exact k1 i
  have k4' : ∀ q, q = 4 ∨ q = 5 → ∀ i, mset M1 1 8 0 q i = M q i := fun q hq i => by rw [mset_p _ _ _ _ (by omega)]; exact k4 q hq i
  have f1 := pM_fw (tx := tx) (ln := ln) 23 [] 0 (Nat.zero_le _)
  have e38 : R1 1 5 = 38 := cx1.g.r (by decide +kernel)
  refine wp_aload_n d3_22 rfl ?_
  refine wz_iconst d3_23 ?_
  refine wz_putI (i := 8) d3_24 rfl (cx1.g.o (by decide) rfl) rfl (by decide) rfl ?_
  cases hpt : pM tx ln 23 [] 0 with
  | mk q o =>
  have erd : rdM tx ln = (match (q, o) with | (q, none) => ((q : Int), none) | (q, some a) => if q < ln then ((q : Int), none) else if a.2 = true then (-1, some a.1) else (-2, none)) := by
    unfold rdM
    rw [hpt]
    cases o <;> rfl
  rw [hpt] at t1 u10 f1
  have q60 : q ≤ ln := f1.2.1
  have flt : (o = none ∨ q < ln) → rdM tx ln = ((q : Int), none) → pm_Wp none (d + 499) 3 27 [some (.ref 1), none] [] (zM (mset M1 1 8 0), R1, K1, L1, n1, s1) Q := by
    intro hfl e
    rw [e] at h0
    refine wp_aload_n d3_27 rfl ?_
    refine wp_getR (q := 38) d3_28 rfl (cx2.g.o (by decide) rfl) (by decide) (cx2.g.r (by decide +kernel)) (by decide) ?_
    refine wz_getI (v := (q : Int)) d3_31 rfl (cx2.g.o (by decide) rfl) (by decide) ((mset_p _ _ _ _ (by decide)).trans (u10.trans (if_pos hfl))) ?_
    refine wz_iconst d3_34 ?_
    refine wz_icmp_eq (t := 46) d3_35 (by decide) ⟨by omega, by omega⟩ ⟨by omega, by omega⟩ (fun hb => absurd hb (by omega)) (fun _ => ?_)
    refine wp_aload_n d3_38 rfl ?_
    refine wp_getR (q := 38) d3_39 rfl (cx2.g.o (by decide) rfl) (by decide) (cx2.g.r (by decide +kernel)) (by decide) ?_
    refine wz_getI (v := (q : Int)) d3_42 rfl (cx2.g.o (by decide) rfl) (by decide) ((mset_p _ _ _ _ (by decide)).trans (u10.trans (if_pos hfl))) ?_
    exact wp_ret d3_45 rfl (h0 rfl _ R1 K1 L1 n1 s1 z1 cx2 m8 k1' k4')
  cases o with
  | none => exact flt (Or.inl rfl) erd
  | some a =>
  by_cases hql : q < ln
  · exact flt (Or.inr hql) (by rw [erd]; exact if_pos hql)
  have erd : rdM tx ln = if a.2 = true then (-1, some a.1) else (-2, none) := by rw [erd]; exact if_neg hql
  have u10 : M1 38 10 = -1 := u10.trans (if_neg (fun x => x.elim (fun y => by cases y) hql))
  obtain ⟨⟨v0, v1⟩, nd1, gf1⟩ := t1
  have gf : GF M1 ↔ a.2 = true := gf1.trans ⟨fun x => x.2, fun x => ⟨trivial, x⟩⟩
  unfold GF at gf
  refine wp_aload_n d3_27 rfl ?_
  refine wp_getR (q := 38) d3_28 rfl (cx2.g.o (by decide) rfl) (by decide) (cx2.g.r (by decide +kernel)) (by decide) ?_
  refine wz_getI (v := (-1)) d3_31 rfl (cx2.g.o (by decide) rfl) (by decide) (by rw [mset_p _ _ _ _ (by decide)]; exact u10) ?_
  refine wz_iconst d3_34 ?_
  refine wz_icmp_eq (t := 46) d3_35 (by decide) ⟨by omega, by omega⟩ ⟨by omega, by omega⟩ (fun _ => ?_) (fun hb => absurd (rfl) hb)
  refine wp_aload_n d3_46 rfl ?_
  refine wp_getR (q := 38) d3_47 rfl (cx2.g.o (by decide) rfl) (by decide) (cx2.g.r (by decide +kernel)) (by decide) ?_
  refine wz_getI (v := M1 38 11) d3_50 rfl (cx2.g.o (by decide) rfl) (by decide) (mset_p _ _ _ _ (by decide)) ?_
  refine wz_if_eq (t := 66) d3_53 (by decide) (cx1.r32 38 11) (fun b11 => ?_) (fun b11 => ?_)
  · skip
    rw [if_neg (fun x => (gf.mpr x).1 b11)] at erd
    rw [erd] at h0
    refine wz_bipush d3_66 (by decide) ?_
    exact wp_ret d3_68 rfl (h0 rfl _ R1 K1 L1 n1 s1 z1 cx2 m8 k1' k4')
  refine wp_aload_n d3_56 rfl ?_
  refine wp_getR (q := 38) d3_57 rfl (cx2.g.o (by decide) rfl) (by decide) (cx2.g.r (by decide +kernel)) (by decide) ?_
  refine wz_getI (v := M1 38 12) d3_60 rfl (cx2.g.o (by decide) rfl) (by decide) (mset_p _ _ _ _ (by decide)) ?_
  refine wz_if_eq (t := 69) d3_63 (by decide) (cx1.r32 38 12) (fun b12 => ?_) (fun b12 => ?_)
  rotate_left
  · skip
    rw [if_neg (fun x => b12 (gf.mpr x).2)] at erd
    rw [erd] at h0
    refine wz_bipush d3_66 (by decide) ?_
    exact wp_ret d3_68 rfl (h0 rfl _ R1 K1 L1 n1 s1 z1 cx2 m8 k1' k4')
  have ha : a.2 = true := gf.mp ⟨b11, b12⟩
  rw [if_pos ha] at erd
  have hh := h1 a.1 erd
  obtain ⟨tl, tn⟩ := hL a.1 erd
  have tw : TWf 24 0 [] a.1 := pM_tw 23 [] 0 q a hpt ha (fun _ h => by cases h)
  have nd1 := nd1 ha
  subst v0
  refine wp_aload_n d3_69 rfl ?_
  refine wp_virt (as := []) (rest := []) d3_70 rfl rfl rfl (cx2.g.o (by decide) rfl) rfl rfl (Nat.le_of_ble_eq_true rfl) ?_
  have e9 : R1 1 9 = Y := by rw [rr 1 9 (by decide) (by omega), rset_o (by omega)]; exact r9
  have e10 : R1 1 10 = X := by rw [rr 1 10 (by decide) (by omega), rset_o (by omega)]; exact r10
  refine wc_in (ls0 := [some (.ref 1), none]) (by decide) (Nat.le_of_ble_eq_true rfl) rfl rfl ?_
  refine wp_aload_n d22_0 rfl ?_
  refine wp_getR (q := X) d22_1 rfl (cx2.g.o (by decide) rfl) (by decide) e10 (by omega) ?_
  refine wp_astore_n d22_4 (Nat.le_of_ble_eq_true rfl) rfl ?_
  refine wp_aload_n d22_5 rfl ?_
  refine wp_aload_n d22_6 rfl ?_
  refine wp_getR (q := Y) d22_7 rfl (cx2.g.o (by decide) rfl) (by decide) e9 (by omega) ?_
  refine wp_putR (c := 0) (f := 10) (p := 1) (x := Y) d22_10 rfl (cx2.g.o (by decide) rfl) (by omega) rfl (by decide) ?_
  have g3 : pm_G (rset R1 1 10 Y) K1 L1 n1 := cx2.g.rs (by decide +kernel)
  refine wp_aload_n d22_13 rfl ?_
  refine wp_aload_n d22_14 rfl ?_
  refine wp_putR (c := 0) (f := 9) (p := 1) (x := X) d22_15 rfl (g3.o (by decide) rfl) (by omega) rfl (by decide) ?_
  have g4 : pm_G (rset (rset R1 1 10 Y) 1 9 X) K1 L1 n1 := g3.rs (by decide +kernel)
  refine wp_aload_n d22_18 rfl ?_
  refine wz_iconst d22_19 ?_
  refine wz_putI (i := 11) d22_20 rfl (g4.o (by decide) rfl) (by decide) (by decide) rfl ?_
  refine wp_aload_n d22_23 rfl ?_
  refine wz_iconst d22_24 ?_
  refine wz_putI (i := 13) d22_25 rfl (g4.o (by decide) rfl) (by decide) (by decide) rfl ?_
  refine wp_aload_n d22_28 rfl ?_
  refine wp_getR (q := 42) d22_29 rfl (g4.o (by decide) rfl) (by decide) (g4.r (by decide +kernel)) (by decide) ?_
  refine wp_aload_n d22_32 rfl ?_
  refine wp_getR (q := X) d22_33 rfl (g4.o (by decide) rfl) (by decide) (rset_s _ _ _ _) (by omega) ?_
  refine wp_virt (as := [.ref X]) (rest := []) d22_36 rfl rfl rfl (g4.o (by decide) rfl) (by simp [pm_vc]) rfl (Nat.le_of_ble_eq_true rfl) ?_
  refine wc_deep (show 0 + 1 ≤ d + 498 by omega) ?_
  refine wc_in (ls0 := [some (.ref 42), some (.ref X)]) (by decide) (Nat.le_of_ble_eq_true rfl) rfl rfl ?_
  refine wp_aload_n d101_0 rfl ?_
  refine wp_aload_n d101_1 rfl ?_
  refine wp_putR (c := 6) (f := 1) (p := 42) (x := X) d101_2 rfl (g4.o (by decide) rfl) (by omega) rfl (by decide) ?_
  have g5 : pm_G (rset (rset (rset R1 1 10 Y) 1 9 X) 42 1 X) K1 L1 n1 := g4.rs (by decide +kernel)
  refine wp_aload_n d101_5 rfl ?_
  refine wz_iconst d101_6 ?_
  refine wz_putI (i := 2) d101_7 rfl (g5.o (by decide) rfl) rfl (by decide) rfl ?_
  refine wp_ret d101_10 rfl ?_
  refine wp_ret d22_39 rfl ?_
  have cxb : CX (WTT X) M (rfT Rf X Y) K L n s z 1 (mset (mset (mset (mset M1 1 8 0) 1 11 1) 1 13 0) 42 2 (-1)) (rset (rset (rset R1 1 10 Y) 1 9 X) 42 1 X) K1 L1 n1 s1 z1 := by
    have far : ∀ p : Nat, p ≤ 99 → (p < 7 ∨ 11 < p) → ∀ g, g < 5 → p ≠ R1 6 g := fun p h1 h2 g hg => by have := cx1.r.2.1 g hg; omega
    exact (((((cx2.set (far 1 (by decide) (by decide)) (by unfold WTT; omega) ⟨by omega, by omega⟩).set (far 1 (by decide) (by decide)) (by unfold WTT; omega) ⟨by omega, by omega⟩).set (far 42 (by decide) (by decide)) (by unfold WTT; omega) ⟨by omega, by omega⟩).rs (by decide) (by decide +kernel)).rs (by decide) (by decide +kernel)).rs (by decide) (by decide +kernel)
  have fb : ∀ (q : Nat) (i : Int), q ≠ 1 → q ≠ 42 → (mset (mset (mset (mset M1 1 8 0) 1 11 1) 1 13 0) 42 2 (-1)) q i = M1 q i := fun q i q1 q2 => by
    rw [mset_p _ _ _ _ q2, mset_p _ _ _ _ q1, mset_p _ _ _ _ q1, mset_p _ _ _ _ q1]
  have nn : ∀ g, g < 5 → ∀ i : Int, 0 ≤ i → i < cn1 → (mset (mset (mset (mset M1 1 8 0) 1 11 1) 1 13 0) 42 2 (-1)) ((rset (rset (rset R1 1 10 Y) 1 9 X) 42 1 X) 6 g) i = M1 (R1 6 g) i := fun g hg i _ _ => by
    have e : (rset (rset (rset R1 1 10 Y) 1 9 X) 42 1 X) 6 g = R1 6 g := by rw [rset_o (by omega), rset_o (by omega), rset_o (by omega)]
    rw [e]
    exact fb _ _ (by have := cx1.r.2.1 g hg; omega) (by have := cx1.r.2.1 g hg; omega)
  have cnb : CNt (mset (mset (mset (mset M1 1 8 0) 1 11 1) 1 13 0) 42 2 (-1)) (rset (rset (rset R1 1 10 Y) 1 9 X) 42 1 X) cn1 X c1 24 a.1 0 := CNd.mono (fun q q1 q2 i _ _ => fb q i (by omega) (by omega)) (fun i _ _ => fb _ i (by omega) (by omega)) (Int.le_refl _) (Int.le_refl _) (fun A i hh => ndf_mono nn (Int.le_refl _) (Nat.le_refl _) hh) (Nat.le_refl _) nd1
  have ntb : ndf (mset (mset (mset (mset M1 1 8 0) 1 11 1) 1 13 0) 42 2 (-1)) (rset (rset (rset R1 1 10 Y) 1 9 X) 42 1 X) cn1 1 tTop 0 := by
    have q0 : ndf M (rfT Rf X Y) 1 1 tTop 0 := ndf_rs (by decide) (ndf_rs (by decide) (ndf_rs (by decide) (ndf_rs (by decide) nt)))
    exact ndf_mono cxb.nodes u2 (Nat.le_refl _) q0
  have hSb : CFS X c1 [] [] (mset (mset (mset (mset M1 1 8 0) 1 11 1) 1 13 0) 42 2 (-1)) (rset (rset (rset R1 1 10 Y) 1 9 X) 42 1 X) K1 L1 n1 z1 cn1 := ⟨cxb.g, cxb.r, cxb.r32, (fb 6 6 (by decide) (by decide)).trans u1, u2, u4, ntb, rset_s _ _ _ _, hX, mset_s _ _ _ _, u6.same (Nat.le_refl _) (fun i _ _ => fb _ i (by omega) (by omega)), u5, fun k hk => absurd hk (Nat.not_lt_zero _), ⟨trivial, fun k hk => absurd hk (Nat.not_lt_zero _), fun a ha => (by cases ha)⟩, fun a ha => (by cases ha)⟩
  have v11 : (mset (mset (mset (mset M1 1 8 0) 1 11 1) 1 13 0) 42 2 (-1)) 1 11 = 1 := by rw [mset_p _ _ _ _ (by decide), mset_i _ _ _ _ (by decide), mset_s]
  have v13 : (mset (mset (mset (mset M1 1 8 0) 1 11 1) 1 13 0) 42 2 (-1)) 1 13 = 0 := by rw [mset_p _ _ _ _ (by decide), mset_s]
  have v8 : (mset (mset (mset (mset M1 1 8 0) 1 11 1) 1 13 0) 42 2 (-1)) 1 8 = 0 := by rw [mset_p _ _ _ _ (by decide), mset_i _ _ _ _ (by decide), mset_i _ _ _ _ (by decide), mset_s]
  refine wp_aload_n d3_73 rfl ?_
  refine wp_getR (q := 42) d3_74 rfl (g5.o (by decide) rfl) (by decide) (g5.r (by decide +kernel)) (by decide) ?_
  refine wz_iconst d3_77 ?_
  refine wz_iconst d3_78 ?_
  refine wz_iconst d3_79 ?_
  refine wp_virt (as := [.int (zI 1), .int (zI 0), .int (zI 0)]) (rest := []) d3_80 rfl rfl rfl (g5.o (by decide) rfl) rfl rfl (Nat.le_of_ble_eq_true rfl) ?_
  refine wc_deep (show d + 4 * 24 + 400 ≤ d + 499 by omega) ?_
  refine c_findAll d X c1 24 a.1 0 [] [] 1 (mset (mset (mset (mset M1 1 8 0) 1 11 1) 1 13 0) 42 2 (-1)) (rset (rset (rset R1 1 10 Y) 1 9 X) 42 1 X) K1 L1 n1 s1 z1 cn1 _ hSb cnb tw tl (by decide) (by decide) (by omega) (fun M5 R5 K5 L5 n5 s5 z5 cn5 r5 xx u15 u25 u35 u45 fr => ?_)
  have hz5 := xx.r.2.2.2.2
  have cx5 := cxb.trans (xx.weak (W' := WTT X) (fun p i w => by unfold WFd at w; unfold WTT WRt; omega)) u2
  have far5 : ∀ p : Nat, p ≤ 99 → (p < 7 ∨ 11 < p) → ∀ g, g < 5 → p ≠ R5 6 g := fun p h1 h2 g hg => by have := xx.r.2.1 g hg; omega
  have tm5 := hSb.tm xx (fun _ _ w => w)
  have k15 : ∀ i, M5 1 i = (mset (mset (mset (mset M1 1 8 0) 1 11 1) 1 13 0) 42 2 (-1)) 1 i := fun i => xx.mem 1 (by have := cxb.g.1; omega) (fun g hg => by have := cxb.r.2.1 g hg; omega) i (by unfold WFd; omega)
  have tmc : ∀ M6 : pm_M, (∀ q, X + 1 ≤ q → q ≤ X + 6 → ∀ i, M6 q i = M5 q i) → TMc M6 X c1 a.1 := fun M6 h6 => ⟨CNd.mono (fun q q1 q2 i _ _ => (h6 q q1 q2 i).trans (tm5 q q1 q2 i)) (fun i _ _ => (h6 _ (by omega) (by omega) i).trans (tm5 _ (by omega) (by omega) i)) (Int.le_refl _) (Int.le_refl _) (fun _ _ _ => trivial) (Nat.le_refl _) cnb, hSb.pi.same (Nat.le_refl _) (fun i _ _ => (h6 _ (by omega) (by omega) i).trans (tm5 _ (by omega) (by omega) i)), u5⟩
  have rbp := xx.r32 42 2
  refine wp_istore_n d3_83 (Nat.le_of_ble_eq_true rfl) rfl ?_
  refine wp_aload_n d3_84 rfl ?_
  refine wp_aload_n d3_85 rfl ?_
  refine wp_getR (q := 42) d3_86 rfl (xx.g.o (by decide) rfl) (by decide) (xx.g.r (by decide +kernel)) (by decide) ?_
  refine wz_getI (v := M5 42 2) d3_89 rfl (xx.g.o (by decide) rfl) (by decide) (rfl) ?_
  refine wz_putI (i := 12) d3_92 rfl (xx.g.o (by decide) rfl) rfl (by decide) rfl ?_
  have cx6 : CX (WTT X) M (rfT Rf X Y) K L n s z 1 (mset M5 1 12 (M5 42 2)) R5 K5 L5 n5 s5 z5 := cx5.set (far5 1 (by decide) (by decide)) (by unfold WTT; omega) rbp
  have w8 : mset M5 1 12 (M5 42 2) 1 8 = 0 := by rw [mset_i _ _ _ _ (by decide), k15]; exact v8
  have w11 : mset M5 1 12 (M5 42 2) 1 11 = 1 := by rw [mset_i _ _ _ _ (by decide), k15]; exact v11
  have w13 : mset M5 1 12 (M5 42 2) 1 13 = 0 := by rw [mset_i _ _ _ _ (by decide), k15]; exact v13
  cases hty : tyF 24 a.1 [] [] with
  | inl q2 =>
    rw [hty] at fr hh
    obtain ⟨e1, e2⟩ := fr
    subst e1
    refine wp_iload_n d3_95 rfl ?_
    refine wz_iconst d3_96 ?_
    refine wz_icmp_eq (t := 112) d3_97 (by decide) ⟨by omega, by omega⟩ ⟨by omega, by omega⟩ (fun _ => ?_) (fun hb => absurd (rfl) hb)
    refine wz_iconst d3_112 ?_
    exact wp_ret d3_113 rfl (hh _ R5 K5 L5 n5 s5 z5 c1 cx6 w8 w11 w13 (tmc _ (fun q q1 q2 i => mset_p _ _ _ _ (by omega))) (by show _ = _; rw [mset_s]; exact e2))
  | inr A =>
  rw [hty] at fr hh
  have rr5 := ndf_rng fr.1
  have oA := tyF_ok 24 a.1 [] [] A tw hSb.te hty
  refine wp_iload_n d3_95 rfl ?_
  refine wz_iconst d3_96 ?_
  refine wz_icmp_eq (t := 112) d3_97 (by decide) ⟨by omega, by omega⟩ ⟨by omega, by omega⟩ (fun hb => absurd hb (by omega)) (fun _ => ?_)
  refine wp_aload_n d3_100 rfl ?_
  refine wp_getR (q := 6) d3_101 rfl (cx6.g.o (by decide) rfl) (by decide) (cx6.g.r (by decide +kernel)) (by decide) ?_
  refine wp_iload_n d3_104 rfl ?_
  refine wp_aload_n d3_105 rfl ?_
  refine wp_getR (q := 4) d3_106 rfl (cx6.g.o (by decide) rfl) (by decide) (cx6.g.r (by decide +kernel)) (by decide) ?_
  refine wp_virt (as := [.ref 4, .int (zI r5)]) (rest := []) d3_109 rfl rfl rfl (cx6.g.o (by decide) rfl) rfl rfl (Nat.le_of_ble_eq_true rfl) ?_
  refine wc_deep (show 0 + 16 + 3 ≤ d + 499 by omega) ?_
  refine c_keep KO_4 cx6.g cx6.r u45 cx6.r32 (ndf_mono (fun g hg i _ _ => mset_p _ _ _ _ (fun e => far5 1 (by decide) (by decide) g hg e.symm)) (Int.le_refl _) (Nat.le_refl _) fr.1) oA.1 (by decide) (by decide) oA.2 (fun M7 e1 e2 e3 e4 => ?_)
  have cx7 : CX (WTT X) M (rfT Rf X Y) K L n s z 1 M7 R5 K5 L5 n5 s5 z5 := cx6.chg (fun p i hw => e1 p i (fun e => hw (by unfold WTT; omega)) (fun e => hw (by unfold WTT; omega))) (fun p i hw g hg e => by have := cx6.r.2.1 g hg; unfold WTT WRt at hw; omega) e4
  have g1 : ∀ i, M7 1 i = mset M5 1 12 (M5 42 2) 1 i := fun i => e1 1 i (by omega) (by omega)
  refine wz_iconst d3_112 ?_
  exact wp_ret d3_113 rfl (hh M7 R5 K5 L5 n5 s5 z5 c1 cx7 ((g1 8).trans w8) ((g1 11).trans w11) ((g1 13).trans w13) (tmc _ (fun q q1 q2 i => (e1 q i (by omega) (by omega)).trans (mset_p _ _ _ _ (by omega)))) ⟨by rw [g1 12, mset_s]; exact fr.2, e2, e3, oA.2, oA.1⟩)
end PmE11
