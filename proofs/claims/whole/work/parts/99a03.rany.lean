/-! THE CLASS: reading any type; readType. -/
section PmC31
variable {tx : Nat → Int} {ln d : Nat}
theorem pT_T {r : Nat} {e : List Int} {p : Nat} (c1 : chr tx ln p = 84) : pT tx ln r e p = (p + 1, some (tTop, true)) := by
  cases r <;> exact if_pos c1
theorem pT_v {r : Nat} {e : List Int} {p : Nat} (c1 : chr tx ln p ≠ 84) (c2 : 80 ≤ chr tx ln p ∧ chr tx ln p ≤ 83) : pT tx ln r e p = (p + 1, some (tVar ((lvl e (chr tx ln p)).getD 0), (lvl e (chr tx ln p)).isSome)) := by
  cases r <;> exact (if_neg c1).trans (if_pos c2)
theorem pT_r {r : Nat} {e : List Int} {p : Nat} (c1 : chr tx ln p ≠ 84) (c2 : ¬ (80 ≤ chr tx ln p ∧ chr tx ln p ≤ 83)) (c3 : chr tx ln p = 91) : pT tx ln r e p = rcR tx ln e (p + 1) r := by
  cases r <;> exact (if_neg c1).trans ((if_neg c2).trans (if_pos c3))
theorem pT_z {e : List Int} {p : Nat} (c1 : chr tx ln p ≠ 84) (c2 : ¬ (80 ≤ chr tx ln p ∧ chr tx ln p ≤ 83)) (c3 : chr tx ln p ≠ 91) : pT tx ln 0 e p = (p, none) := (if_neg c1).trans ((if_neg c2).trans (if_neg c3))
theorem pT_f {r : Nat} {e : List Int} {p : Nat} (c1 : chr tx ln p ≠ 84) (c2 : ¬ (80 ≤ chr tx ln p ∧ chr tx ln p ≤ 83)) (c3 : chr tx ln p ≠ 91) (c4 : chr tx ln p = 40) : pT tx ln (r + 1) e p = thn (pT tx ln r e (p + 1)) (fun a q => if chr tx ln q = 62 then thn (pT tx ln r e (q + 1)) (fun b q' => if chr tx ln q' = 41 then (q' + 1, some (tFun a.1 b.1, a.2 && b.2)) else (q', none)) else (q, none)) := (if_neg c1).trans ((if_neg c2).trans ((if_neg c3).trans (if_pos c4)))
theorem pT_a {r : Nat} {e : List Int} {p : Nat} (c1 : chr tx ln p ≠ 84) (c2 : ¬ (80 ≤ chr tx ln p ∧ chr tx ln p ≤ 83)) (c3 : chr tx ln p ≠ 91) (c4 : chr tx ln p ≠ 40) (c5 : chr tx ln p = 60) : pT tx ln (r + 1) e p = if 80 ≤ chr tx ln (p + 1) ∧ chr tx ln (p + 1) ≤ 83 then (if chr tx ln (p + 1 + 1) = 58 then thn (pT tx ln r e (p + 1 + 2)) (fun a q => if chr tx ln q = 62 then thn (pT tx ln r (chr tx ln (p + 1) :: e) (q + 1)) (fun b q' => (q', some (tAll a.1 b.1, a.2 && b.2))) else (q, none)) else (p + 1 + 1, none)) else (p + 1, none) := (if_neg c1).trans ((if_neg c2).trans ((if_neg c3).trans ((if_neg c4).trans (if_pos c5))))
theorem pT_n {r : Nat} {e : List Int} {p : Nat} (c1 : chr tx ln p ≠ 84) (c2 : ¬ (80 ≤ chr tx ln p ∧ chr tx ln p ≤ 83)) (c3 : chr tx ln p ≠ 91) (c4 : chr tx ln p ≠ 40) (c5 : chr tx ln p ≠ 60) : pT tx ln (r + 1) e p = (p, none) := (if_neg c1).trans ((if_neg c2).trans ((if_neg c3).trans ((if_neg c4).trans (if_neg c5))))
theorem RdQ.adv {e : List Int} {N p : Nat} {res : Nat × Option (Ty × Bool)} {M : pm_M} {Rf : Nat → Nat → Nat} {K L : Nat → Nat} {n s z : Nat} {cn : Int} {Q : Option Value → pm_S → Prop} (h : RdQ e N p res M Rf K L n s z cn Q) (hS : RdS tx ln e p M Rf K L n z cn) (hp : p < ln) : RdQ e N (p + 1) res (mset M 38 7 ((p + 1 : Nat) : Int)) Rf K L n s z cn Q := by
  have l60 := hS.2.2.2.2.2.2.2.2.1.2.1
  intro M' Rf' K' L' n' s' z' cn' i cx a1 a2 a3 a4 a5 a6 a7
  rw [mset_i _ _ _ _ (by decide)] at a7
  exact h M' Rf' K' L' n' s' z' cn' i ((hS.wset (s := s) _ ⟨by omega, by omega⟩).trans cx (Int.le_refl _)) a1 a2 (by omega) a4 a5 a6 a7
set_option maxRecDepth 20000 in
set_option maxHeartbeats 1000000 in
theorem c_anyType {r : Nat} (IH : ∀ r', r = r' + 1 → TyC tx ln d r') : TyC tx ln d r := by
  intro dp e p M Rf K L n s z cn Q hdp hS he h
  have hpl := hS.2.2.2.2.2.2.2.2.2.2.1
  have hb8 := hS.2.2.2.2.2.2.1
  have hone := hS.2.2.2.2.1
  have l60 := hS.2.2.2.2.2.2.2.2.1.2.1
  have hcz := hS.2.2.2.2.2.1
  have h7 := hS.2.2.2.2.2.2.2.2.2.1
  have h8 := hS.2.2.2.2.2.2.2.2.2.2.2.1
  have rt := hS.2.2.2.2.2.2.2.2.1
  refine wc_in (ls0 := [some (.ref 38), some (.int (zI (dp : Int))), none]) (by decide) (Nat.le_of_ble_eq_true rfl) rfl rfl ?_
  refine wp_aload_n d87_0 rfl ?_
  refine wz_bipush d87_1 (by decide) ?_
  refine wp_virt (as := [.int (zI 84)]) (rest := []) d87_3 rfl rfl rfl (hS.1.o (by decide) rfl) rfl rfl (Nat.le_of_ble_eq_true rfl) ?_
  refine c_take hS.1 rt h7 hpl (by decide) (by decide) (fun c1 hlt => ?_) (fun c1 => ?_)
  · skip
    rw [pT_T c1] at h
    have S1 := hS.adv hlt
    refine wz_if_eq (t := 11) d87_6 (by decide) ⟨by omega, by omega⟩ (fun hb => absurd hb (by decide)) (fun _ => ?_)
    refine wz_iconst d87_9 ?_
    exact wp_ret d87_10 rfl (h _ Rf K L n s z cn 0 (hS.wset _ ⟨by omega, by omega⟩) S1.2.2.2.1 (Int.le_refl _) (by omega) hcz (mset_s _ _ _ _) S1.2.2.2.2.2.2.2.2.2.2.2.1 ⟨ndf_mono (fun _ _ _ _ _ => rfl) (Int.le_refl _) (by omega) S1.2.2.2.2.2.2.2.1, by rw [mset_i _ _ _ _ (by decide)]; rfl⟩)
  refine wz_if_eq (t := 11) d87_6 (by decide) ⟨by omega, by omega⟩ (fun _ => ?_) (fun hb => absurd (by decide) hb)
  refine wp_aload_n d87_11 rfl ?_
  refine wz_bipush d87_12 (by decide) ?_
  refine wz_bipush d87_14 (by decide) ?_
  refine wp_virt (as := [.int (zI 83), .int (zI 80)]) (rest := []) d87_16 rfl rfl rfl (hS.1.o (by decide) rfl) rfl rfl (Nat.le_of_ble_eq_true rfl) ?_
  refine c_takeB hS.1 rt h7 hpl (by decide) (by decide) (by decide) (by decide) (fun c2 hlt => ?_) (fun c2 => ?_)
  · skip
    rw [pT_v c1 c2] at h
    have S1 := hS.adv hlt
    have cx1 := hS.wset (s := s) ((p + 1 : Nat) : Int) ⟨by omega, by omega⟩
    refine wp_istore_n d87_19 (Nat.le_of_ble_eq_true rfl) rfl ?_
    refine wp_iload_n d87_20 rfl ?_
    refine wz_if_eq (t := 37) d87_21 (by decide) ⟨by omega, by omega⟩ (fun hb => absurd hb (by omega)) (fun _ => ?_)
    refine wp_aload_n d87_24 rfl ?_
    refine wp_getR (q := 6) d87_25 rfl (S1.1.o (by decide) rfl) (by decide) (S1.1.r (by decide +kernel)) (by decide) ?_
    refine wp_aload_n d87_28 rfl ?_
    refine wp_iload_n d87_29 rfl ?_
    refine wp_virt (as := [.int (zI (chr tx ln p))]) (rest := [.ref 6]) d87_30 rfl rfl rfl (S1.1.o (by decide) rfl) rfl rfl (Nat.le_of_ble_eq_true rfl) ?_
    have fin : ∀ (M2 : pm_M) (k : Nat), RdS tx ln e (p + 1) M2 Rf K L n z cn → CX (WT e.length) M Rf K L n s z cn M2 Rf K L n s z → k ≤ 100 → (lvl e (chr tx ln p)).getD 0 = k → M2 38 11 = (if (lvl e (chr tx ln p)).isSome = true then M 38 11 else 0) → pm_Wp none (d + 6 * r + 11) 87 33 [some (.ref 38), some (.int (zI (dp : Int))), some (.int (zI (chr tx ln p)))] [.int (zI (k : Int)), .ref 6] (zM M2, Rf, K, L, n, s) Q := by
      intro M2 k S2 cx2 hk ek hcl
      rw [ek] at h
      refine wp_virt (as := [.int (zI (k : Int))]) (rest := []) d87_33 rfl rfl rfl (S2.1.o (by decide) rfl) rfl rfl (Nat.le_of_ble_eq_true rfl) ?_
      refine wc_deep (show 0 + 4 ≤ d + 6 * r + 11 by omega) ?_
      refine c_variable S2.1 S2.2.1 S2.2.2.1 S2.2.2.2.1 S2.2.2.2.2.1 S2.2.2.2.2.2.1 (by have := S2.2.2.2.2.2.2.1; omega) (by omega) (fun M3 R3 K3 L3 n3 s3 z3 cx3 v1 v2 nd3 => ?_)
      have g : ∀ i : Int, M3 38 i = M2 38 i := fun i => cx3.mem 38 (by have := S2.1.1; omega) (fun g hg => by have := S2.2.1.2.1 g hg; omega) i (by omega)
      refine wp_ret d87_36 rfl (h M3 R3 K3 L3 n3 s3 z3 (cn + 1) cn (cx2.trans (cx3.weak (fun p q hw => Or.inl hw)) (Int.le_refl _)) v1 (by omega) (by show cn + 1 ≤ cn + ((p + 1 - p : Nat) : Int); omega) v2 ?_ ?_ ⟨nd3 r, ?_⟩)
      · rw [g 7]; exact S2.2.2.2.2.2.2.2.2.2.1
      · rw [g 8]; exact S2.2.2.2.2.2.2.2.2.2.2.2.1
      · rw [g 11]; exact hcl
    refine c_lvlOf S1.1 S1.2.2.1 S1.2.2.2.2.2.2.2.2.2.2.2.1 (by omega) S1.2.2.2.2.2.2.2.2.2.2.2.2 ⟨by omega, by omega⟩ (fun k ek => ?_) (fun ek => ?_)
    · have := lvl_lt ek
      exact fin _ k S1 cx1 (by omega) (by rw [ek]; rfl) (by rw [mset_i _ _ _ _ (by decide), ek]; rfl)
    · refine fin _ 0 (S1.set (fun p' i hi => ?_) ?_ (Nat.le_refl _) (by omega) (mset_R32 S1.2.2.1 ⟨by omega, by omega⟩)) (cx1.set (fun g hg => by have := hS.2.1.2.1 g hg; omega) (by unfold WT; omega) ⟨by omega, by omega⟩) (by decide) (by rw [ek]; rfl) (by rw [mset_s, ek]; rfl)
      · unfold mset
        rw [if_neg (fun x => hi ⟨x.1, Or.inr x.2⟩)]
      · rw [mset_i _ _ _ _ (by decide), mset_s]
  refine wp_istore_n d87_19 (Nat.le_of_ble_eq_true rfl) rfl ?_
  refine wp_iload_n d87_20 rfl ?_
  refine wz_if_eq (t := 37) d87_21 (by decide) ⟨by omega, by omega⟩ (fun _ => ?_) (fun hb => absurd (by decide) hb)
  refine wp_iload_n d87_37 rfl ?_
  refine wz_bipush d87_38 (by decide) ?_
  refine wz_icmp_le (t := 45) d87_40 (by decide) ⟨by omega, by omega⟩ ⟨by omega, by omega⟩ (fun _ => ?_) (fun hb => absurd (by omega) hb)
  refine wp_aload_n d87_45 rfl ?_
  refine wz_bipush d87_46 (by decide) ?_
  refine wp_virt (as := [.int (zI 91)]) (rest := []) d87_48 rfl rfl rfl (hS.1.o (by decide) rfl) rfl rfl (Nat.le_of_ble_eq_true rfl) ?_
  refine c_take hS.1 rt h7 hpl (by decide) (by decide) (fun c3 hlt => ?_) (fun c3 => ?_)
  · skip
    rw [pT_r c1 c2 c3] at h
    have S1 := hS.adv hlt
    have h' := h.adv hS hlt
    refine wz_if_eq (t := 62) d87_51 (by decide) ⟨by omega, by omega⟩ (fun hb => absurd hb (by decide)) (fun _ => ?_)
    refine wp_aload_n d87_54 rfl ?_
    refine wz_iconst d87_55 ?_
    refine wz_iconst d87_56 ?_
    refine wp_iload_n d87_57 rfl ?_
    refine wp_virt (as := [.int (zI (dp : Int)), .int (zI (-1)), .int (zI 1)]) (rest := []) d87_58 rfl rfl rfl (S1.1.o (by decide) rfl) rfl rfl (Nat.le_of_ble_eq_true rfl) ?_
    refine wc_deep (show d + 6 * r + 9 ≤ d + 6 * r + 11 by omega) ?_
    refine c_recT IH S1 hdp he (fun M1 R1 K1 L1 n1 s1 z1 cn1 i1 cx1 u1 u2 u3 u4 u5 u6 t1 => wp_ret d87_61 rfl (h' M1 R1 K1 L1 n1 s1 z1 cn1 i1 cx1 u1 u2 u3 u4 u5 u6 t1)) (by omega) (by omega)
  refine wz_if_eq (t := 62) d87_51 (by decide) ⟨by omega, by omega⟩ (fun _ => ?_) (fun hb => absurd (by decide) hb)
  cases r with
  | zero =>
    rw [pT_z c1 c2 c3] at h
    refine wp_iload_n d87_62 rfl ?_
    refine wz_bipush d87_63 (by decide) ?_
    refine wz_icmp_ne (t := 70) d87_65 (by decide) ⟨by omega, by omega⟩ ⟨by omega, by omega⟩ (fun hb => absurd (by omega) hb) (fun _ => ?_)
    refine wz_iconst d87_68 ?_
    exact wp_ret d87_69 rfl (h M Rf K L n s z cn (-1) (CX.refl hS.1 hS.2.1 hS.2.2.1) hS.2.2.2.1 (Int.le_refl _) (by omega) hcz h7 h8 rfl)
  | succ r =>
  have IHr := IH r rfl
  refine wp_iload_n d87_62 rfl ?_
  refine wz_bipush d87_63 (by decide) ?_
  refine wz_icmp_ne (t := 70) d87_65 (by decide) ⟨by omega, by omega⟩ ⟨by omega, by omega⟩ (fun _ => ?_) (fun hb => absurd hb (by omega))
  refine wp_aload_n d87_70 rfl ?_
  refine wz_bipush d87_71 (by decide) ?_
  refine wp_virt (as := [.int (zI 40)]) (rest := []) d87_73 rfl rfl rfl (hS.1.o (by decide) rfl) rfl rfl (Nat.le_of_ble_eq_true rfl) ?_
  refine c_take hS.1 rt h7 hpl (by decide) (by decide) (fun c4 hlt => ?_) (fun c4 => ?_)
  · skip
    rw [pT_f c1 c2 c3 c4] at h
    have S1 := hS.adv hlt
    have h' := h.adv hS hlt
    refine wz_if_eq (t := 85) d87_76 (by decide) ⟨by omega, by omega⟩ (fun hb => absurd hb (by decide)) (fun _ => ?_)
    refine wp_aload_n d87_79 rfl ?_
    refine wp_iload_n d87_80 rfl ?_
    refine wp_virt (as := [.int (zI (dp : Int))]) (rest := []) d87_81 rfl rfl rfl (S1.1.o (by decide) rfl) rfl rfl (Nat.le_of_ble_eq_true rfl) ?_
    refine wc_deep (show d + 6 * r + 13 ≤ d + 6 * (r + 1) + 11 by omega) ?_
    refine c_funType IHr S1 (by omega) (by omega) (fun M1 R1 K1 L1 n1 s1 z1 cn1 i1 cx1 u1 u2 u3 u4 u5 u6 t1 => wp_ret d87_84 rfl (h' M1 R1 K1 L1 n1 s1 z1 cn1 i1 cx1 u1 u2 u3 u4 u5 u6 t1))
  refine wz_if_eq (t := 85) d87_76 (by decide) ⟨by omega, by omega⟩ (fun _ => ?_) (fun hb => absurd (by decide) hb)
  refine wp_aload_n d87_85 rfl ?_
  refine wz_bipush d87_86 (by decide) ?_
  refine wp_virt (as := [.int (zI 60)]) (rest := []) d87_88 rfl rfl rfl (hS.1.o (by decide) rfl) rfl rfl (Nat.le_of_ble_eq_true rfl) ?_
  refine c_take hS.1 rt h7 hpl (by decide) (by decide) (fun c5 hlt => ?_) (fun c5 => ?_)
  · skip
    rw [pT_a c1 c2 c3 c4 c5] at h
    have S1 := hS.adv hlt
    have h' := h.adv hS hlt
    refine wz_if_eq (t := 102) d87_91 (by decide) ⟨by omega, by omega⟩ (fun hb => absurd hb (by decide)) (fun _ => ?_)
    refine wp_aload_n d87_94 rfl ?_
    refine wp_iload_n d87_95 rfl ?_
    refine wp_virt (as := [.int (zI (dp : Int))]) (rest := []) d87_96 rfl rfl rfl (S1.1.o (by decide) rfl) rfl rfl (Nat.le_of_ble_eq_true rfl) ?_
    refine wc_deep (show d + 6 * r + 13 ≤ d + 6 * (r + 1) + 11 by omega) ?_
    refine c_allType IHr S1 (by omega) (by omega) (fun M1 R1 K1 L1 n1 s1 z1 cn1 i1 cx1 u1 u2 u3 u4 u5 u6 t1 => ?_)
    refine wp_goto (t := 103) d87_99 (by decide) ?_
    exact wp_ret d87_103 rfl (h' M1 R1 K1 L1 n1 s1 z1 cn1 i1 cx1 u1 u2 u3 u4 u5 u6 t1)
  · skip
    rw [pT_n c1 c2 c3 c4 c5] at h
    refine wz_if_eq (t := 102) d87_91 (by decide) ⟨by omega, by omega⟩ (fun _ => ?_) (fun hb => absurd (by decide) hb)
    refine wz_iconst d87_102 ?_
    exact wp_ret d87_103 rfl (h M Rf K L n s z cn (-1) (CX.refl hS.1 hS.2.1 hS.2.2.1) hS.2.2.2.1 (Int.le_refl _) (by omega) hcz h7 h8 rfl)
theorem c_types (tx : Nat → Int) (ln d : Nat) : ∀ r, TyC tx ln d r
  | 0 => c_anyType (fun r' e => by omega)
  | r + 1 => c_anyType (fun r' e => by
    have : r' = r := by omega
    subst this
    exact c_types tx ln d r')
/-- what reading an outer type may write -/
def WT2 (o : Nat) (p : Nat) (i : Int) : Prop := WT o p i ∨ (p = 38 ∧ i = 12)
def big (v : Int) : Option (Ty × Bool) → Int
  | none => v
  | some a => if 16 < (flat a.1).length then 1 else v
theorem c_outerType {r : Nat} {e : List Int} {p dp : Nat} {M : pm_M} {Rf : Nat → Nat → Nat} {K L : Nat → Nat} {n s z : Nat} {cn : Int} {Q : Option Value → pm_S → Prop} (hS : RdS tx ln e p M Rf K L n z cn) (hdp : dp + r = 24) (he : e.length + r ≤ 24) (h : ∀ (M' : pm_M) (Rf' : Nat → Nat → Nat) (K' L' : Nat → Nat) (n' s' z' : Nat) (cn' i : Int), CX (WT2 e.length) M Rf K L n s z cn M' Rf' K' L' n' s' z' → M' 6 6 = cn' → cn ≤ cn' → cn' ≤ cn + (((pT tx ln r e p).1 - p : Nat) : Int) → cn' ≤ z' → M' 38 7 = ((pT tx ln r e p).1 : Int) → M' 38 8 = (e.length : Int) → TyR M' Rf' cn' (r + 1) (M 38 11) (pT tx ln r e p).2 i → M' 38 12 = big (M 38 12) (pT tx ln r e p).2 → Q (some (.int (zI i))) (zM M', Rf', K', L', n', s')) : pm_Wc (d + 6 * r + 13) 86 [.ref 38, .int (zI (dp : Int))] (zM M, Rf, K, L, n, s) Q := by
  refine wc_in (ls0 := [some (.ref 38), some (.int (zI (dp : Int))), none]) (by decide) (Nat.le_of_ble_eq_true rfl) rfl rfl ?_
  refine wp_aload_n d86_0 rfl ?_
  refine wp_iload_n d86_1 rfl ?_
  refine wp_virt (as := [.int (zI (dp : Int))]) (rest := []) d86_2 rfl rfl rfl (hS.1.o (by decide) rfl) rfl rfl (Nat.le_of_ble_eq_true rfl) ?_
  refine c_types tx ln d r dp e p M Rf K L n s z cn _ hdp hS he (fun M1 R1 K1 L1 n1 s1 z1 cn1 i1 cx1 u1 u2 u3 u4 u5 u6 t1 => ?_)
  have hn := hS.1.1
  have hz1 := cx1.r.2.2.2.2
  have cx1' : CX (WT2 e.length) M Rf K L n s z cn M1 R1 K1 L1 n1 s1 z1 := cx1.weak (fun p i hw => Or.inl hw)
  have e12 : M1 38 12 = M 38 12 := cx1.mem 38 (by omega) (fun g hg => by have := hS.2.1.2.1 g hg; omega) 12 (by unfold WT; omega)
  cases hpt : pT tx ln r e p with
  | mk q o =>
  rw [hpt] at u3 u5 t1 h
  cases o with
  | none =>
    have t1 : i1 = -1 := t1
    subst t1
    refine wp_istore_n d86_5 (Nat.le_of_ble_eq_true rfl) rfl ?_
    refine wp_iload_n d86_6 rfl ?_
    refine wz_iconst d86_7 ?_
    refine wz_icmp_eq (t := 30) d86_8 (by decide) ⟨by omega, by omega⟩ ⟨by omega, by omega⟩ (fun _ => ?_) (fun hb => absurd (rfl) hb)
    refine wp_iload_n d86_30 rfl ?_
    exact wp_ret d86_31 rfl (h M1 R1 K1 L1 n1 s1 z1 cn1 (-1) cx1' u1 u2 u3 u4 u5 u6 rfl e12)
  | some a =>
  obtain ⟨nd1, cl1⟩ := t1
  have rr := ndf_rng nd1
  have lz : M1 (R1 6 4) i1 = ((flat a.1).length : Int) := nd1.1.2.2.2.1
  have x3 := (pT_ok r e p q a hpt).2.2
  have q60 := (pT_fw (tx := tx) (ln := ln) r e p hS.2.2.2.2.2.2.2.2.2.2.1).2.1
  rw [hpt] at q60
  have q60 : q ≤ ln := q60
  have l60 := hS.2.2.2.2.2.2.2.2.1.2.1
  refine wp_istore_n d86_5 (Nat.le_of_ble_eq_true rfl) rfl ?_
  refine wp_iload_n d86_6 rfl ?_
  refine wz_iconst d86_7 ?_
  refine wz_icmp_eq (t := 30) d86_8 (by decide) ⟨by omega, by omega⟩ ⟨by omega, by omega⟩ (fun hb => absurd hb (by omega)) (fun _ => ?_)
  refine wp_aload_n d86_11 rfl ?_
  refine wp_getR (q := 6) d86_12 rfl (cx1.g.o (by decide) rfl) (by decide) (cx1.g.r (by decide +kernel)) (by decide) ?_
  refine wp_getR (q := R1 6 4) d86_15 rfl (cx1.g.o (by decide) rfl) (by decide) rfl (cx1.r.1 4 (by decide)).1 ?_
  refine wp_iload_n d86_18 rfl ?_
  refine wz_iald (z := z1) (v := ((flat a.1).length : Int)) d86_19 (cx1.r.1 4 (by decide)) (rr.1) (by omega) (by omega) (lz) ?_
  refine wz_bipush d86_20 (by decide) ?_
  refine wz_icmp_le (t := 30) d86_22 (by decide) ⟨by omega, by omega⟩ ⟨by omega, by omega⟩ (fun hb => ?_) (fun hb => ?_)
  · skip
    refine wp_iload_n d86_30 rfl ?_
    exact wp_ret d86_31 rfl (h M1 R1 K1 L1 n1 s1 z1 cn1 i1 cx1' u1 u2 u3 u4 u5 u6 ⟨nd1, cl1⟩ (by rw [e12]; exact (if_neg (by omega)).symm))
  · skip
    refine wp_aload_n d86_25 rfl ?_
    refine wz_iconst d86_26 ?_
    refine wz_putI (i := 12) d86_27 rfl (cx1.g.o (by decide) rfl) (by decide) (by decide) rfl ?_
    refine wp_iload_n d86_30 rfl ?_
    refine wp_ret d86_31 rfl (h _ R1 K1 L1 n1 s1 z1 cn1 i1 (cx1'.set (fun g hg => by have := cx1.r.2.1 g hg; omega) (by unfold WT2; omega) ⟨by omega, by omega⟩) (by rw [mset_p _ _ _ _ (by decide)]; exact u1) u2 u3 u4 (by rw [mset_i _ _ _ _ (by decide)]; exact u5) (by rw [mset_i _ _ _ _ (by decide)]; exact u6) ⟨ndf_mono (fun g hg i _ _ => mset_p _ _ _ _ (by have := cx1.r.2.1 g hg; omega)) (Int.le_refl _) (Nat.le_refl _) nd1, by rw [mset_i _ _ _ _ (by decide)]; exact cl1⟩ ?_)
    rw [mset_s]
    exact (if_pos (by omega)).symm
end PmC31
