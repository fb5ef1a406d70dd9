/-! THE CLASS: a value is made, a frame is pushed. -/
def mval (M : pm_M) (Rf : Nat → Nat → Nat) (v nd x : Int) : pm_M := mset (mset (mset (mset (mset M 51 4 (v + 1)) (Rf 51 0) v nd) (Rf 51 1) v x) (Rf 51 2) v (-1)) (Rf 51 3) v (-1)
def mfrm (M : pm_M) (Rf : Nat → Nat → Nat) (k nd sc v l : Int) : pm_M := mset (mset (mset (mset (mset M (Rf 43 0) k nd) (Rf 43 1) k sc) (Rf 43 2) k v) (Rf 43 3) k l) 43 9 (k + 1)
def LoP (p : Nat) : Prop := p ≤ 43 ∨ p = 51 ∨ (87 ≤ p ∧ p < 98)
/-- what a new value leaves as it is; what a new frame -/
def VKv (V V' : pm_M) (vs zf : Nat) : Prop := ∀ (p : Nat) (i : Int), LoP p → (90 ≤ p ∧ p ≤ 93 → 0 ≤ i ∧ i < vs) → (94 ≤ p ∧ p ≤ 97 → 0 ≤ i ∧ i < zf) → ¬ (p = 51 ∧ i = 4) → V' p i = V p i
def VKf (V V' : pm_M) (fr zv : Nat) : Prop := ∀ (p : Nat) (i : Int), LoP p → (90 ≤ p ∧ p ≤ 93 → 0 ≤ i ∧ i < zv) → (94 ≤ p ∧ p ≤ 97 → 0 ≤ i ∧ i < fr) → ¬ (p = 43 ∧ i = 9) → V' p i = V p i
section PmH3
variable {d : Nat} {Q : Option Value → pm_S → Prop} {X : Nat} {M : pm_M} {Rf : Nat → Nat → Nat} {K L : Nat → Nat} {n s zf zv zr : Nat}
theorem mval_view {v nd x : Int} (h : MR X Rf K L n zf zv zr) : cvw (mval M Rf v nd x) Rf 90 v = nd ∧ cvw (mval M Rf v nd x) Rf 91 v = x ∧ cvw (mval M Rf v nd x) Rf 92 v = -1 ∧ cvw (mval M Rf v nd x) Rf 93 v = -1 ∧ mval M Rf v nd x 51 4 = v + 1 ∧ ∀ (p : Nat) (i : Int), LoP p → (90 ≤ p ∧ p ≤ 93 → i ≠ v) → ¬ (p = 51 ∧ i = 4) → cvw (mval M Rf v nd x) Rf p i = cvw M Rf p i := by
  obtain ⟨h1, h2, h3, h4, ⟨h5, h6⟩, h7, h8⟩ := h
  have n0 := h3.2.1 0 (by decide)
  have n1 := h3.2.1 1 (by decide)
  have n2 := h3.2.1 2 (by decide)
  have n3 := h3.2.1 3 (by decide)
  have i01 : Rf 51 0 ≠ Rf 51 1 := fun e => absurd (h3.2.2.1 0 1 (by decide) (by decide) e) (by decide)
  have i02 : Rf 51 0 ≠ Rf 51 2 := fun e => absurd (h3.2.2.1 0 2 (by decide) (by decide) e) (by decide)
  have i03 : Rf 51 0 ≠ Rf 51 3 := fun e => absurd (h3.2.2.1 0 3 (by decide) (by decide) e) (by decide)
  have i12 : Rf 51 1 ≠ Rf 51 2 := fun e => absurd (h3.2.2.1 1 2 (by decide) (by decide) e) (by decide)
  have i13 : Rf 51 1 ≠ Rf 51 3 := fun e => absurd (h3.2.2.1 1 3 (by decide) (by decide) e) (by decide)
  have i23 : Rf 51 2 ≠ Rf 51 3 := fun e => absurd (h3.2.2.1 2 3 (by decide) (by decide) e) (by decide)
  have oth : ∀ (p : Nat) (i : Int), (p = Rf 51 0 ∨ p = Rf 51 1 ∨ p = Rf 51 2 ∨ p = Rf 51 3 → i ≠ v) → ¬ (p = 51 ∧ i = 4) → mval M Rf v nd x p i = M p i := by
    intro p i q1 q2
    unfold mval
    rw [mset_i' (fun e => q1 (Or.inr (Or.inr (Or.inr e.1))) e.2), mset_i' (fun e => q1 (Or.inr (Or.inr (Or.inl e.1))) e.2), mset_i' (fun e => q1 (Or.inr (Or.inl e.1)) e.2), mset_i' (fun e => q1 (Or.inl e.1) e.2), mset_i' q2]
  refine ⟨?_, ?_, ?_, ?_, ?_, fun p i hp q1 q2 => ?_⟩
  · rw [show (90 : Nat) = 90 + 0 from rfl, cvw_v (by decide)]
    unfold mval
    rw [mset_i' (by omega), mset_i' (by omega), mset_i' (by omega), mset_s]
  · rw [show (91 : Nat) = 90 + 1 from rfl, cvw_v (by decide)]
    unfold mval
    rw [mset_i' (by omega), mset_i' (by omega), mset_s]
  · rw [show (92 : Nat) = 90 + 2 from rfl, cvw_v (by decide)]
    unfold mval
    rw [mset_i' (by omega), mset_s]
  · rw [show (93 : Nat) = 90 + 3 from rfl, cvw_v (by decide)]
    unfold mval
    rw [mset_s]
  · unfold mval
    rw [mset_i' (by omega), mset_i' (by omega), mset_i' (by omega), mset_i' (by omega), mset_s]
  · unfold LoP at hp
    unfold cvw
    by_cases c1 : 94 ≤ p ∧ p ≤ 97
    · rw [if_pos c1, if_pos c1]
      have hp4 : p - 94 < 4 := by omega
      have a := fun g hg => h5 (p - 94) g hp4 hg
      have b := h2.2.1 (p - 94) (by omega)
      have a0 := a 0 (by decide)
      have a1 := a 1 (by decide)
      have a2 := a 2 (by decide)
      have a3 := a 3 (by decide)
      exact oth _ i (fun e => by omega) (by omega)
    · rw [if_neg c1, if_neg c1]
      by_cases c2 : 90 ≤ p ∧ p ≤ 93
      · rw [if_pos c2, if_pos c2]
        have b := h3.2.1 (p - 90) (by omega)
        exact oth _ i (fun _ => q1 c2) (by omega)
      · rw [if_neg c2, if_neg c2]
        by_cases c3 : 87 ≤ p ∧ p ≤ 89
        · rw [if_pos c3, if_pos c3]; exact oth _ i (fun e => by omega) (by omega)
        · rw [if_neg c3, if_neg c3]; exact oth _ i (fun e => by omega) q2
theorem mfrm_view {k nd sc v l : Int} (h : MR X Rf K L n zf zv zr) : cvw (mfrm M Rf k nd sc v l) Rf 94 k = nd ∧ cvw (mfrm M Rf k nd sc v l) Rf 95 k = sc ∧ cvw (mfrm M Rf k nd sc v l) Rf 96 k = v ∧ cvw (mfrm M Rf k nd sc v l) Rf 97 k = l ∧ mfrm M Rf k nd sc v l 43 9 = k + 1 ∧ ∀ (p : Nat) (i : Int), LoP p → (94 ≤ p ∧ p ≤ 97 → i ≠ k) → ¬ (p = 43 ∧ i = 9) → cvw (mfrm M Rf k nd sc v l) Rf p i = cvw M Rf p i := by
  obtain ⟨h1, h2, h3, h4, ⟨h5, h6⟩, h7, h8⟩ := h
  have n0 := h2.2.1 0 (by decide)
  have n1 := h2.2.1 1 (by decide)
  have n2 := h2.2.1 2 (by decide)
  have n3 := h2.2.1 3 (by decide)
  have i01 : Rf 43 0 ≠ Rf 43 1 := fun e => absurd (h2.2.2.1 0 1 (by decide) (by decide) e) (by decide)
  have i02 : Rf 43 0 ≠ Rf 43 2 := fun e => absurd (h2.2.2.1 0 2 (by decide) (by decide) e) (by decide)
  have i03 : Rf 43 0 ≠ Rf 43 3 := fun e => absurd (h2.2.2.1 0 3 (by decide) (by decide) e) (by decide)
  have i12 : Rf 43 1 ≠ Rf 43 2 := fun e => absurd (h2.2.2.1 1 2 (by decide) (by decide) e) (by decide)
  have i13 : Rf 43 1 ≠ Rf 43 3 := fun e => absurd (h2.2.2.1 1 3 (by decide) (by decide) e) (by decide)
  have i23 : Rf 43 2 ≠ Rf 43 3 := fun e => absurd (h2.2.2.1 2 3 (by decide) (by decide) e) (by decide)
  have oth : ∀ (p : Nat) (i : Int), (p = Rf 43 0 ∨ p = Rf 43 1 ∨ p = Rf 43 2 ∨ p = Rf 43 3 → i ≠ k) → ¬ (p = 43 ∧ i = 9) → mfrm M Rf k nd sc v l p i = M p i := by
    intro p i q1 q2
    unfold mfrm
    rw [mset_i' q2, mset_i' (fun e => q1 (Or.inr (Or.inr (Or.inr e.1))) e.2), mset_i' (fun e => q1 (Or.inr (Or.inr (Or.inl e.1))) e.2), mset_i' (fun e => q1 (Or.inr (Or.inl e.1)) e.2), mset_i' (fun e => q1 (Or.inl e.1) e.2)]
  refine ⟨?_, ?_, ?_, ?_, ?_, fun p i hp q1 q2 => ?_⟩
  · rw [show (94 : Nat) = 94 + 0 from rfl, cvw_f (by decide)]
    unfold mfrm
    rw [mset_i' (by omega), mset_i' (by omega), mset_i' (by omega), mset_i' (by omega), mset_s]
  · rw [show (95 : Nat) = 94 + 1 from rfl, cvw_f (by decide)]
    unfold mfrm
    rw [mset_i' (by omega), mset_i' (by omega), mset_i' (by omega), mset_s]
  · rw [show (96 : Nat) = 94 + 2 from rfl, cvw_f (by decide)]
    unfold mfrm
    rw [mset_i' (by omega), mset_i' (by omega), mset_s]
  · rw [show (97 : Nat) = 94 + 3 from rfl, cvw_f (by decide)]
    unfold mfrm
    rw [mset_i' (by omega), mset_s]
  · unfold mfrm
    rw [mset_s]
  · unfold LoP at hp
    unfold cvw
    by_cases c1 : 94 ≤ p ∧ p ≤ 97
    · rw [if_pos c1, if_pos c1]
      have b := h2.2.1 (p - 94) (by omega)
      exact oth _ i (fun _ => q1 c1) (by omega)
    · rw [if_neg c1, if_neg c1]
      by_cases c2 : 90 ≤ p ∧ p ≤ 93
      · rw [if_pos c2, if_pos c2]
        have b := h3.2.1 (p - 90) (by omega)
        have a0 := h5 0 (p - 90) (by decide) (by omega)
        have a1 := h5 1 (p - 90) (by decide) (by omega)
        have a2 := h5 2 (p - 90) (by decide) (by omega)
        have a3 := h5 3 (p - 90) (by decide) (by omega)
        exact oth _ i (fun e => by omega) (by omega)
      · rw [if_neg c2, if_neg c2]
        by_cases c3 : 87 ≤ p ∧ p ≤ 89
        · rw [if_pos c3, if_pos c3]; exact oth _ i (fun e => by omega) (by omega)
        · rw [if_neg c3, if_neg c3]; exact oth _ i (fun e => by omega) q2
theorem mval_mx {v nd x : Int} (h : MR X Rf K L n zf zv zr) (hM : ∀ p i, R32 (M p i)) (rv : R32 (v + 1)) (rn : R32 nd) (rx : R32 x) : MX X M Rf K L n s zf zv zr (mval M Rf v nd x) Rf K L n s zf zv := by
  refine ⟨h, ⟨Nat.le_refl _, Nat.le_refl _, Nat.le_refl _, Nat.le_refl _, Nat.le_refl _⟩, fun p _ => ⟨rfl, rfl⟩, fun p _ g _ _ => rfl, fun g _ => ⟨Or.inl rfl, Or.inl rfl⟩, fun p _ hr i hw => ?_, mset_R32 (mset_R32 (mset_R32 (mset_R32 (mset_R32 hM rv) rn) rx) ⟨by omega, by omega⟩) ⟨by omega, by omega⟩⟩
  have r0 := (hr 0 (by decide)).2
  have r1 := (hr 1 (by decide)).2
  have r2 := (hr 2 (by decide)).2
  have r3 := (hr 3 (by decide)).2
  unfold WMc at hw
  unfold mval
  rw [mset_i' (by omega), mset_i' (by omega), mset_i' (by omega), mset_i' (by omega), mset_i' (by omega)]
theorem mfrm_mx {k nd sc v l : Int} (h : MR X Rf K L n zf zv zr) (hM : ∀ p i, R32 (M p i)) (rk : R32 (k + 1)) (rn : R32 nd) (rs : R32 sc) (rv : R32 v) (rl : R32 l) : MX X M Rf K L n s zf zv zr (mfrm M Rf k nd sc v l) Rf K L n s zf zv := by
  refine ⟨h, ⟨Nat.le_refl _, Nat.le_refl _, Nat.le_refl _, Nat.le_refl _, Nat.le_refl _⟩, fun p _ => ⟨rfl, rfl⟩, fun p _ g _ _ => rfl, fun g _ => ⟨Or.inl rfl, Or.inl rfl⟩, fun p _ hr i hw => ?_, mset_R32 (mset_R32 (mset_R32 (mset_R32 (mset_R32 hM rn) rs) rv) rl) rk⟩
  have r0 := (hr 0 (by decide)).1
  have r1 := (hr 1 (by decide)).1
  have r2 := (hr 2 (by decide)).1
  have r3 := (hr 3 (by decide)).1
  unfold WMc at hw
  unfold mfrm
  rw [mset_i' (by omega), mset_i' (by omega), mset_i' (by omega), mset_i' (by omega), mset_i' (by omega)]
theorem makeV_tail {v nd x : Int} (h : MR X Rf K L n zf zv zr) (e4 : M 51 4 = v) (v0 : 0 ≤ v) (v1 : v < zv) (hQ : Q (some (.int (zI v))) (zM (mval M Rf v nd x), Rf, K, L, n, s)) {o3 : Option Value} : pm_Wp none d 130 21 [some (.ref 51), some (.int (zI nd)), some (.int (zI x)), o3] [] (zM M, Rf, K, L, n, s) Q := by
  have hV := h.2.2.1
  have hG := h.1
  have vz := hV.2.2.2.2.1
  refine wp_aload_n d130_21 rfl ?_
  refine wz_getI (v := v) d130_22 rfl (hG.o (by decide) rfl) (by decide) (e4) ?_
  refine wp_istore_n d130_25 (Nat.le_of_ble_eq_true rfl) rfl ?_
  refine wp_aload_n d130_26 rfl ?_
  refine wp_dupr d130_27 ?_
  refine wz_getI (v := v) d130_28 rfl (hG.o (by decide) rfl) (by decide) (e4) ?_
  refine wz_iconst d130_31 ?_
  refine wz_iadd d130_32 ?_
  refine wz_putI (i := 4) d130_33 rfl (hG.o (by decide) rfl) rfl (by decide) rfl ?_
  refine wp_aload_n d130_36 rfl ?_
  refine wp_getR (q := Rf 51 0) d130_37 rfl (hG.o (by decide) rfl) (by decide) rfl (hV.1 0 (by decide)).1 ?_
  refine wp_iload_n d130_40 rfl ?_
  refine wp_iload_n d130_41 rfl ?_
  refine wz_iast (z := zv) d130_42 (hV.1 0 (by decide)) (by omega) (by omega) (by omega) ?_
  refine wp_aload_n d130_43 rfl ?_
  refine wp_getR (q := Rf 51 1) d130_44 rfl (hG.o (by decide) rfl) (by decide) rfl (hV.1 1 (by decide)).1 ?_
  refine wp_iload_n d130_47 rfl ?_
  refine wp_iload_n d130_48 rfl ?_
  refine wz_iast (z := zv) d130_49 (hV.1 1 (by decide)) (by omega) (by omega) (by omega) ?_
  refine wp_aload_n d130_50 rfl ?_
  refine wp_getR (q := Rf 51 2) d130_51 rfl (hG.o (by decide) rfl) (by decide) rfl (hV.1 2 (by decide)).1 ?_
  refine wp_iload_n d130_54 rfl ?_
  refine wz_iconst d130_55 ?_
  refine wz_iast (z := zv) d130_56 (hV.1 2 (by decide)) (by omega) (by omega) (by omega) ?_
  refine wp_aload_n d130_57 rfl ?_
  refine wp_getR (q := Rf 51 3) d130_58 rfl (hG.o (by decide) rfl) (by decide) rfl (hV.1 3 (by decide)).1 ?_
  refine wp_iload_n d130_61 rfl ?_
  refine wz_iconst d130_62 ?_
  refine wz_iast (z := zv) d130_63 (hV.1 3 (by decide)) (by omega) (by omega) (by omega) ?_
  refine wp_iload_n d130_64 rfl ?_
  exact wp_ret d130_65 rfl (hQ)
theorem push_tail {k nd sc v l : Int} (h : MR X Rf K L n zf zv zr) (e9 : M 43 9 = k) (k0 : 0 ≤ k) (k1 : k < zf) (e11 : M 43 11 = nd) (e12 : M 43 12 = sc) (hQ : Q none (zM (mfrm M Rf k nd sc v l), Rf, K, L, n, s)) : pm_Wp none d 120 25 [some (.ref 43), some (.int (zI v)), some (.int (zI l))] [] (zM M, Rf, K, L, n, s) Q := by
  have hF := h.2.1
  have hG := h.1
  have vz := hF.2.2.2.2.1
  have n0 := hF.2.1 0 (by decide)
  have n1 := hF.2.1 1 (by decide)
  have n2 := hF.2.1 2 (by decide)
  have n3 := hF.2.1 3 (by decide)
  refine wp_aload_n d120_25 rfl ?_
  refine wp_getR (q := Rf 43 0) d120_26 rfl (hG.o (by decide) rfl) (by decide) rfl (hF.1 0 (by decide)).1 ?_
  refine wp_aload_n d120_29 rfl ?_
  refine wz_getI (v := k) d120_30 rfl (hG.o (by decide) rfl) (by decide) (by exact e9) ?_
  refine wp_aload_n d120_33 rfl ?_
  refine wz_getI (v := nd) d120_34 rfl (hG.o (by decide) rfl) (by decide) (by exact e11) ?_
  refine wz_iast (z := zf) d120_37 (hF.1 0 (by decide)) (by omega) (by omega) (by omega) ?_
  refine wp_aload_n d120_38 rfl ?_
  refine wp_getR (q := Rf 43 1) d120_39 rfl (hG.o (by decide) rfl) (by decide) rfl (hF.1 1 (by decide)).1 ?_
  refine wp_aload_n d120_42 rfl ?_
  refine wz_getI (v := k) d120_43 rfl (hG.o (by decide) rfl) (by decide) (by rw [mset_i' (by omega)]; exact e9) ?_
  refine wp_aload_n d120_46 rfl ?_
  refine wz_getI (v := sc) d120_47 rfl (hG.o (by decide) rfl) (by decide) (by rw [mset_i' (by omega)]; exact e12) ?_
  refine wz_iast (z := zf) d120_50 (hF.1 1 (by decide)) (by omega) (by omega) (by omega) ?_
  refine wp_aload_n d120_51 rfl ?_
  refine wp_getR (q := Rf 43 2) d120_52 rfl (hG.o (by decide) rfl) (by decide) rfl (hF.1 2 (by decide)).1 ?_
  refine wp_aload_n d120_55 rfl ?_
  refine wz_getI (v := k) d120_56 rfl (hG.o (by decide) rfl) (by decide) (by rw [mset_i' (by omega), mset_i' (by omega)]; exact e9) ?_
  refine wp_iload_n d120_59 rfl ?_
  refine wz_iast (z := zf) d120_60 (hF.1 2 (by decide)) (by omega) (by omega) (by omega) ?_
  refine wp_aload_n d120_61 rfl ?_
  refine wp_getR (q := Rf 43 3) d120_62 rfl (hG.o (by decide) rfl) (by decide) rfl (hF.1 3 (by decide)).1 ?_
  refine wp_aload_n d120_65 rfl ?_
  refine wz_getI (v := k) d120_66 rfl (hG.o (by decide) rfl) (by decide) (by rw [mset_i' (by omega), mset_i' (by omega), mset_i' (by omega)]; exact e9) ?_
  refine wp_iload_n d120_69 rfl ?_
  refine wz_iast (z := zf) d120_70 (hF.1 3 (by decide)) (by omega) (by omega) (by omega) ?_
  refine wp_aload_n d120_71 rfl ?_
  refine wp_dupr d120_72 ?_
  refine wz_getI (v := k) d120_73 rfl (hG.o (by decide) rfl) (by decide) (by rw [mset_i' (by omega), mset_i' (by omega), mset_i' (by omega), mset_i' (by omega)]; exact e9) ?_
  refine wz_iconst d120_76 ?_
  refine wz_iadd d120_77 ?_
  refine wz_putI (i := 9) d120_78 rfl (hG.o (by decide) rfl) rfl (by decide) rfl ?_
  exact wp_ret d120_81 rfl (hQ)
theorem c_makeV {nd x : Int} {vs : Nat} (h : MR X Rf K L n zf zv zr) (hM : ∀ p i, R32 (M p i)) (e4 : M 51 4 = (vs : Int)) (v1 : vs ≤ zv) (v2 : vs < 1220) (rn : R32 nd) (rx : R32 x) (hQ : ∀ (M' : pm_M) (Rf' : Nat → Nat → Nat) (K' L' : Nat → Nat) (n' s' zv' : Nat), MX X M Rf K L n s zf zv zr M' Rf' K' L' n' s' zf zv' → vs < zv' → (cvw M' Rf' 90 vs = nd ∧ cvw M' Rf' 91 vs = x ∧ cvw M' Rf' 92 vs = -1 ∧ cvw M' Rf' 93 vs = -1 ∧ M' 51 4 = (vs : Int) + 1) → VKv (cvw M Rf) (cvw M' Rf') vs zf → Q (some (.int (zI (vs : Int)))) (zM M', Rf', K', L', n', s')) : pm_Wc (d + 3) 130 [.ref 51, .int (zI nd), .int (zI x)] (zM M, Rf, K, L, n, s) Q := by
  have hV := h.2.2.1
  have hG := h.1
  have vz := hV.2.2.2.2.1
  refine wc_in (ls0 := [some (.ref 51), some (.int (zI nd)), some (.int (zI x)), none]) (by decide) (Nat.le_of_ble_eq_true rfl) rfl rfl ?_
  refine wp_aload_n d130_0 rfl ?_
  refine wz_getI (v := (vs : Int)) d130_1 rfl (hG.o (by decide) rfl) (by decide) (e4) ?_
  refine wp_aload_n d130_4 rfl ?_
  refine wp_getR (q := Rf 51 0) d130_5 rfl (hG.o (by decide) rfl) (by decide) rfl (hV.1 0 (by decide)).1 ?_
  refine wz_alen (z := zv) d130_8 (hV.1 0 (by decide)) (by decide) ?_
  refine wz_icmp_lt (t := 21) d130_9 (by decide) ⟨by omega, by omega⟩ ⟨by omega, by omega⟩ (fun hb => ?_) (fun hb => ?_)
  · skip
    refine makeV_tail h e4 (by omega) hb ?_
    obtain ⟨y0, y1, y2, y3, y4, y5⟩ := mval_view (M := M) (v := (vs : Int)) (nd := nd) (x := x) h
    exact hQ _ Rf K L n s zv (mval_mx h hM ⟨by omega, by omega⟩ rn rx) (by omega) ⟨y0, y1, y2, y3, y4⟩ (fun p i hp q1 q2 q3 => y5 p i hp (fun e => by have := (q1 e).2; omega) q3)
  · skip
    refine wp_aload_n d130_12 rfl ?_
    refine wp_virt (as := []) (rest := []) d130_13 rfl rfl rfl (hG.o (by decide) rfl) rfl rfl (Nat.le_of_ble_eq_true rfl) ?_
    refine wc_deep (show d + 2 ≤ d + 2 by omega) ?_
    refine c_growV (m := min (2 * zv) 1220) hG hV hM (by omega) rfl (fun M1 R1 K1 L1 gg => ?_)
    have pzv := hV.2.2.2.2.2
    unfold pz at pzv
    obtain ⟨mx, vk⟩ := gg.mx (s := s) (zz := zv) (m := min (2 * zv) 1220) (Or.inr rfl) h (by rw [if_neg (by omega)]) (by rw [if_neg (by omega)]) (by omega)
    rw [if_neg (by omega), if_neg (by omega)] at mx
    have h1 := mx.1
    refine wz_if_ne (t := 21) d130_16 (by decide) ⟨by omega, by omega⟩ (fun _ => ?_) (fun hb => absurd hb (by omega))
    have e51 : M1 51 4 = (vs : Int) := by
      have := vk 51 4 (by omega) (by omega) (by omega)
      rw [cvw_o (by omega), cvw_o (by omega)] at this
      rw [this]; exact e4
    refine makeV_tail h1 e51 (by omega) (by omega) ?_
    obtain ⟨y0, y1, y2, y3, y4, y5⟩ := mval_view (M := M1) (v := (vs : Int)) (nd := nd) (x := x) h1
    refine hQ _ R1 K1 L1 _ _ _ (mx.trans (mval_mx h1 mx.2.2.2.2.2.2 ⟨by omega, by omega⟩ rn rx)) (by omega) ⟨y0, y1, y2, y3, y4⟩ (fun p i hp q1 q2 q3 => (y5 p i hp (fun e => by have := (q1 e).2; omega) q3).trans (vk p i q2 (fun e => ⟨(q1 e).1, by have := (q1 e).2; omega⟩) (by unfold LoP at hp; omega)))
theorem c_push {nd sc v l : Int} {fr : Nat} (h : MR X Rf K L n zf zv zr) (hM : ∀ p i, R32 (M p i)) (e9 : M 43 9 = (fr : Int)) (e11 : M 43 11 = nd) (e12 : M 43 12 = sc) (f1 : fr ≤ zf) (f2 : fr < 1464) (rv : R32 v) (rl : R32 l) (hQ : ∀ (M' : pm_M) (Rf' : Nat → Nat → Nat) (K' L' : Nat → Nat) (n' s' zf' : Nat), MX X M Rf K L n s zf zv zr M' Rf' K' L' n' s' zf' zv → fr < zf' → (cvw M' Rf' 94 fr = nd ∧ cvw M' Rf' 95 fr = sc ∧ cvw M' Rf' 96 fr = v ∧ cvw M' Rf' 97 fr = l ∧ M' 43 9 = (fr : Int) + 1) → VKf (cvw M Rf) (cvw M' Rf') fr zv → Q none (zM M', Rf', K', L', n', s')) : pm_Wc (d + 3) 120 [.ref 43, .int (zI v), .int (zI l)] (zM M, Rf, K, L, n, s) Q := by
  have hF := h.2.1
  have hG := h.1
  have vz := hF.2.2.2.2.1
  have rn : R32 nd := by rw [← e11]; exact hM _ _
  have rs : R32 sc := by rw [← e12]; exact hM _ _
  refine wc_in (ls0 := [some (.ref 43), some (.int (zI v)), some (.int (zI l))]) (by decide) (Nat.le_of_ble_eq_true rfl) rfl rfl ?_
  refine wp_aload_n d120_0 rfl ?_
  refine wz_getI (v := (fr : Int)) d120_1 rfl (hG.o (by decide) rfl) (by decide) (e9) ?_
  refine wp_aload_n d120_4 rfl ?_
  refine wp_getR (q := Rf 43 0) d120_5 rfl (hG.o (by decide) rfl) (by decide) rfl (hF.1 0 (by decide)).1 ?_
  refine wz_alen (z := zf) d120_8 (hF.1 0 (by decide)) (by decide) ?_
  refine wz_icmp_lt (t := 25) d120_9 (by decide) ⟨by omega, by omega⟩ ⟨by omega, by omega⟩ (fun hb => ?_) (fun hb => ?_)
  · skip
    refine push_tail h e9 (by omega) hb e11 e12 ?_
    obtain ⟨y0, y1, y2, y3, y4, y5⟩ := mfrm_view (M := M) (k := (fr : Int)) (nd := nd) (sc := sc) (v := v) (l := l) h
    exact hQ _ Rf K L n s zf (mfrm_mx h hM ⟨by omega, by omega⟩ rn rs rv rl) (by omega) ⟨y0, y1, y2, y3, y4⟩ (fun p i hp q1 q2 q3 => y5 p i hp (fun e => by have := (q2 e).2; omega) q3)
  · skip
    refine wp_aload_n d120_12 rfl ?_
    refine wp_virt (as := []) (rest := []) d120_13 rfl rfl rfl (hG.o (by decide) rfl) rfl rfl (Nat.le_of_ble_eq_true rfl) ?_
    refine wc_deep (show d + 2 ≤ d + 2 by omega) ?_
    refine c_growM (m := min (2 * zf) 1464) hG hF hM (by omega) rfl (fun M1 R1 K1 L1 gg => ?_)
    have pzv := hF.2.2.2.2.2
    have lz := hF.2.2.2.1
    unfold pz at pzv
    obtain ⟨mx, vk⟩ := gg.mx (s := s) (zz := zf) (m := min (2 * zf) 1464) (Or.inl rfl) h (by rw [if_pos rfl]) (by rw [if_pos rfl]) (by omega)
    rw [if_pos rfl, if_pos rfl] at mx
    have h1 := mx.1
    refine wz_if_ne (t := 25) d120_16 (by decide) ⟨by omega, by omega⟩ (fun _ => ?_) (fun hb => absurd hb (by omega))
    have ev : ∀ i : Int, M1 43 i = M 43 i := fun i => by
      have := vk 43 i (by omega) (by omega) (by omega)
      rw [cvw_o (by omega), cvw_o (by omega)] at this
      exact this
    refine push_tail h1 ((ev 9).trans e9) (by omega) (by omega) ((ev 11).trans e11) ((ev 12).trans e12) ?_
    obtain ⟨y0, y1, y2, y3, y4, y5⟩ := mfrm_view (M := M1) (k := (fr : Int)) (nd := nd) (sc := sc) (v := v) (l := l) h1
    refine hQ _ R1 K1 L1 _ _ _ (mx.trans (mfrm_mx h1 mx.2.2.2.2.2.2 ⟨by omega, by omega⟩ rn rs rv rl)) (by omega) ⟨y0, y1, y2, y3, y4⟩ (fun p i hp q1 q2 q3 => (y5 p i hp (fun e => by have := (q2 e).2; omega) q3).trans (vk p i (fun e => ⟨(q2 e).1, by have := (q2 e).2; omega⟩) q1 (by unfold LoP at hp; omega)))
end PmH3
