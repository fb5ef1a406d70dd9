/-! THE CLASS RUNS: writes, as they are seen. -/
section PmH7
variable {X : Nat} {M : pm_M} {Rf : Nat → Nat → Nat} {K L : Nat → Nat} {n zf zv zr : Nat} {p : Nat} {x i v : Int}
theorem MR.sep (h : MR X Rf K L n zf zv zr) : (∀ g, g < 4 → (Rf 43 g = 44 + g ∨ 100 ≤ Rf 43 g) ∧ (Rf 51 g = 52 + g ∨ 100 ≤ Rf 51 g)) ∧ (∀ f g, f < 4 → g < 4 → Rf 43 f ≠ Rf 51 g) ∧ (∀ f g, f < 4 → g < 4 → Rf 43 f = Rf 43 g → f = g) ∧ (∀ f g, f < 4 → g < 4 → Rf 51 f = Rf 51 g → f = g) := ⟨fun g hg => ⟨by have := h.2.1.2.1 g hg; omega, by have := h.2.2.1.2.1 g hg; omega⟩, h.2.2.2.2.1.1, h.2.1.2.2.1, h.2.2.1.2.2.1⟩
theorem cvw43 {q : Nat} (hq : q = 43 ∨ q = 51) (h : MR X Rf K L n zf zv zr) (lo : LoP p) : cvw (mset M q i v) Rf p x = if p = q ∧ x = i then v else cvw M Rf p x := by
  obtain ⟨s1, s2, s3, s4⟩ := h.sep
  unfold LoP at lo
  unfold cvw
  by_cases c1 : 94 ≤ p ∧ p ≤ 97
  · have := (s1 (p - 94) (by omega)).1
    rw [if_pos c1, if_pos c1, mset_i' (by omega), if_neg (by omega)]
  · rw [if_neg c1, if_neg c1]
    by_cases c2 : 90 ≤ p ∧ p ≤ 93
    · have := (s1 (p - 90) (by omega)).2
      rw [if_pos c2, if_pos c2, mset_i' (by omega), if_neg (by omega)]
    · rw [if_neg c2, if_neg c2]
      by_cases c3 : 87 ≤ p ∧ p ≤ 89
      · rw [if_pos c3, if_pos c3, mset_i' (by omega), if_neg (by omega)]
      · rw [if_neg c3, if_neg c3]
        rfl
theorem cvwS {g : Nat} (hg : g < 3) (h : MR X Rf K L n zf zv zr) (lo : LoP p) : cvw (mset M (48 + g) i v) Rf p x = if p = 87 + g ∧ x = i then v else cvw M Rf p x := by
  obtain ⟨s1, s2, s3, s4⟩ := h.sep
  unfold LoP at lo
  unfold cvw
  by_cases c1 : 94 ≤ p ∧ p ≤ 97
  · have := (s1 (p - 94) (by omega)).1
    rw [if_pos c1, if_pos c1, mset_i' (by omega), if_neg (by omega)]
  · rw [if_neg c1, if_neg c1]
    by_cases c2 : 90 ≤ p ∧ p ≤ 93
    · have := (s1 (p - 90) (by omega)).2
      rw [if_pos c2, if_pos c2, mset_i' (by omega), if_neg (by omega)]
    · rw [if_neg c2, if_neg c2]
      by_cases c3 : 87 ≤ p ∧ p ≤ 89
      · rw [if_pos c3, if_pos c3]
        by_cases c4 : p = 87 + g ∧ x = i
        · rw [if_pos c4, c4.2, show p - 39 = 48 + g by omega, mset_s]
        · rw [if_neg c4, mset_i' (by omega)]
      · rw [if_neg c3, if_neg c3, mset_i' (by omega), if_neg (by omega)]
theorem cvwF {g : Nat} (hg : g < 4) (h : MR X Rf K L n zf zv zr) (lo : LoP p) : cvw (mset M (Rf 43 g) i v) Rf p x = if p = 94 + g ∧ x = i then v else cvw M Rf p x := by
  obtain ⟨s1, s2, s3, s4⟩ := h.sep
  have sg := (s1 g hg).1
  unfold LoP at lo
  unfold cvw
  by_cases c1 : 94 ≤ p ∧ p ≤ 97
  · rw [if_pos c1, if_pos c1]
    by_cases c4 : p = 94 + g ∧ x = i
    · rw [if_pos c4, c4.2, show p - 94 = g by omega, mset_s]
    · rw [if_neg c4, mset_i' (fun e => c4 ⟨by have := s3 (p - 94) g (by omega) hg e.1; omega, e.2⟩)]
  · rw [if_neg c1, if_neg c1]
    by_cases c2 : 90 ≤ p ∧ p ≤ 93
    · have := s2 g (p - 90) hg (by omega)
      rw [if_pos c2, if_pos c2, mset_i' (by omega), if_neg (by omega)]
    · rw [if_neg c2, if_neg c2]
      by_cases c3 : 87 ≤ p ∧ p ≤ 89
      · rw [if_pos c3, if_pos c3, mset_i' (by omega), if_neg (by omega)]
      · rw [if_neg c3, if_neg c3, mset_i' (by omega), if_neg (by omega)]
theorem cvwV {g : Nat} (hg : g < 4) (h : MR X Rf K L n zf zv zr) (lo : LoP p) : cvw (mset M (Rf 51 g) i v) Rf p x = if p = 90 + g ∧ x = i then v else cvw M Rf p x := by
  obtain ⟨s1, s2, s3, s4⟩ := h.sep
  have sg := (s1 g hg).2
  unfold LoP at lo
  unfold cvw
  by_cases c1 : 94 ≤ p ∧ p ≤ 97
  · have := s2 (p - 94) g (by omega) hg
    rw [if_pos c1, if_pos c1, mset_i' (by omega), if_neg (by omega)]
  · rw [if_neg c1, if_neg c1]
    by_cases c2 : 90 ≤ p ∧ p ≤ 93
    · rw [if_pos c2, if_pos c2]
      by_cases c4 : p = 90 + g ∧ x = i
      · rw [if_pos c4, c4.2, show p - 90 = g by omega, mset_s]
      · rw [if_neg c4, mset_i' (fun e => c4 ⟨by have := s4 (p - 90) g (by omega) hg e.1; omega, e.2⟩)]
    · rw [if_neg c2, if_neg c2]
      by_cases c3 : 87 ≤ p ∧ p ≤ 89
      · rw [if_pos c3, if_pos c3, mset_i' (by omega), if_neg (by omega)]
      · rw [if_neg c3, if_neg c3, mset_i' (by omega), if_neg (by omega)]
end PmH7
/-- what comes of a move -/
def EnP (Q : Option Value → pm_S → Prop) (X cnt : Nat) (M : pm_M) (Rf : Nat → Nat → Nat) (K L : Nat → Nat) (n s zf zv zr st : Nat) (c : Cf) : Prop := (∀ (b : Bool) (c' : Cf) (M' : pm_M) (Rf' : Nat → Nat → Nat) (K' L' : Nat → Nat) (n' s' zf' zv' : Nat), mv c = some (b, c') → MX X M Rf K L n s zf zv zr M' Rf' K' L' n' s' zf' zv' → M' 43 16 = M 43 16 → CK (cvw M' Rf') X cnt (st + (if b = true then 1 else 0)) zf' zv' c' → Q none (zM M', Rf', K', L', n', s')) ∧ (∀ (c' : Cf) (M' : pm_M), mv c = some (true, c') → st = 60 → MX X M Rf K L n s zf zv zr M' Rf K L n s zf zv → M' 43 14 = 1 → M' 43 15 = 60 → M' 43 16 = M 43 16 → Q none (zM M', Rf, K, L, n, s))
section PmH7b
variable {d : Nat} {Q : Option Value → pm_S → Prop} {X cnt : Nat} {M : pm_M} {Rf : Nat → Nat → Nat} {K L : Nat → Nat} {n s zf zv zr st : Nat} {t ρ : Ty} {k : List Fr}
theorem c_enter5 (h : MR X Rf K L n zf zv zr) (hM : ∀ p i, R32 (M p i)) (pi : PI M X cnt 60) (c6 : cnt ≤ 60) (ck : CK (cvw M Rf) X cnt st zf zv (.inl (t, ρ, k))) (hk : nKd t = 5) (hs : ∃ v, elk ρ (nMk t) = some v) (hq : EnP Q X cnt M Rf K L n s zf zv zr st (.inl (t, ρ, k))) : pm_Wc (d + 5) 117 [.ref 43] (zM M, Rf, K, L, n, s) Q := by
  obtain ⟨vs, sc, fr, H, bk, c13, ⟨F, nv, hF⟩, ec⟩ := ck
  have bk : BK (cvw M Rf) X cnt st vs sc fr zf zv H k (vN t + vpK k) := bk
  have bkc := bk
  obtain ⟨⟨b1, b2, b3, b4, b5⟩, hh, ⟨b6, b7, b8, b9, b10⟩, fk⟩ := bkc
  have kd := nv.kd
  have hG := h.1
  have hX := h.2.2.2.2.2.2
  have r8 := h.2.2.2.2.2.1
  have vn := vN_is nv.sp
  have x1 : ∀ g : Nat, g ≤ 6 → ∀ y : Int, cvw M Rf (X + g) y = M (X + g) y := fun g hg y => cvw_o (by omega)
  have x43 : ∀ y : Int, cvw M Rf 43 y = M 43 y := fun y => cvw_o (by omega)
  have x51 : ∀ y : Int, cvw M Rf 51 y = M 51 y := fun y => cvw_o (by omega)
  rw [x43] at c13 b2 b3 b4 b5
  rw [x51] at b1
  generalize ej : M 43 11 = j at *
  have ejv : cvw M Rf 43 11 = j := by rw [x43]; exact ej
  rw [ejv] at nv kd
  obtain ⟨k1, k2, k3, k4, k5, k6, k7, k8, k9, k10⟩ := kd
  rw [x1 1 (by omega)] at k3
  have r12 := hM 43 12
  have k6 := k6 hk
  rw [x1 4 (by omega)] at k6
  rw [x1 2 (by omega)] at k6
  have hs0 : ∃ v, elk ρ (nMk t) = some v := hs
  obtain ⟨v, ek⟩ := hs0
  rcases hX with rfl | rfl
  · skip
    refine wc_in (ls0 := [some (.ref 43)]) (by decide) (Nat.le_of_ble_eq_true rfl) rfl rfl ?_
    refine wp_aload_n d117_0 rfl ?_
    refine wp_getR (q := 16) d117_1 rfl (hG.o (by decide) rfl) (by decide) r8 (by decide) ?_
    refine wp_getR (q := 17) d117_4 rfl (hG.o (by decide) rfl) (by decide) (hG.r (by decide +kernel)) (by decide) ?_
    refine wp_aload_n d117_7 rfl ?_
    refine wz_getI (v := j) d117_8 rfl (hG.o (by decide) rfl) (by decide) (ej) ?_
    refine wz_iald (z := 60) (v := 0) d117_11 (hG.a (by decide) rfl rfl) (by omega) (by omega) (by decide) (by rw [k3, hk]; rfl) ?_
    refine wp_table (t := 60) d117_12 (by decide +kernel) ?_
    refine wp_aload_n d117_60 rfl ?_
    refine wp_aload_n d117_61 rfl ?_
    refine wp_aload_n d117_62 rfl ?_
    refine wp_getR (q := 16) d117_63 rfl (hG.o (by decide) rfl) (by decide) r8 (by decide) ?_
    refine wp_getR (q := 20) d117_66 rfl (hG.o (by decide) rfl) (by decide) (hG.r (by decide +kernel)) (by decide) ?_
    refine wp_aload_n d117_69 rfl ?_
    refine wz_getI (v := j) d117_70 rfl (hG.o (by decide) rfl) (by decide) (ej) ?_
    refine wz_iald (z := 60) (v := M 20 j) d117_73 (hG.a (by decide) rfl rfl) (by omega) (by omega) (by decide) (rfl) ?_
    refine wp_virt (as := [.int (zI (M 20 j))]) (rest := [.ref 43]) d117_74 rfl rfl rfl (hG.o (by decide) rfl) rfl rfl (Nat.le_of_ble_eq_true rfl) ?_
    refine wc_deep (show d + 1 ≤ d + 4 by omega) ?_
    refine c_valueOf (sc := sc) (m := nMk t) (e := M 43 12) h hM pi c6 b2 (by omega) rfl k6.1 k6.2 (by rw [← x43]; exact ec) ek (fun i hi => ?_)
    have i0 := (hh _ _ hi).1
    have c13' : mset M 43 13 i 43 13 = i := mset_s _ _ _ _
    refine wz_putI (i := 13) d117_77 rfl (hG.o (by decide) rfl) rfl (by decide) rfl ?_
    refine wp_aload_n d117_80 rfl ?_
    refine wp_aload_n d117_81 rfl ?_
    refine wz_getI (v := i) d117_82 rfl (hG.o (by decide) rfl) (by decide) (c13') ?_
    refine wz_iconst d117_85 ?_
    refine wz_icmp_ne (t := 93) d117_86 (by decide) ⟨by omega, by omega⟩ ⟨by omega, by omega⟩ (fun _ => ?_) (fun hb => absurd hb (by omega))
    refine wz_iconst d117_93 ?_
    refine wz_putI (i := 14) d117_94 rfl (hG.o (by decide) rfl) (by decide) (by decide) rfl ?_
    refine wp_goto (t := 232) d117_97 (by decide) ?_
    have mx : MX 16 M Rf K L n s zf zv zr (mset (mset M 43 13 i) 43 14 0) Rf K L n s zf zv := ((MX.refl h hM).set (Or.inl ⟨rfl, by omega, by omega⟩) ⟨by omega, by omega⟩).set (Or.inl ⟨rfl, by omega, by omega⟩) ⟨by omega, by omega⟩
    have vw : ∀ (p : Nat) (y : Int), LoP p → ¬ (p = 43 ∧ (y = 11 ∨ y = 12 ∨ y = 13 ∨ y = 15 ∨ y = 16)) → cvw (mset (mset M 43 13 i) 43 14 0) Rf p y = cvw M Rf p y := fun p y lo ne => by
      rw [cvw43 (Or.inl rfl) h lo, cvw43 (Or.inl rfl) h lo]
      by_cases e : p = 43 ∧ y = 14
      · rw [if_pos e, e.1, e.2, x43, b4]
      · rw [if_neg e, if_neg (by omega)]
    have l43 : LoP 43 := by unfold LoP; omega
    have bk' := bk.same (V' := cvw (mset (mset M 43 13 i) 43 14 0) Rf) (st' := st) (pc' := vpK k) (Or.inl rfl) (fun p y lo ne _ _ => vw p y lo ne) (by rw [cvw43 (Or.inl rfl) h l43, cvw43 (Or.inl rfl) h l43, if_neg (by omega), if_neg (by omega), x43, b5]) (by omega) (Nat.le_refl _) b7 (Nat.le_refl _) (Nat.le_refl _)
    exact wp_ret d117_232 rfl (hq.1 false (.inr (v, k)) _ Rf K L n s zf zv (mv_5 hk ek) mx (by rw [mset_i' (by omega), mset_i' (by omega)]) ⟨vs, sc, fr, H, bk', by show H (cvw (mset (mset M 43 13 i) 43 14 0) Rf 43 13) = some v; rw [cvw43 (Or.inl rfl) h l43, cvw43 (Or.inl rfl) h l43, if_neg (by omega), if_pos ⟨rfl, rfl⟩]; exact hi⟩)
  · skip
    refine wc_in (ls0 := [some (.ref 43)]) (by decide) (Nat.le_of_ble_eq_true rfl) rfl rfl ?_
    refine wp_aload_n d117_0 rfl ?_
    refine wp_getR (q := 23) d117_1 rfl (hG.o (by decide) rfl) (by decide) r8 (by decide) ?_
    refine wp_getR (q := 24) d117_4 rfl (hG.o (by decide) rfl) (by decide) (hG.r (by decide +kernel)) (by decide) ?_
    refine wp_aload_n d117_7 rfl ?_
    refine wz_getI (v := j) d117_8 rfl (hG.o (by decide) rfl) (by decide) (ej) ?_
    refine wz_iald (z := 60) (v := 0) d117_11 (hG.a (by decide) rfl rfl) (by omega) (by omega) (by decide) (by rw [k3, hk]; rfl) ?_
    refine wp_table (t := 60) d117_12 (by decide +kernel) ?_
    refine wp_aload_n d117_60 rfl ?_
    refine wp_aload_n d117_61 rfl ?_
    refine wp_aload_n d117_62 rfl ?_
    refine wp_getR (q := 23) d117_63 rfl (hG.o (by decide) rfl) (by decide) r8 (by decide) ?_
    refine wp_getR (q := 27) d117_66 rfl (hG.o (by decide) rfl) (by decide) (hG.r (by decide +kernel)) (by decide) ?_
    refine wp_aload_n d117_69 rfl ?_
    refine wz_getI (v := j) d117_70 rfl (hG.o (by decide) rfl) (by decide) (ej) ?_
    refine wz_iald (z := 60) (v := M 27 j) d117_73 (hG.a (by decide) rfl rfl) (by omega) (by omega) (by decide) (rfl) ?_
    refine wp_virt (as := [.int (zI (M 27 j))]) (rest := [.ref 43]) d117_74 rfl rfl rfl (hG.o (by decide) rfl) rfl rfl (Nat.le_of_ble_eq_true rfl) ?_
    refine wc_deep (show d + 1 ≤ d + 4 by omega) ?_
    refine c_valueOf (sc := sc) (m := nMk t) (e := M 43 12) h hM pi c6 b2 (by omega) rfl k6.1 k6.2 (by rw [← x43]; exact ec) ek (fun i hi => ?_)
    have i0 := (hh _ _ hi).1
    have c13' : mset M 43 13 i 43 13 = i := mset_s _ _ _ _
    refine wz_putI (i := 13) d117_77 rfl (hG.o (by decide) rfl) rfl (by decide) rfl ?_
    refine wp_aload_n d117_80 rfl ?_
    refine wp_aload_n d117_81 rfl ?_
    refine wz_getI (v := i) d117_82 rfl (hG.o (by decide) rfl) (by decide) (c13') ?_
    refine wz_iconst d117_85 ?_
    refine wz_icmp_ne (t := 93) d117_86 (by decide) ⟨by omega, by omega⟩ ⟨by omega, by omega⟩ (fun _ => ?_) (fun hb => absurd hb (by omega))
    refine wz_iconst d117_93 ?_
    refine wz_putI (i := 14) d117_94 rfl (hG.o (by decide) rfl) (by decide) (by decide) rfl ?_
    refine wp_goto (t := 232) d117_97 (by decide) ?_
    have mx : MX 23 M Rf K L n s zf zv zr (mset (mset M 43 13 i) 43 14 0) Rf K L n s zf zv := ((MX.refl h hM).set (Or.inl ⟨rfl, by omega, by omega⟩) ⟨by omega, by omega⟩).set (Or.inl ⟨rfl, by omega, by omega⟩) ⟨by omega, by omega⟩
    have vw : ∀ (p : Nat) (y : Int), LoP p → ¬ (p = 43 ∧ (y = 11 ∨ y = 12 ∨ y = 13 ∨ y = 15 ∨ y = 16)) → cvw (mset (mset M 43 13 i) 43 14 0) Rf p y = cvw M Rf p y := fun p y lo ne => by
      rw [cvw43 (Or.inl rfl) h lo, cvw43 (Or.inl rfl) h lo]
      by_cases e : p = 43 ∧ y = 14
      · rw [if_pos e, e.1, e.2, x43, b4]
      · rw [if_neg e, if_neg (by omega)]
    have l43 : LoP 43 := by unfold LoP; omega
    have bk' := bk.same (V' := cvw (mset (mset M 43 13 i) 43 14 0) Rf) (st' := st) (pc' := vpK k) (Or.inr rfl) (fun p y lo ne _ _ => vw p y lo ne) (by rw [cvw43 (Or.inl rfl) h l43, cvw43 (Or.inl rfl) h l43, if_neg (by omega), if_neg (by omega), x43, b5]) (by omega) (Nat.le_refl _) b7 (Nat.le_refl _) (Nat.le_refl _)
    exact wp_ret d117_232 rfl (hq.1 false (.inr (v, k)) _ Rf K L n s zf zv (mv_5 hk ek) mx (by rw [mset_i' (by omega), mset_i' (by omega)]) ⟨vs, sc, fr, H, bk', by show H (cvw (mset (mset M 43 13 i) 43 14 0) Rf 43 13) = some v; rw [cvw43 (Or.inl rfl) h l43, cvw43 (Or.inl rfl) h l43, if_neg (by omega), if_pos ⟨rfl, rfl⟩]; exact hi⟩)
end PmH7b
