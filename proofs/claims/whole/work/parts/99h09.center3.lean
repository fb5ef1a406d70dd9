/-! THE CLASS: a choice, a record. -/
section PmH9
variable {d : Nat} {Q : Option Value → pm_S → Prop} {X cnt : Nat} {M : pm_M} {Rf : Nat → Nat → Nat} {K L : Nat → Nat} {n s zf zv zr st : Nat} {t ρ : Ty} {k : List Fr}
theorem c_enter12 (h : MR X Rf K L n zf zv zr) (hM : ∀ p i, R32 (M p i)) (pi : PI M X cnt 60) (c6 : cnt ≤ 60) (ck : CK (cvw M Rf) X cnt st zf zv (.inl (t, ρ, k))) (hk : nKd t = 12) (hq : EnP Q X cnt M Rf K L n s zf zv zr st (.inl (t, ρ, k))) : pm_Wc (d + 5) 117 [.ref 43] (zM M, Rf, K, L, n, s) Q := by
  obtain ⟨vs, sc, fr, H, bk, c13, ⟨F, nv, hF⟩, ec⟩ := ck
  have bk : BK (cvw M Rf) X cnt st vs sc fr zf zv H k (vN t + vpK k) := bk
  have bkc := bk
  obtain ⟨⟨b1, b2, b3, b4, b5⟩, hh, ⟨b6, b7, b8, b9, b10⟩, fk⟩ := bkc
  have kd := nv.kd
  have hG := h.1
  have hX := h.2.2.2.2.2.2
  have r8 := h.2.2.2.2.2.1
  have vn := vN_is nv.sp
  have x1 : ∀ g : Nat, g ≤ 6 → ∀ y : Int, cvw M Rf (X + g) y = M (X + g) y := fun g hg y => cvw_o (by omega)
  have x43 : ∀ y : Int, cvw M Rf 43 y = M 43 y := fun y => cvw_o (by omega)
  have x51 : ∀ y : Int, cvw M Rf 51 y = M 51 y := fun y => cvw_o (by omega)
  rw [x43] at c13 b2 b3 b4 b5
  rw [x51] at b1
  generalize ej : M 43 11 = j at *
  have ejv : cvw M Rf 43 11 = j := by rw [x43]; exact ej
  rw [ejv] at nv kd
  obtain ⟨k1, k2, k3, k4, k5, k6, k7, k8, k9, k10⟩ := kd
  rw [x1 1 (by omega)] at k3
  have r12 := hM 43 12
  have k9 := k9 hk
  have k5 := k5 (by omega)
  rw [x1 3 (by omega)] at k5
  have hX0 := hX
  have vxy : vN (nX t) + vN (nY t) ≤ vN t := by omega
  have nx := nv.x (by omega)
  have ny := nv.y (by omega)
  have l43 : LoP 43 := by unfold LoP; omega
  rcases hX with rfl | rfl
  · skip
    refine wc_in (ls0 := [some (.ref 43)]) (by decide) (Nat.le_of_ble_eq_true rfl) rfl rfl ?_
    refine wp_aload_n d117_0 rfl ?_
    refine wp_getR (q := 16) d117_1 rfl (hG.o (by decide) rfl) (by decide) r8 (by decide) ?_
    refine wp_getR (q := 17) d117_4 rfl (hG.o (by decide) rfl) (by decide) (hG.r (by decide +kernel)) (by decide) ?_
    refine wp_aload_n d117_7 rfl ?_
    refine wz_getI (v := j) d117_8 rfl (hG.o (by decide) rfl) (by decide) (ej) ?_
    refine wz_iald (z := 60) (v := 7) d117_11 (hG.a (by decide) rfl rfl) (by omega) (by omega) (by decide) (by rw [k3, hk]; rfl) ?_
    refine wp_table (t := 146) d117_12 (by decide +kernel) ?_
    refine wp_aload_n d117_146 rfl ?_
    refine wp_virt (as := []) (rest := []) d117_147 rfl rfl rfl (hG.o (by decide) rfl) rfl rfl (Nat.le_of_ble_eq_true rfl) ?_
    refine wc_deep (show d + 3 + 1 ≤ d + 4 by omega) ?_
    refine c_countStep (st := st) hG b5 b7 (fun h60 => ?_) (fun h60 => ?_)
    · skip
      refine wz_if_eq (t := 232) d117_150 (by decide) ⟨by omega, by omega⟩ (fun hb => absurd hb (by omega)) (fun _ => ?_)
      refine wp_aload_n d117_153 rfl ?_
      refine wp_aload_n d117_154 rfl ?_
      refine wp_getR (q := 16) d117_155 rfl (hG.o (by decide) rfl) (by decide) r8 (by decide) ?_
      refine wp_getR (q := 19) d117_158 rfl (hG.o (by decide) rfl) (by decide) (hG.r (by decide +kernel)) (by decide) ?_
      refine wp_aload_n d117_161 rfl ?_
      refine wz_getI (v := j) d117_162 rfl (hG.o (by decide) rfl) (by decide) (by rw [mset_i' (by omega)]; exact ej) ?_
      refine wz_iald (z := 60) (v := (nMk t : Int)) d117_165 (hG.a (by decide) rfl rfl) (by omega) (by omega) (by decide) (by rw [mset_i' (by omega)]; exact k5) ?_
      refine wz_if_ne (t := 184) d117_166 (by decide) ⟨by omega, by omega⟩ (fun hm => ?_) (fun hm => ?_)
      · skip
        refine wp_aload_n d117_184 rfl ?_
        refine wp_getR (q := 16) d117_185 rfl (hG.o (by decide) rfl) (by decide) r8 (by decide) ?_
        refine wp_getR (q := 21) d117_188 rfl (hG.o (by decide) rfl) (by decide) (hG.r (by decide +kernel)) (by decide) ?_
        refine wp_aload_n d117_191 rfl ?_
        refine wz_getI (v := j) d117_192 rfl (hG.o (by decide) rfl) (by decide) (by rw [mset_i' (by omega)]; exact ej) ?_
        refine wz_iald (z := 60) (v := M 21 j) d117_195 (hG.a (by decide) rfl rfl) (by omega) (by omega) (by decide) (mset_i' (by omega)) ?_
        refine wp_aload_n d117_196 rfl ?_
        refine wz_getI (v := M 43 12) d117_197 rfl (hG.o (by decide) rfl) (by decide) (mset_i' (by omega)) ?_
        refine wp_virt (as := [.int (zI (M 43 12)), .int (zI (M 21 j))]) (rest := []) d117_200 rfl rfl rfl (hG.o (by decide) rfl) rfl rfl (Nat.le_of_ble_eq_true rfl) ?_
        refine wc_deep (show d + 3 + 1 ≤ d + 4 by omega) ?_
        refine c_goTo hG ?_
        refine wp_goto (t := 232) d117_203 (by decide) ?_
        have mx : MX 16 M Rf K L n s zf zv zr (mset (mset (mset (mset M 43 15 ((st : Int) + 1)) 43 11 (M 21 j)) 43 12 (M 43 12)) 43 13 (-1)) Rf K L n s zf zv := ((((MX.refl h hM).set (Or.inl ⟨rfl, by omega, by omega⟩) ⟨by omega, by omega⟩).set (Or.inl ⟨rfl, by omega, by omega⟩) (hM _ _)).set (Or.inl ⟨rfl, by omega, by omega⟩) r12).set (Or.inl ⟨rfl, by omega, by omega⟩) ⟨by omega, by omega⟩
        have vm : ∀ (p : Nat) (y : Int), LoP p → ¬ (p = 43 ∧ (y = 11 ∨ y = 12 ∨ y = 13 ∨ y = 15 ∨ y = 16)) → cvw (mset (mset (mset (mset M 43 15 ((st : Int) + 1)) 43 11 (M 21 j)) 43 12 (M 43 12)) 43 13 (-1)) Rf p y = cvw M Rf p y := fun p y lo hn => by
          rw [cvw43 (Or.inl rfl) h lo, cvw43 (Or.inl rfl) h lo, cvw43 (Or.inl rfl) h lo, cvw43 (Or.inl rfl) h lo, if_neg (by omega), if_neg (by omega), if_neg (by omega), if_neg (by omega)]
        have b' := bk.same (V' := cvw (mset (mset (mset (mset M 43 15 ((st : Int) + 1)) 43 11 (M 21 j)) 43 12 (M 43 12)) 43 13 (-1)) Rf) (st' := st + 1) (pc' := vN (nY t) + vpK k) hX0 (fun p y lo ne _ _ => vm p y lo ne) (by rw [cvw43 (Or.inl rfl) h l43, cvw43 (Or.inl rfl) h l43, cvw43 (Or.inl rfl) h l43, cvw43 (Or.inl rfl) h l43, if_neg (by omega), if_neg (by omega), if_neg (by omega), if_pos ⟨rfl, rfl⟩]; rfl) (by omega) (by omega) (by omega) (Nat.le_refl _) (Nat.le_refl _)
        have kx : ∀ (p : Nat) (y : Int), 16 + 1 ≤ p → p ≤ 16 + 6 → cvw (mset (mset (mset (mset M 43 15 ((st : Int) + 1)) 43 11 (M 21 j)) 43 12 (M 43 12)) 43 13 (-1)) Rf p y = cvw M Rf p y := fun p y p1 p2 => vm p y (by unfold LoP; omega) (by omega)
        have ea : ECe (cvw (mset (mset (mset (mset M 43 15 ((st : Int) + 1)) 43 11 (M 21 j)) 43 12 (M 43 12)) 43 13 (-1)) Rf) 16 cnt sc H ρ (M 43 12) := by rw [← x43]; exact ec.keep kx (fun p y p1 p2 _ _ => vm p y (by unfold LoP; omega) (by omega)) (fun _ _ x => x) (Nat.le_refl _)
        have nxk := ny.keep (V' := cvw (mset (mset (mset (mset M 43 15 ((st : Int) + 1)) 43 11 (M 21 j)) 43 12 (M 43 12)) 43 13 (-1)) Rf) kx
        rw [x1 5 (by omega)] at nxk
        have em : mv (.inl (t, ρ, k)) = some (true, .inl (nY t, ρ, k)) := by rw [mv_12 hk, if_neg (by omega)]
        exact wp_ret d117_232 rfl (hq.1 true _ _ Rf K L n s zf zv em mx (by rw [mset_i' (by omega), mset_i' (by omega), mset_i' (by omega), mset_i' (by omega)]) ⟨vs, sc, fr, H, b', by rw [cvw43 (Or.inl rfl) h l43, if_pos ⟨rfl, rfl⟩], ⟨F - 1, by rw [cvw43 (Or.inl rfl) h l43, cvw43 (Or.inl rfl) h l43, cvw43 (Or.inl rfl) h l43, if_neg (by omega), if_neg (by omega), if_pos ⟨rfl, rfl⟩]; exact nxk, by show fr + (F - 1) ≤ 24 * (st + 1 + 1); omega⟩, by rw [cvw43 (Or.inl rfl) h l43, cvw43 (Or.inl rfl) h l43, if_neg (by omega), if_pos ⟨rfl, rfl⟩]; exact ea⟩)
      · skip
        refine wp_aload_n d117_169 rfl ?_
        refine wp_getR (q := 16) d117_170 rfl (hG.o (by decide) rfl) (by decide) r8 (by decide) ?_
        refine wp_getR (q := 20) d117_173 rfl (hG.o (by decide) rfl) (by decide) (hG.r (by decide +kernel)) (by decide) ?_
        refine wp_aload_n d117_176 rfl ?_
        refine wz_getI (v := j) d117_177 rfl (hG.o (by decide) rfl) (by decide) (by rw [mset_i' (by omega)]; exact ej) ?_
        refine wz_iald (z := 60) (v := M 20 j) d117_180 (hG.a (by decide) rfl rfl) (by omega) (by omega) (by decide) (mset_i' (by omega)) ?_
        refine wp_goto (t := 196) d117_181 (by decide) ?_
        refine wp_aload_n d117_196 rfl ?_
        refine wz_getI (v := M 43 12) d117_197 rfl (hG.o (by decide) rfl) (by decide) (mset_i' (by omega)) ?_
        refine wp_virt (as := [.int (zI (M 43 12)), .int (zI (M 20 j))]) (rest := []) d117_200 rfl rfl rfl (hG.o (by decide) rfl) rfl rfl (Nat.le_of_ble_eq_true rfl) ?_
        refine wc_deep (show d + 3 + 1 ≤ d + 4 by omega) ?_
        refine c_goTo hG ?_
        refine wp_goto (t := 232) d117_203 (by decide) ?_
        have mx : MX 16 M Rf K L n s zf zv zr (mset (mset (mset (mset M 43 15 ((st : Int) + 1)) 43 11 (M 20 j)) 43 12 (M 43 12)) 43 13 (-1)) Rf K L n s zf zv := ((((MX.refl h hM).set (Or.inl ⟨rfl, by omega, by omega⟩) ⟨by omega, by omega⟩).set (Or.inl ⟨rfl, by omega, by omega⟩) (hM _ _)).set (Or.inl ⟨rfl, by omega, by omega⟩) r12).set (Or.inl ⟨rfl, by omega, by omega⟩) ⟨by omega, by omega⟩
        have vm : ∀ (p : Nat) (y : Int), LoP p → ¬ (p = 43 ∧ (y = 11 ∨ y = 12 ∨ y = 13 ∨ y = 15 ∨ y = 16)) → cvw (mset (mset (mset (mset M 43 15 ((st : Int) + 1)) 43 11 (M 20 j)) 43 12 (M 43 12)) 43 13 (-1)) Rf p y = cvw M Rf p y := fun p y lo hn => by
          rw [cvw43 (Or.inl rfl) h lo, cvw43 (Or.inl rfl) h lo, cvw43 (Or.inl rfl) h lo, cvw43 (Or.inl rfl) h lo, if_neg (by omega), if_neg (by omega), if_neg (by omega), if_neg (by omega)]
        have b' := bk.same (V' := cvw (mset (mset (mset (mset M 43 15 ((st : Int) + 1)) 43 11 (M 20 j)) 43 12 (M 43 12)) 43 13 (-1)) Rf) (st' := st + 1) (pc' := vN (nX t) + vpK k) hX0 (fun p y lo ne _ _ => vm p y lo ne) (by rw [cvw43 (Or.inl rfl) h l43, cvw43 (Or.inl rfl) h l43, cvw43 (Or.inl rfl) h l43, cvw43 (Or.inl rfl) h l43, if_neg (by omega), if_neg (by omega), if_neg (by omega), if_pos ⟨rfl, rfl⟩]; rfl) (by omega) (by omega) (by omega) (Nat.le_refl _) (Nat.le_refl _)
        have kx : ∀ (p : Nat) (y : Int), 16 + 1 ≤ p → p ≤ 16 + 6 → cvw (mset (mset (mset (mset M 43 15 ((st : Int) + 1)) 43 11 (M 20 j)) 43 12 (M 43 12)) 43 13 (-1)) Rf p y = cvw M Rf p y := fun p y p1 p2 => vm p y (by unfold LoP; omega) (by omega)
        have ea : ECe (cvw (mset (mset (mset (mset M 43 15 ((st : Int) + 1)) 43 11 (M 20 j)) 43 12 (M 43 12)) 43 13 (-1)) Rf) 16 cnt sc H ρ (M 43 12) := by rw [← x43]; exact ec.keep kx (fun p y p1 p2 _ _ => vm p y (by unfold LoP; omega) (by omega)) (fun _ _ x => x) (Nat.le_refl _)
        have nxk := nx.keep (V' := cvw (mset (mset (mset (mset M 43 15 ((st : Int) + 1)) 43 11 (M 20 j)) 43 12 (M 43 12)) 43 13 (-1)) Rf) kx
        rw [x1 4 (by omega)] at nxk
        have em : mv (.inl (t, ρ, k)) = some (true, .inl (nX t, ρ, k)) := by rw [mv_12 hk, if_pos (by omega)]
        exact wp_ret d117_232 rfl (hq.1 true _ _ Rf K L n s zf zv em mx (by rw [mset_i' (by omega), mset_i' (by omega), mset_i' (by omega), mset_i' (by omega)]) ⟨vs, sc, fr, H, b', by rw [cvw43 (Or.inl rfl) h l43, if_pos ⟨rfl, rfl⟩], ⟨F - 1, by rw [cvw43 (Or.inl rfl) h l43, cvw43 (Or.inl rfl) h l43, cvw43 (Or.inl rfl) h l43, if_neg (by omega), if_neg (by omega), if_pos ⟨rfl, rfl⟩]; exact nxk, by show fr + (F - 1) ≤ 24 * (st + 1 + 1); omega⟩, by rw [cvw43 (Or.inl rfl) h l43, cvw43 (Or.inl rfl) h l43, if_neg (by omega), if_pos ⟨rfl, rfl⟩]; exact ea⟩)
    · skip
      refine wz_if_eq (t := 232) d117_150 (by decide) ⟨by omega, by omega⟩ (fun _ => ?_) (fun hb => absurd (by omega) hb)
      exact wp_ret d117_232 rfl (hq.2 _ _ (mv_12 hk) h60 ((MX.refl h hM).set (Or.inl ⟨rfl, by omega, by omega⟩) ⟨by omega, by omega⟩) (mset_s _ _ _ _) (by rw [mset_i' (by omega), b5, h60]; rfl) (mset_i' (by omega)))
  · skip
    refine wc_in (ls0 := [some (.ref 43)]) (by decide) (Nat.le_of_ble_eq_true rfl) rfl rfl ?_
    refine wp_aload_n d117_0 rfl ?_
    refine wp_getR (q := 23) d117_1 rfl (hG.o (by decide) rfl) (by decide) r8 (by decide) ?_
    refine wp_getR (q := 24) d117_4 rfl (hG.o (by decide) rfl) (by decide) (hG.r (by decide +kernel)) (by decide) ?_
    refine wp_aload_n d117_7 rfl ?_
    refine wz_getI (v := j) d117_8 rfl (hG.o (by decide) rfl) (by decide) (ej) ?_
    refine wz_iald (z := 60) (v := 7) d117_11 (hG.a (by decide) rfl rfl) (by omega) (by omega) (by decide) (by rw [k3, hk]; rfl) ?_
    refine wp_table (t := 146) d117_12 (by decide +kernel) ?_
    refine wp_aload_n d117_146 rfl ?_
    refine wp_virt (as := []) (rest := []) d117_147 rfl rfl rfl (hG.o (by decide) rfl) rfl rfl (Nat.le_of_ble_eq_true rfl) ?_
    refine wc_deep (show d + 3 + 1 ≤ d + 4 by omega) ?_
    refine c_countStep (st := st) hG b5 b7 (fun h60 => ?_) (fun h60 => ?_)
    · skip
      refine wz_if_eq (t := 232) d117_150 (by decide) ⟨by omega, by omega⟩ (fun hb => absurd hb (by omega)) (fun _ => ?_)
      refine wp_aload_n d117_153 rfl ?_
      refine wp_aload_n d117_154 rfl ?_
      refine wp_getR (q := 23) d117_155 rfl (hG.o (by decide) rfl) (by decide) r8 (by decide) ?_
      refine wp_getR (q := 26) d117_158 rfl (hG.o (by decide) rfl) (by decide) (hG.r (by decide +kernel)) (by decide) ?_
      refine wp_aload_n d117_161 rfl ?_
      refine wz_getI (v := j) d117_162 rfl (hG.o (by decide) rfl) (by decide) (by rw [mset_i' (by omega)]; exact ej) ?_
      refine wz_iald (z := 60) (v := (nMk t : Int)) d117_165 (hG.a (by decide) rfl rfl) (by omega) (by omega) (by decide) (by rw [mset_i' (by omega)]; exact k5) ?_
      refine wz_if_ne (t := 184) d117_166 (by decide) ⟨by omega, by omega⟩ (fun hm => ?_) (fun hm => ?_)
      · skip
        refine wp_aload_n d117_184 rfl ?_
        refine wp_getR (q := 23) d117_185 rfl (hG.o (by decide) rfl) (by decide) r8 (by decide) ?_
        refine wp_getR (q := 28) d117_188 rfl (hG.o (by decide) rfl) (by decide) (hG.r (by decide +kernel)) (by decide) ?_
        refine wp_aload_n d117_191 rfl ?_
        refine wz_getI (v := j) d117_192 rfl (hG.o (by decide) rfl) (by decide) (by rw [mset_i' (by omega)]; exact ej) ?_
        refine wz_iald (z := 60) (v := M 28 j) d117_195 (hG.a (by decide) rfl rfl) (by omega) (by omega) (by decide) (mset_i' (by omega)) ?_
        refine wp_aload_n d117_196 rfl ?_
        refine wz_getI (v := M 43 12) d117_197 rfl (hG.o (by decide) rfl) (by decide) (mset_i' (by omega)) ?_
        refine wp_virt (as := [.int (zI (M 43 12)), .int (zI (M 28 j))]) (rest := []) d117_200 rfl rfl rfl (hG.o (by decide) rfl) rfl rfl (Nat.le_of_ble_eq_true rfl) ?_
        refine wc_deep (show d + 3 + 1 ≤ d + 4 by omega) ?_
        refine c_goTo hG ?_
        refine wp_goto (t := 232) d117_203 (by decide) ?_
        have mx : MX 23 M Rf K L n s zf zv zr (mset (mset (mset (mset M 43 15 ((st : Int) + 1)) 43 11 (M 28 j)) 43 12 (M 43 12)) 43 13 (-1)) Rf K L n s zf zv := ((((MX.refl h hM).set (Or.inl ⟨rfl, by omega, by omega⟩) ⟨by omega, by omega⟩).set (Or.inl ⟨rfl, by omega, by omega⟩) (hM _ _)).set (Or.inl ⟨rfl, by omega, by omega⟩) r12).set (Or.inl ⟨rfl, by omega, by omega⟩) ⟨by omega, by omega⟩
        have vm : ∀ (p : Nat) (y : Int), LoP p → ¬ (p = 43 ∧ (y = 11 ∨ y = 12 ∨ y = 13 ∨ y = 15 ∨ y = 16)) → cvw (mset (mset (mset (mset M 43 15 ((st : Int) + 1)) 43 11 (M 28 j)) 43 12 (M 43 12)) 43 13 (-1)) Rf p y = cvw M Rf p y := fun p y lo hn => by
          rw [cvw43 (Or.inl rfl) h lo, cvw43 (Or.inl rfl) h lo, cvw43 (Or.inl rfl) h lo, cvw43 (Or.inl rfl) h lo, if_neg (by omega), if_neg (by omega), if_neg (by omega), if_neg (by omega)]
        have b' := bk.same (V' := cvw (mset (mset (mset (mset M 43 15 ((st : Int) + 1)) 43 11 (M 28 j)) 43 12 (M 43 12)) 43 13 (-1)) Rf) (st' := st + 1) (pc' := vN (nY t) + vpK k) hX0 (fun p y lo ne _ _ => vm p y lo ne) (by rw [cvw43 (Or.inl rfl) h l43, cvw43 (Or.inl rfl) h l43, cvw43 (Or.inl rfl) h l43, cvw43 (Or.inl rfl) h l43, if_neg (by omega), if_neg (by omega), if_neg (by omega), if_pos ⟨rfl, rfl⟩]; rfl) (by omega) (by omega) (by omega) (Nat.le_refl _) (Nat.le_refl _)
        have kx : ∀ (p : Nat) (y : Int), 23 + 1 ≤ p → p ≤ 23 + 6 → cvw (mset (mset (mset (mset M 43 15 ((st : Int) + 1)) 43 11 (M 28 j)) 43 12 (M 43 12)) 43 13 (-1)) Rf p y = cvw M Rf p y := fun p y p1 p2 => vm p y (by unfold LoP; omega) (by omega)
        have ea : ECe (cvw (mset (mset (mset (mset M 43 15 ((st : Int) + 1)) 43 11 (M 28 j)) 43 12 (M 43 12)) 43 13 (-1)) Rf) 23 cnt sc H ρ (M 43 12) := by rw [← x43]; exact ec.keep kx (fun p y p1 p2 _ _ => vm p y (by unfold LoP; omega) (by omega)) (fun _ _ x => x) (Nat.le_refl _)
        have nxk := ny.keep (V' := cvw (mset (mset (mset (mset M 43 15 ((st : Int) + 1)) 43 11 (M 28 j)) 43 12 (M 43 12)) 43 13 (-1)) Rf) kx
        rw [x1 5 (by omega)] at nxk
        have em : mv (.inl (t, ρ, k)) = some (true, .inl (nY t, ρ, k)) := by rw [mv_12 hk, if_neg (by omega)]
        exact wp_ret d117_232 rfl (hq.1 true _ _ Rf K L n s zf zv em mx (by rw [mset_i' (by omega), mset_i' (by omega), mset_i' (by omega), mset_i' (by omega)]) ⟨vs, sc, fr, H, b', by rw [cvw43 (Or.inl rfl) h l43, if_pos ⟨rfl, rfl⟩], ⟨F - 1, by rw [cvw43 (Or.inl rfl) h l43, cvw43 (Or.inl rfl) h l43, cvw43 (Or.inl rfl) h l43, if_neg (by omega), if_neg (by omega), if_pos ⟨rfl, rfl⟩]; exact nxk, by show fr + (F - 1) ≤ 24 * (st + 1 + 1); omega⟩, by rw [cvw43 (Or.inl rfl) h l43, cvw43 (Or.inl rfl) h l43, if_neg (by omega), if_pos ⟨rfl, rfl⟩]; exact ea⟩)
      · skip
        refine wp_aload_n d117_169 rfl ?_
        refine wp_getR (q := 23) d117_170 rfl (hG.o (by decide) rfl) (by decide) r8 (by decide) ?_
        refine wp_getR (q := 27) d117_173 rfl (hG.o (by decide) rfl) (by decide) (hG.r (by decide +kernel)) (by decide) ?_
        refine wp_aload_n d117_176 rfl ?_
        refine wz_getI (v := j) d117_177 rfl (hG.o (by decide) rfl) (by decide) (by rw [mset_i' (by omega)]; exact ej) ?_
        refine wz_iald (z := 60) (v := M 27 j) d117_180 (hG.a (by decide) rfl rfl) (by omega) (by omega) (by decide) (mset_i' (by omega)) ?_
        refine wp_goto (t := 196) d117_181 (by decide) ?_
        refine wp_aload_n d117_196 rfl ?_
        refine wz_getI (v := M 43 12) d117_197 rfl (hG.o (by decide) rfl) (by decide) (mset_i' (by omega)) ?_
        refine wp_virt (as := [.int (zI (M 43 12)), .int (zI (M 27 j))]) (rest := []) d117_200 rfl rfl rfl (hG.o (by decide) rfl) rfl rfl (Nat.le_of_ble_eq_true rfl) ?_
        refine wc_deep (show d + 3 + 1 ≤ d + 4 by omega) ?_
        refine c_goTo hG ?_
        refine wp_goto (t := 232) d117_203 (by decide) ?_
        have mx : MX 23 M Rf K L n s zf zv zr (mset (mset (mset (mset M 43 15 ((st : Int) + 1)) 43 11 (M 27 j)) 43 12 (M 43 12)) 43 13 (-1)) Rf K L n s zf zv := ((((MX.refl h hM).set (Or.inl ⟨rfl, by omega, by omega⟩) ⟨by omega, by omega⟩).set (Or.inl ⟨rfl, by omega, by omega⟩) (hM _ _)).set (Or.inl ⟨rfl, by omega, by omega⟩) r12).set (Or.inl ⟨rfl, by omega, by omega⟩) ⟨by omega, by omega⟩
        have vm : ∀ (p : Nat) (y : Int), LoP p → ¬ (p = 43 ∧ (y = 11 ∨ y = 12 ∨ y = 13 ∨ y = 15 ∨ y = 16)) → cvw (mset (mset (mset (mset M 43 15 ((st : Int) + 1)) 43 11 (M 27 j)) 43 12 (M 43 12)) 43 13 (-1)) Rf p y = cvw M Rf p y := fun p y lo hn => by
          rw [cvw43 (Or.inl rfl) h lo, cvw43 (Or.inl rfl) h lo, cvw43 (Or.inl rfl) h lo, cvw43 (Or.inl rfl) h lo, if_neg (by omega), if_neg (by omega), if_neg (by omega), if_neg (by omega)]
        have b' := bk.same (V' := cvw (mset (mset (mset (mset M 43 15 ((st : Int) + 1)) 43 11 (M 27 j)) 43 12 (M 43 12)) 43 13 (-1)) Rf) (st' := st + 1) (pc' := vN (nX t) + vpK k) hX0 (fun p y lo ne _ _ => vm p y lo ne) (by rw [cvw43 (Or.inl rfl) h l43, cvw43 (Or.inl rfl) h l43, cvw43 (Or.inl rfl) h l43, cvw43 (Or.inl rfl) h l43, if_neg (by omega), if_neg (by omega), if_neg (by omega), if_pos ⟨rfl, rfl⟩]; rfl) (by omega) (by omega) (by omega) (Nat.le_refl _) (Nat.le_refl _)
        have kx : ∀ (p : Nat) (y : Int), 23 + 1 ≤ p → p ≤ 23 + 6 → cvw (mset (mset (mset (mset M 43 15 ((st : Int) + 1)) 43 11 (M 27 j)) 43 12 (M 43 12)) 43 13 (-1)) Rf p y = cvw M Rf p y := fun p y p1 p2 => vm p y (by unfold LoP; omega) (by omega)
        have ea : ECe (cvw (mset (mset (mset (mset M 43 15 ((st : Int) + 1)) 43 11 (M 27 j)) 43 12 (M 43 12)) 43 13 (-1)) Rf) 23 cnt sc H ρ (M 43 12) := by rw [← x43]; exact ec.keep kx (fun p y p1 p2 _ _ => vm p y (by unfold LoP; omega) (by omega)) (fun _ _ x => x) (Nat.le_refl _)
        have nxk := nx.keep (V' := cvw (mset (mset (mset (mset M 43 15 ((st : Int) + 1)) 43 11 (M 27 j)) 43 12 (M 43 12)) 43 13 (-1)) Rf) kx
        rw [x1 4 (by omega)] at nxk
        have em : mv (.inl (t, ρ, k)) = some (true, .inl (nX t, ρ, k)) := by rw [mv_12 hk, if_pos (by omega)]
        exact wp_ret d117_232 rfl (hq.1 true _ _ Rf K L n s zf zv em mx (by rw [mset_i' (by omega), mset_i' (by omega), mset_i' (by omega), mset_i' (by omega)]) ⟨vs, sc, fr, H, b', by rw [cvw43 (Or.inl rfl) h l43, if_pos ⟨rfl, rfl⟩], ⟨F - 1, by rw [cvw43 (Or.inl rfl) h l43, cvw43 (Or.inl rfl) h l43, cvw43 (Or.inl rfl) h l43, if_neg (by omega), if_neg (by omega), if_pos ⟨rfl, rfl⟩]; exact nxk, by show fr + (F - 1) ≤ 24 * (st + 1 + 1); omega⟩, by rw [cvw43 (Or.inl rfl) h l43, cvw43 (Or.inl rfl) h l43, if_neg (by omega), if_pos ⟨rfl, rfl⟩]; exact ea⟩)
    · skip
      refine wz_if_eq (t := 232) d117_150 (by decide) ⟨by omega, by omega⟩ (fun _ => ?_) (fun hb => absurd (by omega) hb)
      exact wp_ret d117_232 rfl (hq.2 _ _ (mv_12 hk) h60 ((MX.refl h hM).set (Or.inl ⟨rfl, by omega, by omega⟩) ⟨by omega, by omega⟩) (mset_s _ _ _ _) (by rw [mset_i' (by omega), b5, h60]; rfl) (mset_i' (by omega)))
theorem c_enter10 (h : MR X Rf K L n zf zv zr) (hM : ∀ p i, R32 (M p i)) (pi : PI M X cnt 60) (c6 : cnt ≤ 60) (ck : CK (cvw M Rf) X cnt st zf zv (.inl (t, ρ, k))) (hk : nKd t = 10) (hq : EnP Q X cnt M Rf K L n s zf zv zr st (.inl (t, ρ, k))) : pm_Wc (d + 5) 117 [.ref 43] (zM M, Rf, K, L, n, s) Q := by
  obtain ⟨vs, sc, fr, H, bk, c13, ⟨F, nv, hF⟩, ec⟩ := ck
  have bk : BK (cvw M Rf) X cnt st vs sc fr zf zv H k (vN t + vpK k) := bk
  have bkc := bk
  obtain ⟨⟨b1, b2, b3, b4, b5⟩, hh, ⟨b6, b7, b8, b9, b10⟩, fk⟩ := bkc
  have kd := nv.kd
  have hG := h.1
  have hX := h.2.2.2.2.2.2
  have r8 := h.2.2.2.2.2.1
  have vn := vN_is nv.sp
  have x1 : ∀ g : Nat, g ≤ 6 → ∀ y : Int, cvw M Rf (X + g) y = M (X + g) y := fun g hg y => cvw_o (by omega)
  have x43 : ∀ y : Int, cvw M Rf 43 y = M 43 y := fun y => cvw_o (by omega)
  have x51 : ∀ y : Int, cvw M Rf 51 y = M 51 y := fun y => cvw_o (by omega)
  rw [x43] at c13 b2 b3 b4 b5
  rw [x51] at b1
  generalize ej : M 43 11 = j at *
  have ejv : cvw M Rf 43 11 = j := by rw [x43]; exact ej
  rw [ejv] at nv kd
  obtain ⟨k1, k2, k3, k4, k5, k6, k7, k8, k9, k10⟩ := kd
  rw [x1 1 (by omega)] at k3
  have r12 := hM 43 12
  have m8 := k7 hk
  have k5 := k5 (by omega)
  rw [x1 3 (by omega)] at k5
  have hX0 := hX
  have vn1 : 1 ≤ vN t := by rw [vn, if_pos (by omega)]; omega
  have l43 : LoP 43 := by unfold LoP; omega
  have l51 : LoP 51 := by unfold LoP; omega
  obtain ⟨w, rfl⟩ : ∃ w : Nat, j = (w : Int) := ⟨j.toNat, by omega⟩
  have er : pm_Wc (d + 4) 118 [.ref 43] (zM M, Rf, K, L, n, s) (fun r σ => r = none ∧ pm_Wp none (d + 4) 117 232 [some (.ref 43)] [] σ Q) := by
    refine wc_in (ls0 := [some (.ref 43), none, none]) (by decide) (Nat.le_of_ble_eq_true rfl) rfl rfl ?_
    refine wp_aload_n d118_0 rfl ?_
    refine wp_getR (q := 51) d118_1 rfl (hG.o (by decide) rfl) (by decide) (hG.r (by decide +kernel)) (by decide) ?_
    refine wp_aload_n d118_4 rfl ?_
    refine wz_getI (v := (w : Int)) d118_5 rfl (hG.o (by decide) rfl) (by decide) (ej) ?_
    refine wz_iconst d118_8 ?_
    refine wp_virt (as := [.int (zI (-1)), .int (zI (w : Int))]) (rest := []) d118_9 rfl rfl rfl (hG.o (by decide) rfl) rfl rfl (Nat.le_of_ble_eq_true rfl) ?_
    refine c_makeV (d := d) (vs := vs) h hM b1 b8 (by omega) ⟨by omega, by omega⟩ ⟨by omega, by omega⟩ (fun M1 R1 K1 L1 n1 s1 zv1 mx1 vz1 hv1 vk1 => ?_)
    obtain ⟨v90, v91, v92, v93, v4⟩ := hv1
    have h1 := mx1.1
    have hG1 := h1.1
    have r81 := h1.2.2.2.2.2.1
    have y43 : ∀ y : Int, M1 43 y = M 43 y := fun y => by
      have := vk1 43 y l43 (by omega) (by omega) (by omega)
      rw [cvw_o (by omega), cvw_o (by omega)] at this
      exact this
    have yX : ∀ g : Nat, g ≤ 6 → ∀ y : Int, M1 (X + g) y = M (X + g) y := fun g hg y => by
      have := vk1 (X + g) y (by unfold LoP; omega) (by omega) (by omega) (by omega)
      rw [cvw_o (by omega), cvw_o (by omega)] at this
      exact this
    have hXo1 : pm_At K1 n1 X 4 := by rcases hX0 with rfl | rfl <;> exact hG1.o (by decide) rfl
    have Xp : 1 ≤ X := by omega
    refine wp_istore_n d118_12 (Nat.le_of_ble_eq_true rfl) rfl ?_
    refine wp_aload_n d118_13 rfl ?_
    refine wp_getR (q := X) d118_14 rfl (hG1.o (by decide) rfl) (by decide) r81 Xp ?_
    refine wp_aload_n d118_17 rfl ?_
    refine wz_getI (v := (w : Int)) d118_18 rfl (hG1.o (by decide) rfl) (by decide) ((y43 11).trans ej) ?_
    refine wz_iconst d118_21 ?_
    refine wp_virt (as := [.int (zI 0), .int (zI (w : Int))]) (rest := []) d118_22 rfl rfl rfl hXo1 rfl rfl (Nat.le_of_ble_eq_true rfl) ?_
    refine wc_deep (show d + 1 + 2 ≤ d + 3 by omega) ?_
    refine c_labelFrom (w := w) (m := nMk t) (g := 0) hG1 hX0 (by omega) ((yX 3 (by omega) _).trans k5) m8 (by omega) ?_
    have nl3 := (nxl_a _ m8 0 (by omega)).1
    refine wp_istore_n d118_25 (Nat.le_of_ble_eq_true rfl) rfl ?_
    refine wp_iload_n d118_26 rfl ?_
    refine wz_iconst d118_27 ?_
    refine wz_icmp_ne (t := 39) d118_28 (by decide) ⟨by omega, by omega⟩ ⟨by omega, by omega⟩ (fun _ => ?_) (fun hb => absurd hb (by omega))
    refine wp_iload_n d118_39 rfl ?_
    refine wz_iconst d118_40 ?_
    refine wz_icmp_ge (t := 73) d118_41 (by decide) ⟨by omega, by omega⟩ ⟨by omega, by omega⟩ (fun hn => ?_) (fun hn => ?_)
    · skip
      refine wp_aload_n d118_73 rfl ?_
      refine wp_iload_n d118_74 rfl ?_
      refine wz_putI (i := 13) d118_75 rfl (hG1.o (by decide) rfl) rfl (by decide) rfl ?_
      have vw : ∀ (p : Nat) (y : Int), LoP p → (90 ≤ p ∧ p ≤ 93 → 0 ≤ y ∧ y < vs) → (94 ≤ p ∧ p ≤ 97 → 0 ≤ y ∧ y < fr) → p ≠ 43 → p ≠ 51 → cvw (mset M1 43 13 (vs : Int)) R1 p y = cvw M Rf p y := fun p y lo q1 q2 n1 n2 => by
        rw [cvw43 (Or.inl rfl) h1 lo, if_neg (by omega)]
        exact vk1 p y lo q1 (fun e => ⟨(q2 e).1, by have := (q2 e).2; omega⟩) (by omega)
      have w43 : ∀ y : Int, y ≠ 13 → cvw (mset M1 43 13 (vs : Int)) R1 43 y = cvw M Rf 43 y := fun y y1 => by
        rw [cvw43 (Or.inl rfl) h1 l43, if_neg (by omega)]
        exact vk1 43 y l43 (by omega) (by omega) (by omega)
      have kp := Kpk.of bk hX0 vw
      have no := nxl_out m8 (g := 0) (by omega) (by omega)
      have w90 : cvw (mset M1 43 13 (vs : Int)) R1 90 (vs : Int) = (w : Int) := by rw [cvw43 (Or.inl rfl) h1 (by unfold LoP; omega), if_neg (by omega)]; exact v90
      have hup : Hup H (vs : Int) (vR (nMk t) .nil .nil .nil) (vs : Int) = some (vR (nMk t) .nil .nil .nil) := by unfold Hup; rw [if_pos rfl]
      have vc : VCk (cvw (mset M1 43 13 (vs : Int)) R1) X cnt sc (Hup H vs (vR (nMk t) .nil .nil .nil)) (vs : Int) (vR (nMk t) .nil .nil .nil) := Or.inr ⟨nMk t, .nil, .nil, .nil, rfl, m8, by rw [w90]; exact k1, by rw [w90, kp.1 (X + 1) _ (by omega) (by omega), x1 1 (by omega), k3, hk]; rfl, by rw [w90, kp.1 (X + 3) _ (by omega) (by omega), x1 3 (by omega)]; exact k5, fun g hg hb => by rw [no g hg (by omega)] at hb; cases hb⟩
      have b' := bk.val (V' := cvw (mset M1 43 13 (vs : Int)) R1) (zf' := zf) (zv' := zv1) (pc' := vpK k) hX0 vw (by rw [cvw43 (Or.inl rfl) h1 l51, if_neg (by omega), cvw_o (by omega), v4]; rfl) (w43 9 (by omega)) (w43 10 (by omega)) (by rw [w43 14 (by omega), x43]; exact b4) (w43 15 (by omega)) vc (by omega) (Nat.le_refl _) (by omega)
      have e16 : (mset M1 43 13 (vs : Int)) 43 16 = M 43 16 := (mset_i' (by omega)).trans (y43 16)
      have em : mv (.inl (t, ρ, k)) = some (false, .inr (vR (nMk t) .nil .nil .nil, k)) := by
        rw [mv_10 hk]
        unfold rGo
        rw [if_neg (by omega)]
      refine wp_ret d118_78 rfl ⟨rfl, ?_⟩
      exact wp_ret d117_232 rfl (hq.1 false _ _ R1 K1 L1 n1 s1 zf zv1 em (mx1.set (Or.inl ⟨rfl, by omega, by omega⟩) ⟨by omega, by omega⟩) e16 ⟨vs + 1, sc, fr, _, b', by show Hup H vs _ (cvw (mset M1 43 13 (vs : Int)) R1 43 13) = _; rw [cvw43 (Or.inl rfl) h1 l43, if_pos ⟨rfl, rfl⟩]; exact hup⟩)
    · skip
      refine wp_aload_n d118_44 rfl ?_
      refine wp_iload_n d118_45 rfl ?_
      refine wp_iload_n d118_46 rfl ?_
      refine wp_virt (as := [.int (zI ((nxl (nMk t) 0 : Int))), .int (zI (vs : Int))]) (rest := []) d118_47 rfl rfl rfl (hG1.o (by decide) rfl) rfl rfl (Nat.le_of_ble_eq_true rfl) ?_
      have hn3 : nxl (nMk t) 0 < 3 := by omega
      obtain ⟨-, hbit, hless⟩ := nxl_in m8 (g := 0) (by omega) hn3
      have npt := nv.part hk hn3 hbit
      rw [show X + 4 + nxl (nMk t) 0 = X + (4 + nxl (nMk t) 0) by omega, x1 (4 + nxl (nMk t) 0) (by omega)] at npt
      have vwa : ∀ (p : Nat) (y : Int), LoP p → (90 ≤ p ∧ p ≤ 93 → 0 ≤ y ∧ y < vs) → (94 ≤ p ∧ p ≤ 97 → 0 ≤ y ∧ y < fr) → p ≠ 43 → p ≠ 51 → cvw M1 R1 p y = cvw M Rf p y := fun p y lo q1 q2 n1 n2 => vk1 p y lo q1 (fun e => ⟨(q2 e).1, by have := (q2 e).2; omega⟩) (by omega)
      have wa43 : ∀ y : Int, cvw M1 R1 43 y = cvw M Rf 43 y := fun y => vk1 43 y l43 (by omega) (by omega) (by omega)
      have kp1 := Kpk.of bk hX0 vwa
      obtain ⟨ba, fka⟩ := bk.rcd (V' := cvw M1 R1) (zf' := zf) (zv' := zv1) (pc' := vN t - 1 + vpK k) hX0 vwa (by rw [cvw_o (by omega), v4]; rfl) (wa43 9) (wa43 10) (by rw [wa43 14, x43]; exact b4) (wa43 15) (by omega) (Nat.le_refl _) (by omega)
      refine c_push (d := d) (fr := fr) (nd := (w : Int)) (sc := M 43 12) h1 mx1.2.2.2.2.2.2 ((y43 9).trans b3) ((y43 11).trans ej) (y43 12) b9 (by omega) ⟨by omega, by omega⟩ ⟨by omega, by omega⟩ (fun M2 R2 K2 L2 n2 s2 zf2 mx2 fz2 hv2 vk2 => ?_)
      obtain ⟨v94, v95, v96, v97, v9⟩ := hv2
      have h2 := mx2.1
      have hG2 := h2.1
      have r82 := h2.2.2.2.2.2.1
      have hXo2 : pm_At K2 n2 X 4 := by rcases hX0 with rfl | rfl <;> exact hG2.o (by decide) rfl
      have z43 : ∀ y : Int, y ≠ 9 → M2 43 y = M 43 y := fun y hy => by
        have := vk2 43 y l43 (by omega) (by omega) (by omega)
        rw [cvw_o (by omega), cvw_o (by omega)] at this
        exact this.trans (y43 y)
      have zX : ∀ g : Nat, g ≤ 6 → ∀ y : Int, M2 (X + g) y = M (X + g) y := fun g hg y => by
        have := vk2 (X + g) y (by unfold LoP; omega) (by omega) (by omega) (by omega)
        rw [cvw_o (by omega), cvw_o (by omega)] at this
        exact this.trans (yX g hg y)
      refine wp_aload_n d118_50 rfl ?_
      refine wp_aload_n d118_51 rfl ?_
      refine wp_getR (q := X) d118_52 rfl (hG2.o (by decide) rfl) (by decide) r82 Xp ?_
      refine wp_aload_n d118_55 rfl ?_
      refine wz_getI (v := (w : Int)) d118_56 rfl (hG2.o (by decide) rfl) (by decide) ((z43 11 (by omega)).trans ej) ?_
      refine wp_iload_n d118_59 rfl ?_
      refine wp_virt (as := [.int (zI ((nxl (nMk t) 0 : Int))), .int (zI (w : Int))]) (rest := [.ref 43]) d118_60 rfl rfl rfl hXo2 rfl rfl (Nat.le_of_ble_eq_true rfl) ?_
      refine wc_deep (show d + 2 + 1 ≤ d + 3 by omega) ?_
      refine c_tpart (X := X) hG2 hX0 (by omega) (by omega) hn3 ?_
      rw [show X + 4 + nxl (nMk t) 0 = X + (4 + nxl (nMk t) 0) by omega, zX (4 + nxl (nMk t) 0) (by omega)]
      refine wp_aload_n d118_63 rfl ?_
      refine wz_getI (v := M 43 12) d118_64 rfl (hG2.o (by decide) rfl) (by decide) (z43 12 (by omega)) ?_
      refine wp_virt (as := [.int (zI (M 43 12)), .int (zI (M (X + (4 + nxl (nMk t) 0)) (w : Int)))]) (rest := []) d118_67 rfl rfl rfl (hG2.o (by decide) rfl) rfl rfl (Nat.le_of_ble_eq_true rfl) ?_
      refine wc_deep (show d + 2 + 1 ≤ d + 3 by omega) ?_
      refine c_goTo hG2 ?_
      refine wp_goto (t := 78) d118_70 (by decide) ?_
      have vm : ∀ (p : Nat) (y : Int), LoP p → ¬ (p = 43 ∧ (y = 11 ∨ y = 12 ∨ y = 13)) → cvw (mset (mset (mset M2 43 11 (M (X + (4 + nxl (nMk t) 0)) (w : Int))) 43 12 (M 43 12)) 43 13 (-1)) R2 p y = cvw M2 R2 p y := fun p y lo hn => by
        rw [cvw43 (Or.inl rfl) h2 lo, cvw43 (Or.inl rfl) h2 lo, cvw43 (Or.inl rfl) h2 lo, if_neg (by omega), if_neg (by omega), if_neg (by omega)]
      have vw : ∀ (p : Nat) (y : Int), LoP p → (90 ≤ p ∧ p ≤ 93 → 0 ≤ y ∧ y < ((vs + 1 : Nat) : Int)) → (94 ≤ p ∧ p ≤ 97 → 0 ≤ y ∧ y < fr) → p ≠ 43 → p ≠ 51 → cvw (mset (mset (mset M2 43 11 (M (X + (4 + nxl (nMk t) 0)) (w : Int))) 43 12 (M 43 12)) 43 13 (-1)) R2 p y = cvw M1 R1 p y := fun p y lo q1 q2 n1 n2 => (vm p y lo (by omega)).trans (vk2 p y lo (fun e => ⟨(q1 e).1, by have := (q1 e).2; omega⟩) q2 (by omega))
      have w43 : ∀ y : Int, y ≠ 9 → y ≠ 11 → y ≠ 12 → y ≠ 13 → cvw (mset (mset (mset M2 43 11 (M (X + (4 + nxl (nMk t) 0)) (w : Int))) 43 12 (M 43 12)) 43 13 (-1)) R2 43 y = cvw M1 R1 43 y := fun y y1 y2 y3 y4 => (vm 43 y l43 (by omega)).trans (vk2 43 y l43 (by omega) (by omega) (by omega))
      have kp2 := Kpk.of ba hX0 vw
      have ea : ECe (cvw (mset (mset (mset M2 43 11 (M (X + (4 + nxl (nMk t) 0)) (w : Int))) 43 12 (M 43 12)) 43 13 (-1)) R2) X cnt sc H ρ (M 43 12) := by rw [← x43]; exact (ec.keep kp1.1 kp1.2.1 (fun _ _ x => x) (Nat.le_refl _)).keep kp2.1 kp2.2.1 (fun _ _ x => x) (Nat.le_refl _)
      have nvk := (nv.keep kp1.1).keep kp2.1
      have npk := (npt.keep kp1.1).keep kp2.1
      have u96 : cvw (mset (mset (mset M2 43 11 (M (X + (4 + nxl (nMk t) 0)) (w : Int))) 43 12 (M 43 12)) 43 13 (-1)) R2 96 (fr : Int) = (vs : Int) := by rw [vm 96 _ (by unfold LoP; omega) (by omega), v96]
      have u94 : cvw (mset (mset (mset M2 43 11 (M (X + (4 + nxl (nMk t) 0)) (w : Int))) 43 12 (M 43 12)) 43 13 (-1)) R2 94 (fr : Int) = (w : Int) := by rw [vm 94 _ (by unfold LoP; omega) (by omega), v94]
      have u90 : cvw (mset (mset (mset M2 43 11 (M (X + (4 + nxl (nMk t) 0)) (w : Int))) 43 12 (M 43 12)) 43 13 (-1)) R2 90 (vs : Int) = (w : Int) := by rw [vw 90 _ (by unfold LoP; omega) (fun _ => ⟨by omega, by omega⟩) (by omega) (by omega) (by omega)]; exact v90
      have fm : FrK (cvw (mset (mset (mset M2 43 11 (M (X + (4 + nxl (nMk t) 0)) (w : Int))) 43 12 (M 43 12)) 43 13 (-1)) R2) X cnt sc st H (t, ρ, vR (nMk t) .nil .nil .nil, nxl (nMk t) 0) fr ((vs + 1 : Nat) : Int) := by
        refine ⟨by show nKd t = 7 ∨ nKd t = 9 ∨ nKd t = 10 ∨ nKd t = 11; omega, ⟨F, by rw [u94]; exact nvk, hF⟩, by rw [vm 95 _ (by unfold LoP; omega) (by omega), v95]; exact ea, fun e => absurd (show nKd t = 7 from e) (by omega), fun _ => ?_⟩
        rw [u96, u94, u90, vm 97 _ (by unfold LoP; omega) (by omega), v97]
        exact ⟨⟨hn3, hbit⟩, rfl, ⟨by omega, by omega⟩, hh.fresh, rfl, ⟨.nil, .nil, .nil, rfl⟩, fun g hg hb => absurd hb (by rw [hless g (by have : g < nxl (nMk t) 0 := hg; omega) (by omega) hg]; decide)⟩
      have pp : vN (nP t (nxl (nMk t) 0)) + vpF (t, ρ, vR (nMk t) .nil .nil .nil, nxl (nMk t) 0) + 1 ≤ vN t := by
        rw [vn, if_pos (by omega)]
        unfold vpF
        show vN (nP t (nxl (nMk t) 0)) + (if nKd t = 7 then (if nxl (nMk t) 0 = 0 then vN (nY t) else 0) else if nKd t = 10 then vpR t (nxl (nMk t) 0) else 0) + 1 ≤ _
        rw [if_neg (by omega), if_pos hk]
        unfold vpR
        have : nxl (nMk t) 0 = 0 ∨ nxl (nMk t) 0 = 1 ∨ nxl (nMk t) 0 = 2 := by omega
        rcases this with e | e | e <;> rw [e]
        · show vN (nX t) + ((if 0 < 1 then vN (nY t) else 0) + (if 0 < 2 then vN (nZ t) else 0)) + 1 ≤ _
          rw [if_pos (by omega), if_pos (by omega)]; omega
        · show vN (nY t) + ((if 1 < 1 then vN (nY t) else 0) + (if 1 < 2 then vN (nZ t) else 0)) + 1 ≤ _
          rw [if_neg (by omega), if_pos (by omega)]; omega
        · show vN (nZ t) + ((if 2 < 1 then vN (nY t) else 0) + (if 2 < 2 then vN (nZ t) else 0)) + 1 ≤ _
          rw [if_neg (by omega), if_neg (by omega)]; omega
      have b' := ba.push (V' := cvw (mset (mset (mset M2 43 11 (M (X + (4 + nxl (nMk t) 0)) (w : Int))) 43 12 (M 43 12)) 43 13 (-1)) R2) (zf' := zf2) (zv' := zv1) (lim := (vs : Int)) (pc' := vN (nP t (nxl (nMk t) 0)) + (vpF (t, ρ, vR (nMk t) .nil .nil .nil, nxl (nMk t) 0) + vpK k)) hX0 vw ((vm 51 4 l51 (by omega)).trans (vk2 51 4 l51 (by omega) (by omega) (by omega))) (by rw [vm 43 9 l43 (by omega), cvw_o (by omega), v9]; rfl) (w43 10 (by omega) (by omega) (by omega) (by omega)) (by rw [w43 14 (by omega) (by omega) (by omega) (by omega), wa43, x43]; exact b4) (w43 15 (by omega) (by omega) (by omega) (by omega)) fm (fun _ => ⟨by rw [u96]; exact Int.le_refl _, fka, by omega⟩) (by omega) fz2 (Nat.le_refl _)
      have e16 : (mset (mset (mset M2 43 11 (M (X + (4 + nxl (nMk t) 0)) (w : Int))) 43 12 (M 43 12)) 43 13 (-1)) 43 16 = M 43 16 := (mset_i' (by omega)).trans ((mset_i' (by omega)).trans ((mset_i' (by omega)).trans (z43 16 (by omega))))
      have em : mv (.inl (t, ρ, k)) = some (false, .inl (nP t (nxl (nMk t) 0), ρ, (t, ρ, vR (nMk t) .nil .nil .nil, nxl (nMk t) 0) :: k)) := by
        rw [mv_10 hk]
        unfold rGo
        rw [if_pos hn3]
      have mx : MX X M Rf K L n s zf zv zr (mset (mset (mset M2 43 11 (M (X + (4 + nxl (nMk t) 0)) (w : Int))) 43 12 (M 43 12)) 43 13 (-1)) R2 K2 L2 n2 s2 zf2 zv1 := (((mx1.trans mx2).set (Or.inl ⟨rfl, by omega, by omega⟩) (hM _ _)).set (Or.inl ⟨rfl, by omega, by omega⟩) r12).set (Or.inl ⟨rfl, by omega, by omega⟩) ⟨by omega, by omega⟩
      refine wp_ret d118_78 rfl ⟨rfl, ?_⟩
      exact wp_ret d117_232 rfl (hq.1 false _ _ R2 K2 L2 n2 s2 zf2 zv1 em mx e16 ⟨vs + 1, sc, fr + 1, H, b', by rw [cvw43 (Or.inl rfl) h2 l43, if_pos ⟨rfl, rfl⟩], ⟨F - 1, by rw [cvw43 (Or.inl rfl) h2 l43, cvw43 (Or.inl rfl) h2 l43, cvw43 (Or.inl rfl) h2 l43, if_neg (by omega), if_neg (by omega), if_pos ⟨rfl, rfl⟩]; exact npk, by show fr + 1 + (F - 1) ≤ 24 * (st + 0 + 1); omega⟩, by rw [cvw43 (Or.inl rfl) h2 l43, cvw43 (Or.inl rfl) h2 l43, if_neg (by omega), if_pos ⟨rfl, rfl⟩]; exact ea⟩)
  rcases hX with rfl | rfl
  · skip
    refine wc_in (ls0 := [some (.ref 43)]) (by decide) (Nat.le_of_ble_eq_true rfl) rfl rfl ?_
    refine wp_aload_n d117_0 rfl ?_
    refine wp_getR (q := 16) d117_1 rfl (hG.o (by decide) rfl) (by decide) r8 (by decide) ?_
    refine wp_getR (q := 17) d117_4 rfl (hG.o (by decide) rfl) (by decide) (hG.r (by decide +kernel)) (by decide) ?_
    refine wp_aload_n d117_7 rfl ?_
    refine wz_getI (v := (w : Int)) d117_8 rfl (hG.o (by decide) rfl) (by decide) (ej) ?_
    refine wz_iald (z := 60) (v := 5) d117_11 (hG.a (by decide) rfl rfl) (by omega) (by omega) (by decide) (by rw [k3, hk]; rfl) ?_
    refine wp_table (t := 139) d117_12 (by decide +kernel) ?_
    refine wp_aload_n d117_139 rfl ?_
    refine wp_virt (as := []) (rest := []) d117_140 rfl rfl rfl (hG.o (by decide) rfl) rfl rfl (Nat.le_of_ble_eq_true rfl) ?_
    refine wc_mono er (fun r σ hr => ?_)
    obtain ⟨rfl, hr⟩ := hr
    exact wp_goto (t := 232) d117_143 (by decide) hr
  · skip
    refine wc_in (ls0 := [some (.ref 43)]) (by decide) (Nat.le_of_ble_eq_true rfl) rfl rfl ?_
    refine wp_aload_n d117_0 rfl ?_
    refine wp_getR (q := 23) d117_1 rfl (hG.o (by decide) rfl) (by decide) r8 (by decide) ?_
    refine wp_getR (q := 24) d117_4 rfl (hG.o (by decide) rfl) (by decide) (hG.r (by decide +kernel)) (by decide) ?_
    refine wp_aload_n d117_7 rfl ?_
    refine wz_getI (v := (w : Int)) d117_8 rfl (hG.o (by decide) rfl) (by decide) (ej) ?_
    refine wz_iald (z := 60) (v := 5) d117_11 (hG.a (by decide) rfl rfl) (by omega) (by omega) (by decide) (by rw [k3, hk]; rfl) ?_
    refine wp_table (t := 139) d117_12 (by decide +kernel) ?_
    refine wp_aload_n d117_139 rfl ?_
    refine wp_virt (as := []) (rest := []) d117_140 rfl rfl rfl (hG.o (by decide) rfl) rfl rfl (Nat.le_of_ble_eq_true rfl) ?_
    refine wc_mono er (fun r σ hr => ?_)
    obtain ⟨rfl, hr⟩ := hr
    exact wp_goto (t := 232) d117_143 (by decide) hr
end PmH9
