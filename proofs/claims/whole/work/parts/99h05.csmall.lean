/-! THE CLASS RUNS: nodes, looking a value up, small methods. -/
section PmH5
variable {V V' : pm_M} {X cnt F vs sc sc' st st' fr zf zv : Nat} {H H' : Int → Option Ty} {t : Ty} {j : Int}
theorem NVc.sp (h : NVc V X cnt F t j) : t = mN (nPl t) (nKd t) (nMk t) (nX t) (nY t) (nZ t) := by
  obtain ⟨-, ⟨D, sc, h2⟩, -⟩ := h
  exact h2.shp
theorem NVc.kd (h : NVc V X cnt F t j) : (0 ≤ j ∧ j < cnt) ∧ (5 ≤ nKd t ∧ nKd t ≤ 12) ∧ V (X + 1) j = (nKd t : Int) - 5 ∧ V (X + 2) j = (nPl t : Int) ∧ (nKd t ≠ 5 → V (X + 3) j = (nMk t : Int)) ∧ (nKd t = 5 → (0 ≤ V (X + 4) j ∧ V (X + 4) j < cnt) ∧ V (X + 2) (V (X + 4) j) = (nMk t : Int)) ∧ (nKd t = 10 → nMk t < 8) ∧ (nKd t = 11 → nMk t < 3) ∧ (nKd t = 12 → nMk t < 2) ∧ 1 ≤ F := by
  obtain ⟨h1, ⟨D, sc, h2⟩, -⟩ := h
  cases F with
  | zero => exact h1.elim
  | succ F =>
    obtain ⟨a1, a2, a3, a4, a5, a6, a7⟩ := h1
    exact ⟨⟨a1.1, a1.2⟩, h2.1.1, a2, a4, a5, a6, fun e => (h2.2.2.2.2.2.2.1 e).1, fun e => (h2.2.2.2.2.2.2.2.1 e).1, h2.2.2.2.2.2.2.2.2, by omega⟩
theorem NVc.x (h : NVc V X cnt F t j) (hk : nKd t = 7 ∨ nKd t = 9 ∨ nKd t = 11 ∨ nKd t = 12) : NVc V X cnt (F - 1) (nX t) (V (X + 4) j) := by
  have hp := vN_is h.sp
  have hp2 := pnd_is h.sp
  obtain ⟨h1, ⟨D, sc, h2⟩, ⟨h3, h5⟩, h4⟩ := h
  cases F with
  | zero => exact h1.elim
  | succ F =>
    obtain ⟨-, -, -, -, -, -, q⟩ := h1
    obtain ⟨-, -, -, w7, -, w9, -, w11, -⟩ := h2
    refine ⟨(q 0 (by omega)).1 ?_, ⟨D, sc, ?_⟩, by omega, by omega⟩
    · unfold sk
      rcases hk with e | e | e | e <;> rw [e] <;> rfl
    · rcases hk with e | e | e | e
      · exact (w7 (Or.inl e)).1
      · exact (w9 e).1
      · exact (w11 e).2
      · exact (w7 (Or.inr e)).1
theorem NVc.y (h : NVc V X cnt F t j) (hk : nKd t = 7 ∨ nKd t = 12) : NVc V X cnt (F - 1) (nY t) (V (X + 5) j) := by
  have hp := vN_is h.sp
  have hp2 := pnd_is h.sp
  obtain ⟨h1, ⟨D, sc, h2⟩, ⟨h3, h5⟩, h4⟩ := h
  cases F with
  | zero => exact h1.elim
  | succ F =>
    obtain ⟨-, -, -, -, -, -, q⟩ := h1
    obtain ⟨-, -, -, w7, -⟩ := h2
    refine ⟨(q 1 (by omega)).1 ?_, ⟨D, sc, (w7 hk).2⟩, by omega, by omega⟩
    unfold sk
    rcases hk with e | e <;> rw [e] <;> rfl
theorem NVc.body (h : NVc V X cnt F t j) (hk : nKd t = 6 ∨ nKd t = 8) : NVc V X cnt (F - 1) (nY t) (V (X + 5) j) := by
  have hp := vN_is h.sp
  have hp2 := pnd_is h.sp
  obtain ⟨h1, ⟨D, sc, h2⟩, ⟨h3, h5⟩, h4⟩ := h
  cases F with
  | zero => exact h1.elim
  | succ F =>
    obtain ⟨-, -, -, -, -, -, q⟩ := h1
    obtain ⟨-, -, w6, -, w8, -⟩ := h2
    refine ⟨(q 1 (by omega)).1 (sk_6 hk).2.1, ?_, by omega, by omega⟩
    rcases hk with e | e
    · exact ⟨D, _, (w6 e).2.2.2⟩
    · exact ⟨D + 1, sc, (w8 e).2.2⟩
theorem NVc.part (h : NVc V X cnt F t j) (hk : nKd t = 10) {g : Nat} (hg : g < 3) (hb : bit (nMk t) g = true) : NVc V X cnt (F - 1) (nP t g) (V (X + 4 + g) j) := by
  have hp := vN_is h.sp
  have hp2 := pnd_is h.sp
  obtain ⟨h1, ⟨D, sc, h2⟩, ⟨h3, h5⟩, h4⟩ := h
  cases F with
  | zero => exact h1.elim
  | succ F =>
    obtain ⟨-, -, -, -, -, -, q⟩ := h1
    obtain ⟨-, -, -, -, -, -, w10, -⟩ := h2
    refine ⟨(q g hg).1 (by rw [hk]; exact sk_rec.1.mpr hb), ⟨D, sc, (w10 hk).2 g hg hb⟩, ?_, by omega⟩
    have : g = 0 ∨ g = 1 ∨ g = 2 := by omega
    rcases this with rfl | rfl | rfl
    · show vN (nX t) ≤ 20 ∧ pnd (nX t) ≤ 60; omega
    · show vN (nY t) ≤ 20 ∧ pnd (nY t) ≤ 60; omega
    · show vN (nZ t) ≤ 20 ∧ pnd (nZ t) ≤ 60; omega
theorem elk_shape {ρ v : Ty} {m : Nat} (h : elk ρ m = some v) : ∃ p v' r, ρ = .nest p (.append v' r) := by
  match ρ, h with
  | .nest p (.append v' r), _ => exact ⟨p, v', r, rfl⟩
  | .nil, h => simp [elk] at h
  | .line, h => simp [elk] at h
  | .align _, h => simp [elk] at h
  | .text _, h => simp [elk] at h
  | .group _ _, h => simp [elk] at h
  | .append _ _, h => simp [elk] at h
  | .tag _ _, h => simp [elk] at h
  | .nest _ .nil, h => simp [elk] at h
  | .nest _ .line, h => simp [elk] at h
  | .nest _ (.align _), h => simp [elk] at h
  | .nest _ (.text _), h => simp [elk] at h
  | .nest _ (.nest _ _), h => simp [elk] at h
  | .nest _ (.group _ _), h => simp [elk] at h
  | .nest _ (.tag _ _), h => simp [elk] at h
theorem BK.same {k : List Fr} {pc pc' : Nat} (h : BK V X cnt st vs sc fr zf zv H k pc) (hX : X = 16 ∨ X = 23) (e : ∀ (p : Nat) (i : Int), LoP p → ¬ (p = 43 ∧ (i = 11 ∨ i = 12 ∨ i = 13 ∨ i = 15 ∨ i = 16)) → (90 ≤ p ∧ p ≤ 93 → 0 ≤ i ∧ i < vs) → (94 ≤ p ∧ p ≤ 97 → 0 ≤ i ∧ i < fr) → V' p i = V p i) (h15 : V' 43 15 = (st' : Int)) (hp : pc' + 20 * st ≤ pc + 20 * st') (hs : st ≤ st') (hs6 : st' ≤ 60) {zf' zv' : Nat} (z1 : zf ≤ zf') (z2 : zv ≤ zv') : BK V' X cnt st' vs sc fr zf' zv' H k pc' := by
  obtain ⟨⟨c1, c2, c3, c4, c5⟩, h1, ⟨h2, h3, h4, h5, h6⟩, h7⟩ := h
  have kx : ∀ (p : Nat) (i : Int), X + 1 ≤ p → p ≤ X + 6 → V' p i = V p i := fun p i p1 p2 => e p i (by unfold LoP; omega) (by omega) (by omega) (by omega)
  have hi : ∀ i : Int, H i ≠ none → 0 ≤ i ∧ i < vs := fun i hn => by
    cases q : H i with
    | none => exact absurd q hn
    | some v => exact (h1 i v q).1
  have kp : Kpk V V' X vs sc H := ⟨kx, fun p i p1 p2 _ _ => e p i (by unfold LoP; omega) (by omega) (by omega) (by omega), fun i i0 i1 => e 90 i (by unfold LoP; omega) (by omega) (fun _ => ⟨i0, i1⟩) (by omega), fun i g hn hg => e (91 + g) i (by unfold LoP; omega) (by omega) (fun _ => hi i hn) (by omega)⟩
  refine ⟨⟨by rw [e 51 4 (by unfold LoP; omega) (by omega) (by omega) (by omega)]; exact c1, by rw [e 43 10 (by unfold LoP; omega) (by omega) (by omega) (by omega)]; exact c2, by rw [e 43 9 (by unfold LoP; omega) (by omega) (by omega) (by omega)]; exact c3, by rw [e 43 14 (by unfold LoP; omega) (by omega) (by omega) (by omega)]; exact c4, h15⟩, h1.keep kp (Nat.le_refl _), ⟨by omega, hs6, by omega, by omega, by omega⟩, h7.keep kp (fun _ _ x => x) (Nat.le_refl _) hs (Int.le_refl _) (Int.le_refl _) (fun p q p1 p2 q0 q1 => e p q (by unfold LoP; omega) (by omega) (by omega) (fun _ => ⟨q0, q1⟩)) (fun i i0 i1 hn => ⟨hn, fun g hg => e (91 + g) i (by unfold LoP; omega) (by omega) (fun _ => ⟨i0, i1⟩) (by omega)⟩)⟩
end PmH5
section PmH5b
variable {d : Nat} {Q : Option Value → pm_S → Prop} {X cnt : Nat} {M : pm_M} {Rf : Nat → Nat → Nat} {K L : Nat → Nat} {n s zf zv zr : Nat} {sc : Nat} {H : Int → Option Ty}
theorem c_valueOf {ρ v : Ty} {m : Nat} {bn e : Int} (h : MR X Rf K L n zf zv zr) (hM : ∀ p i, R32 (M p i)) (pi : PI M X cnt 60) (c6 : cnt ≤ 60) (hsc : M 43 10 = (sc : Int)) (s6 : sc ≤ 60) (e12 : M 43 12 = e) (b0 : 0 ≤ bn ∧ bn < cnt) (bm : M (X + 2) bn = (m : Int)) (ec : ECe (cvw M Rf) X cnt sc H ρ e) (ek : elk ρ m = some v) (hQ : ∀ i : Int, H i = some v → Q (some (.int (zI i))) (zM M, Rf, K, L, n, s)) : pm_Wc (d + 1) 119 [.ref 43, .int (zI bn)] (zM M, Rf, K, L, n, s) Q := by
  have hG := h.1
  have hX := h.2.2.2.2.2.2
  have loop : ∀ (f : Nat) (ρ : Ty) (e i : Int), e.toNat < f → ECe (cvw M Rf) X cnt sc H ρ e → elk ρ m = some v → 0 ≤ i → i + e ≤ 60 → pm_Wp none d 119 7 [some (.ref 43), some (.int (zI bn)), some (.int (zI e)), some (.int (zI i))] [] (zM M, Rf, K, L, n, s) Q := by
    intro f
    induction f with
    | zero => intro ρ e i hf; omega
    | succ f ih =>
      intro ρ e i hf ec ek i0 i1
      obtain ⟨p, v', r, er⟩ := elk_shape ek
      subst er
      rw [ECe] at ec
      obtain ⟨q1, q2, q3, q4, q5, q6⟩ := ec
      have w7 : cvw M Rf 87 e = M 48 e := cvw_s (g := 0) (by omega)
      have w8 : cvw M Rf 88 e = M 49 e := cvw_s (g := 1) (by omega)
      have w9 : cvw M Rf 89 e = M 50 e := cvw_s (g := 2) (by omega)
      have wx : ∀ y : Int, cvw M Rf (X + 2) y = M (X + 2) y := fun y => cvw_o (by omega)
      rw [w7] at q2 q3
      rw [wx] at q3
      rw [w8] at q4
      rw [w9] at q5 q6
      have ek : (if p = (m : Int) then some v' else elk r m) = some v := ek
      have r48 := hM 48 e
      have r49 := hM 49 e
      have r50 := hM 50 e
      refine wp_iload_n d119_7 rfl ?_
      refine wz_bipush d119_8 (by decide) ?_
      refine wz_icmp_ge (t := 55) d119_10 (by decide) ⟨by omega, by omega⟩ ⟨by omega, by omega⟩ (fun hb => absurd hb (by omega)) (fun _ => ?_)
      refine wp_iload_n d119_13 rfl ?_
      refine wz_if_lt (t := 55) d119_14 (by decide) ⟨by omega, by omega⟩ (fun hb => absurd hb (by omega)) (fun _ => ?_)
      refine wp_iload_n d119_17 rfl ?_
      refine wp_aload_n d119_18 rfl ?_
      refine wz_getI (v := (sc : Int)) d119_19 rfl (hG.o (by decide) rfl) (by decide) (hsc) ?_
      refine wz_icmp_ge (t := 55) d119_22 (by decide) ⟨by omega, by omega⟩ ⟨by omega, by omega⟩ (fun hb => absurd hb (by omega)) (fun _ => ?_)
      refine wp_aload_n d119_25 rfl ?_
      refine wp_getR (q := 48) d119_26 rfl (hG.o (by decide) rfl) (by decide) (hG.r (by decide +kernel)) (by decide) ?_
      refine wp_iload_n d119_29 rfl ?_
      refine wz_iald (z := 61) (v := M 48 e) d119_30 (hG.a (by decide) rfl rfl) (by omega) (by omega) (by decide) (rfl) ?_
      refine wp_iload_n d119_31 rfl ?_
      refine wz_icmp_ne (t := 42) d119_32 (by decide) r48 ⟨by omega, by omega⟩ (fun hb => ?_) (fun hb => ?_)
      · skip
        refine wp_aload_n d119_42 rfl ?_
        refine wp_getR (q := 50) d119_43 rfl (hG.o (by decide) rfl) (by decide) (hG.r (by decide +kernel)) (by decide) ?_
        refine wp_iload_n d119_46 rfl ?_
        refine wz_iald (z := 61) (v := M 50 e) d119_47 (hG.a (by decide) rfl rfl) (by omega) (by omega) (by decide) (rfl) ?_
        refine wp_istore_n d119_48 (Nat.le_of_ble_eq_true rfl) rfl ?_
        refine wz_iinc d119_49 rfl rfl ?_
        refine wp_goto (t := 7) d119_52 (by decide) ?_
        have hpm : p ≠ (m : Int) := fun e' => hb (pi.inj q2.1 q2.2 b0.1 b0.2 (by rw [q3, bm, e']))
        rw [if_neg hpm] at ek
        obtain ⟨p2, v2, r2, er2⟩ := elk_shape ek
        have q6' := q6
        rw [er2, ECe] at q6'
        exact ih r (M 50 e) (i + 1) (by have := q6'.1.1; omega) q6 ek (by omega) (by omega)
      · skip
        refine wp_aload_n d119_35 rfl ?_
        refine wp_getR (q := 49) d119_36 rfl (hG.o (by decide) rfl) (by decide) (hG.r (by decide +kernel)) (by decide) ?_
        refine wp_iload_n d119_39 rfl ?_
        refine wz_iald (z := 61) (v := M 49 e) d119_40 (hG.a (by decide) rfl rfl) (by omega) (by omega) (by decide) (rfl) ?_
        have hb : M 48 e = bn := by omega
        have hpm : p = (m : Int) := by rw [← q3, hb, bm]
        rw [if_pos hpm] at ek
        injection ek with ek
        subst ek
        exact wp_ret d119_41 rfl (hQ _ q4)
  obtain ⟨p2, v2, r2, er2⟩ := elk_shape ek
  have ec' := ec
  rw [er2, ECe] at ec'
  refine wc_in (ls0 := [some (.ref 43), some (.int (zI bn)), none, none]) (by decide) (Nat.le_of_ble_eq_true rfl) rfl rfl ?_
  refine wp_aload_n d119_0 rfl ?_
  refine wz_getI (v := e) d119_1 rfl (hG.o (by decide) rfl) (by decide) (e12) ?_
  refine wp_istore_n d119_4 (Nat.le_of_ble_eq_true rfl) rfl ?_
  refine wz_iconst d119_5 ?_
  refine wp_istore_n d119_6 (Nat.le_of_ble_eq_true rfl) rfl ?_
  exact loop (e.toNat + 1) ρ e 0 (by omega) ec ek (by omega) (by have := ec'.1.2; omega)
theorem c_goTo {a b : Int} (hG : pm_G Rf K L n) (h : Q none (zM (mset (mset (mset M 43 11 a) 43 12 b) 43 13 (-1)), Rf, K, L, n, s)) : pm_Wc (d + 1) 115 [.ref 43, .int (zI a), .int (zI b)] (zM M, Rf, K, L, n, s) Q := by
  refine wc_in (ls0 := [some (.ref 43), some (.int (zI a)), some (.int (zI b))]) (by decide) (Nat.le_of_ble_eq_true rfl) rfl rfl ?_
  refine wp_aload_n d115_0 rfl ?_
  refine wp_iload_n d115_1 rfl ?_
  refine wz_putI (i := 11) d115_2 rfl (hG.o (by decide) rfl) rfl (by decide) rfl ?_
  refine wp_aload_n d115_5 rfl ?_
  refine wp_iload_n d115_6 rfl ?_
  refine wz_putI (i := 12) d115_7 rfl (hG.o (by decide) rfl) rfl (by decide) rfl ?_
  refine wp_aload_n d115_10 rfl ?_
  refine wz_iconst d115_11 ?_
  refine wz_putI (i := 13) d115_12 rfl (hG.o (by decide) rfl) rfl (by decide) rfl ?_
  exact wp_ret d115_15 rfl (h)
theorem c_countStep {st : Nat} (hG : pm_G Rf K L n) (e15 : M 43 15 = (st : Int)) (s6 : st ≤ 60) (h1 : st < 60 → Q (some (.int (zI 1))) (zM (mset M 43 15 ((st : Int) + 1)), Rf, K, L, n, s)) (h0 : st = 60 → Q (some (.int (zI 0))) (zM (mset M 43 14 1), Rf, K, L, n, s)) : pm_Wc (d + 1) 116 [.ref 43] (zM M, Rf, K, L, n, s) Q := by
  refine wc_in (ls0 := [some (.ref 43)]) (by decide) (Nat.le_of_ble_eq_true rfl) rfl rfl ?_
  refine wp_aload_n d116_0 rfl ?_
  refine wz_getI (v := (st : Int)) d116_1 rfl (hG.o (by decide) rfl) (by decide) (e15) ?_
  refine wz_bipush d116_4 (by decide) ?_
  refine wz_icmp_lt (t := 16) d116_6 (by decide) ⟨by omega, by omega⟩ ⟨by omega, by omega⟩ (fun hb => ?_) (fun hb => ?_)
  · skip
    refine wp_aload_n d116_16 rfl ?_
    refine wp_dupr d116_17 ?_
    refine wz_getI (v := (st : Int)) d116_18 rfl (hG.o (by decide) rfl) (by decide) (e15) ?_
    refine wz_iconst d116_21 ?_
    refine wz_iadd d116_22 ?_
    refine wz_putI (i := 15) d116_23 rfl (hG.o (by decide) rfl) rfl (by decide) rfl ?_
    refine wz_iconst d116_26 ?_
    exact wp_ret d116_27 rfl (h1 (by omega))
  · skip
    refine wp_aload_n d116_9 rfl ?_
    refine wz_iconst d116_10 ?_
    refine wz_putI (i := 14) d116_11 rfl (hG.o (by decide) rfl) (by decide) (by decide) rfl ?_
    refine wz_iconst d116_14 ?_
    exact wp_ret d116_15 rfl (h0 (by omega))
theorem c_isOfKind {i j kd : Int} (h : MR X Rf K L n zf zv zr) (i0 : 0 ≤ i) (i1 : i < zv) (e0 : M (Rf 51 0) i = j) (j0 : 0 ≤ j) (j1 : j < 60) (ek : M (X + 1) j = kd) (rk : R32 kd) (hQ : Q (some (.int (zI 1))) (zM (mset M 43 14 0), Rf, K, L, n, s)) : pm_Wc (d + 1) 123 [.ref 43, .int (zI i), .int (zI kd)] (zM M, Rf, K, L, n, s) Q := by
  obtain ⟨hG, hF, hV, -, -, r8, hX⟩ := h
  have vz := hV.2.2.2.2.1
  rcases hX with rfl | rfl
  · skip
    refine wc_in (ls0 := [some (.ref 43), some (.int (zI i)), some (.int (zI kd))]) (by decide) (Nat.le_of_ble_eq_true rfl) rfl rfl ?_
    refine wp_aload_n d123_0 rfl ?_
    refine wp_aload_n d123_1 rfl ?_
    refine wp_getR (q := 16) d123_2 rfl (hG.o (by decide) rfl) (by decide) r8 (by decide) ?_
    refine wp_getR (q := 17) d123_5 rfl (hG.o (by decide) rfl) (by decide) (hG.r (by decide +kernel)) (by decide) ?_
    refine wp_aload_n d123_8 rfl ?_
    refine wp_getR (q := 51) d123_9 rfl (hG.o (by decide) rfl) (by decide) (hG.r (by decide +kernel)) (by decide) ?_
    refine wp_getR (q := Rf 51 0) d123_12 rfl (hG.o (by decide) rfl) (by decide) rfl (hV.1 0 (by decide)).1 ?_
    refine wp_iload_n d123_15 rfl ?_
    refine wz_iald (z := zv) (v := j) d123_16 (hV.1 0 (by decide)) (by omega) (by omega) (by omega) (e0) ?_
    refine wz_iald (z := 60) (v := kd) d123_17 (hG.a (by decide) rfl rfl) (by omega) (by omega) (by decide) (ek) ?_
    refine wp_iload_n d123_18 rfl ?_
    refine wz_icmp_eq (t := 26) d123_19 (by decide) rk rk (fun _ => ?_) (fun hb => absurd (rfl) hb)
    refine wz_iconst d123_26 ?_
    refine wz_putI (i := 14) d123_27 rfl (hG.o (by decide) rfl) (by decide) (by decide) rfl ?_
    refine wp_aload_n d123_30 rfl ?_
    refine wz_getI (v := 0) d123_31 rfl (hG.o (by decide) rfl) (by decide) (mset_s _ _ _ _) ?_
    refine wz_if_ne (t := 41) d123_34 (by decide) ⟨by omega, by omega⟩ (fun hb => absurd (by omega) hb) (fun _ => ?_)
    refine wz_iconst d123_37 ?_
    refine wp_goto (t := 42) d123_38 (by decide) ?_
    exact wp_ret d123_42 rfl (hQ)
  · skip
    refine wc_in (ls0 := [some (.ref 43), some (.int (zI i)), some (.int (zI kd))]) (by decide) (Nat.le_of_ble_eq_true rfl) rfl rfl ?_
    refine wp_aload_n d123_0 rfl ?_
    refine wp_aload_n d123_1 rfl ?_
    refine wp_getR (q := 23) d123_2 rfl (hG.o (by decide) rfl) (by decide) r8 (by decide) ?_
    refine wp_getR (q := 24) d123_5 rfl (hG.o (by decide) rfl) (by decide) (hG.r (by decide +kernel)) (by decide) ?_
    refine wp_aload_n d123_8 rfl ?_
    refine wp_getR (q := 51) d123_9 rfl (hG.o (by decide) rfl) (by decide) (hG.r (by decide +kernel)) (by decide) ?_
    refine wp_getR (q := Rf 51 0) d123_12 rfl (hG.o (by decide) rfl) (by decide) rfl (hV.1 0 (by decide)).1 ?_
    refine wp_iload_n d123_15 rfl ?_
    refine wz_iald (z := zv) (v := j) d123_16 (hV.1 0 (by decide)) (by omega) (by omega) (by omega) (e0) ?_
    refine wz_iald (z := 60) (v := kd) d123_17 (hG.a (by decide) rfl rfl) (by omega) (by omega) (by decide) (ek) ?_
    refine wp_iload_n d123_18 rfl ?_
    refine wz_icmp_eq (t := 26) d123_19 (by decide) rk rk (fun _ => ?_) (fun hb => absurd (rfl) hb)
    refine wz_iconst d123_26 ?_
    refine wz_putI (i := 14) d123_27 rfl (hG.o (by decide) rfl) (by decide) (by decide) rfl ?_
    refine wp_aload_n d123_30 rfl ?_
    refine wz_getI (v := 0) d123_31 rfl (hG.o (by decide) rfl) (by decide) (mset_s _ _ _ _) ?_
    refine wz_if_ne (t := 41) d123_34 (by decide) ⟨by omega, by omega⟩ (fun hb => absurd (by omega) hb) (fun _ => ?_)
    refine wz_iconst d123_37 ?_
    refine wp_goto (t := 42) d123_38 (by decide) ?_
    exact wp_ret d123_42 rfl (hQ)
end PmH5b
