/-! THE CLASS RUNS: values, frames and scopes more. -/
section PmH8
variable {V V' : pm_M} {X cnt st vs sc fr zf zv zf' zv' pc pc' : Nat} {H : Int → Option Ty} {k : List Fr}
theorem Kpk.of (bk : BK V X cnt st vs sc fr zf zv H k pc) (hX : X = 16 ∨ X = 23) (vk : ∀ (p : Nat) (i : Int), LoP p → (90 ≤ p ∧ p ≤ 93 → 0 ≤ i ∧ i < vs) → (94 ≤ p ∧ p ≤ 97 → 0 ≤ i ∧ i < fr) → p ≠ 43 → p ≠ 51 → V' p i = V p i) : Kpk V V' X vs sc H := by
  have hi : ∀ i : Int, H i ≠ none → 0 ≤ i ∧ i < vs := fun i hn => by
    cases q : H i with
    | none => exact absurd q hn
    | some v => exact (bk.2.1 i v q).1
  exact ⟨fun p i p1 p2 => vk p i (by unfold LoP; omega) (by omega) (by omega) (by omega) (by omega), fun p i p1 p2 _ _ => vk p i (by unfold LoP; omega) (by omega) (by omega) (by omega) (by omega), fun i i0 i1 => vk 90 i (by unfold LoP; omega) (fun _ => ⟨i0, i1⟩) (by omega) (by omega) (by omega), fun i g hn hg => vk (91 + g) i (by unfold LoP; omega) (fun _ => hi i hn) (by omega) (by omega) (by omega)⟩
theorem BK.val {v : Ty} (bk : BK V X cnt st vs sc fr zf zv H k pc) (hX : X = 16 ∨ X = 23) (vk : ∀ (p : Nat) (i : Int), LoP p → (90 ≤ p ∧ p ≤ 93 → 0 ≤ i ∧ i < vs) → (94 ≤ p ∧ p ≤ 97 → 0 ≤ i ∧ i < fr) → p ≠ 43 → p ≠ 51 → V' p i = V p i) (e4 : V' 51 4 = ((vs + 1 : Nat) : Int)) (e9 : V' 43 9 = V 43 9) (e10 : V' 43 10 = V 43 10) (e14 : V' 43 14 = 0) (e15 : V' 43 15 = V 43 15) (hc : VCk V' X cnt sc (Hup H vs v) (vs : Int) v) (hp : pc' + 1 ≤ pc) (z1 : zf ≤ zf') (z2 : vs < zv') : BK V' X cnt st (vs + 1) sc fr zf' zv' (Hup H vs v) k pc' := by
  have kp := Kpk.of bk hX vk
  obtain ⟨⟨c1, c2, c3, c4, c5⟩, h1, ⟨h2, h3, h4, h5, h6⟩, h7⟩ := bk
  have hf := h1.fresh
  refine ⟨⟨e4, by rw [e10]; exact c2, by rw [e9]; exact c3, e14, by rw [e15]; exact c5⟩, h1.up kp (Nat.le_refl _) (by omega) hf ⟨by omega, by omega⟩ hc, ⟨h2, h3, by omega, by omega, by omega⟩, ?_⟩
  refine h7.keep kp (Hup.le hf) (Nat.le_refl _) (Nat.le_refl _) (by omega) (Int.le_refl _) (fun p q p1 p2 q0 q1 => vk p q (by unfold LoP; omega) (by omega) (fun _ => ⟨q0, q1⟩) (by omega) (by omega)) (fun i i0 i1 hn => ⟨?_, fun g hg => vk (91 + g) i (by unfold LoP; omega) (fun _ => ⟨i0, i1⟩) (by omega) (by omega) (by omega)⟩)
  unfold Hup
  rw [if_neg (by omega)]; exact hn
theorem BK.rcd (bk : BK V X cnt st vs sc fr zf zv H k pc) (hX : X = 16 ∨ X = 23) (vk : ∀ (p : Nat) (i : Int), LoP p → (90 ≤ p ∧ p ≤ 93 → 0 ≤ i ∧ i < vs) → (94 ≤ p ∧ p ≤ 97 → 0 ≤ i ∧ i < fr) → p ≠ 43 → p ≠ 51 → V' p i = V p i) (e4 : V' 51 4 = ((vs + 1 : Nat) : Int)) (e9 : V' 43 9 = V 43 9) (e10 : V' 43 10 = V 43 10) (e14 : V' 43 14 = 0) (e15 : V' 43 15 = V 43 15) (hp : pc' + 1 ≤ pc) (z1 : zf ≤ zf') (z2 : vs < zv') : BK V' X cnt st (vs + 1) sc fr zf' zv' H k pc' ∧ FRk V' X cnt sc st H k fr vs := by
  have kp := Kpk.of bk hX vk
  obtain ⟨⟨c1, c2, c3, c4, c5⟩, h1, ⟨h2, h3, h4, h5, h6⟩, h7⟩ := bk
  have f1 := h7.keep kp (H' := H) (fun _ _ x => x) (Nat.le_refl _) (Nat.le_refl _) (Int.le_refl _) (Int.le_refl _) (fun p q p1 p2 q0 q1 => vk p q (by unfold LoP; omega) (by omega) (fun _ => ⟨q0, q1⟩) (by omega) (by omega)) (fun i i0 i1 hn => ⟨hn, fun g hg => vk (91 + g) i (by unfold LoP; omega) (fun _ => ⟨i0, i1⟩) (by omega) (by omega) (by omega)⟩)
  refine ⟨⟨⟨e4, by rw [e10]; exact c2, by rw [e9]; exact c3, e14, by rw [e15]; exact c5⟩, fun i v hv => ?_, ⟨h2, h3, by omega, by omega, by omega⟩, ?_⟩, f1⟩
  · have := (h1.keep kp (Nat.le_refl _)) i v hv
    exact ⟨⟨this.1.1, by have := this.1.2; omega⟩, this.2⟩
  · exact h7.keep kp (fun _ _ x => x) (Nat.le_refl _) (Nat.le_refl _) (by omega) (Int.le_refl _) (fun p q p1 p2 q0 q1 => vk p q (by unfold LoP; omega) (by omega) (fun _ => ⟨q0, q1⟩) (by omega) (by omega)) (fun i i0 i1 hn => ⟨hn, fun g hg => vk (91 + g) i (by unfold LoP; omega) (fun _ => ⟨i0, i1⟩) (by omega) (by omega) (by omega)⟩)
theorem BK.push {f : Fr} {lim : Int} (bk : BK V X cnt st vs sc fr zf zv H k pc) (hX : X = 16 ∨ X = 23) (vk : ∀ (p : Nat) (i : Int), LoP p → (90 ≤ p ∧ p ≤ 93 → 0 ≤ i ∧ i < vs) → (94 ≤ p ∧ p ≤ 97 → 0 ≤ i ∧ i < fr) → p ≠ 43 → p ≠ 51 → V' p i = V p i) (e4 : V' 51 4 = V 51 4) (e9 : V' 43 9 = ((fr + 1 : Nat) : Int)) (e10 : V' 43 10 = V 43 10) (e14 : V' 43 14 = 0) (e15 : V' 43 15 = V 43 15) (hf : FrK V' X cnt sc st H f fr vs) (hl : nKd f.1 = 10 → lim ≤ V' 96 (fr : Int) ∧ FRk V X cnt sc st H k fr lim ∧ lim ≤ vs) (hp : pc' ≤ pc) (z1 : fr < zf') (z2 : zv ≤ zv') : BK V' X cnt st vs sc (fr + 1) zf' zv' H (f :: k) pc' := by
  have kp := Kpk.of bk hX vk
  obtain ⟨⟨c1, c2, c3, c4, c5⟩, h1, ⟨h2, h3, h4, h5, h6⟩, h7⟩ := bk
  refine ⟨⟨by rw [e4]; exact c1, by rw [e10]; exact c2, e9, e14, by rw [e15]; exact c5⟩, h1.keep kp (Nat.le_refl _), ⟨h2, h3, by omega, by omega, by omega⟩, ⟨fr, rfl, hf, ?_⟩⟩
  have go : ∀ {lm lm' : Int}, lm ≤ lm' → lm ≤ vs → FRk V X cnt sc st H k fr lm → FRk V' X cnt sc st H k fr lm' := fun l1 l2 hh => hh.keep kp (fun _ _ x => x) (Nat.le_refl _) (Nat.le_refl _) l1 l2 (fun p q p1 p2 q0 q1 => vk p q (by unfold LoP; omega) (by omega) (fun _ => ⟨q0, q1⟩) (by omega) (by omega)) (fun i i0 i1 hn => ⟨hn, fun g hg => vk (91 + g) i (by unfold LoP; omega) (fun _ => ⟨i0, by omega⟩) (by omega) (by omega) (by omega)⟩)
  by_cases c : nKd f.1 = 10
  · rw [if_pos c]
    obtain ⟨l1, l2, l3⟩ := hl c
    exact go l1 l3 l2
  · rw [if_neg c]
    exact go (Int.le_refl _) (Int.le_refl _) h7
end PmH8
section PmH8b
variable {d : Nat} {Q : Option Value → pm_S → Prop} {X cnt : Nat} {M : pm_M} {Rf : Nat → Nat → Nat} {K L : Nat → Nat} {n s zf zv zr st : Nat} {t ρ : Ty} {k : List Fr}
theorem c_enter6 (h : MR X Rf K L n zf zv zr) (hM : ∀ p i, R32 (M p i)) (pi : PI M X cnt 60) (c6 : cnt ≤ 60) (ck : CK (cvw M Rf) X cnt st zf zv (.inl (t, ρ, k))) (hk : nKd t = 6) (hq : EnP Q X cnt M Rf K L n s zf zv zr st (.inl (t, ρ, k))) : pm_Wc (d + 5) 117 [.ref 43] (zM M, Rf, K, L, n, s) Q := by
  obtain ⟨vs, sc, fr, H, bk, c13, ⟨F, nv, hF⟩, ec⟩ := ck
  have bk : BK (cvw M Rf) X cnt st vs sc fr zf zv H k (vN t + vpK k) := bk
  have bkc := bk
  obtain ⟨⟨b1, b2, b3, b4, b5⟩, hh, ⟨b6, b7, b8, b9, b10⟩, fk⟩ := bkc
  have kd := nv.kd
  have hG := h.1
  have hX := h.2.2.2.2.2.2
  have r8 := h.2.2.2.2.2.1
  have vn := vN_is nv.sp
  have x1 : ∀ g : Nat, g ≤ 6 → ∀ y : Int, cvw M Rf (X + g) y = M (X + g) y := fun g hg y => cvw_o (by omega)
  have x43 : ∀ y : Int, cvw M Rf 43 y = M 43 y := fun y => cvw_o (by omega)
  have x51 : ∀ y : Int, cvw M Rf 51 y = M 51 y := fun y => cvw_o (by omega)
  rw [x43] at c13 b2 b3 b4 b5
  rw [x51] at b1
  generalize ej : M 43 11 = j at *
  have ejv : cvw M Rf 43 11 = j := by rw [x43]; exact ej
  rw [ejv] at nv kd
  obtain ⟨k1, k2, k3, k4, k5, k6, k7, k8, k9, k10⟩ := kd
  rw [x1 1 (by omega)] at k3
  have r12 := hM 43 12
  have vn1 : 1 ≤ vN t := by rw [vn, if_pos (by omega)]; omega
  have hX0 := hX
  rcases hX with rfl | rfl
  · skip
    refine wc_in (ls0 := [some (.ref 43)]) (by decide) (Nat.le_of_ble_eq_true rfl) rfl rfl ?_
    refine wp_aload_n d117_0 rfl ?_
    refine wp_getR (q := 16) d117_1 rfl (hG.o (by decide) rfl) (by decide) r8 (by decide) ?_
    refine wp_getR (q := 17) d117_4 rfl (hG.o (by decide) rfl) (by decide) (hG.r (by decide +kernel)) (by decide) ?_
    refine wp_aload_n d117_7 rfl ?_
    refine wz_getI (v := j) d117_8 rfl (hG.o (by decide) rfl) (by decide) (ej) ?_
    refine wz_iald (z := 60) (v := 1) d117_11 (hG.a (by decide) rfl rfl) (by omega) (by omega) (by decide) (by rw [k3, hk]; rfl) ?_
    refine wp_table (t := 100) d117_12 (by decide +kernel) ?_
    refine wp_aload_n d117_100 rfl ?_
    refine wp_aload_n d117_101 rfl ?_
    refine wp_getR (q := 51) d117_102 rfl (hG.o (by decide) rfl) (by decide) (hG.r (by decide +kernel)) (by decide) ?_
    refine wp_aload_n d117_105 rfl ?_
    refine wz_getI (v := j) d117_106 rfl (hG.o (by decide) rfl) (by decide) (ej) ?_
    refine wp_aload_n d117_109 rfl ?_
    refine wz_getI (v := M 43 12) d117_110 rfl (hG.o (by decide) rfl) (by decide) (rfl) ?_
    refine wp_virt (as := [.int (zI (M 43 12)), .int (zI j)]) (rest := [.ref 43]) d117_113 rfl rfl rfl (hG.o (by decide) rfl) rfl rfl (Nat.le_of_ble_eq_true rfl) ?_
    refine wc_deep (show d + 1 + 3 ≤ d + 4 by omega) ?_
    refine c_makeV (vs := vs) h hM b1 b8 (by omega) (by rw [← ej]; exact hM _ _) r12 (fun M1 R1 K1 L1 n1 s1 zv1 mx1 vz1 hv1 vk1 => ?_)
    obtain ⟨v90, v91, v92, v93, v4⟩ := hv1
    have h1 := mx1.1
    have hG1 := h1.1
    have c13' : mset M1 43 13 (vs : Int) 43 13 = (vs : Int) := mset_s _ _ _ _
    refine wz_putI (i := 13) d117_116 rfl (hG1.o (by decide) rfl) rfl (by decide) rfl ?_
    refine wp_aload_n d117_119 rfl ?_
    refine wp_aload_n d117_120 rfl ?_
    refine wz_getI (v := (vs : Int)) d117_121 rfl (hG1.o (by decide) rfl) (by decide) (c13') ?_
    refine wz_iconst d117_124 ?_
    refine wz_icmp_ne (t := 132) d117_125 (by decide) ⟨by omega, by omega⟩ ⟨by omega, by omega⟩ (fun _ => ?_) (fun hb => absurd hb (by omega))
    refine wz_iconst d117_132 ?_
    refine wz_putI (i := 14) d117_133 rfl (hG1.o (by decide) rfl) (by decide) (by decide) rfl ?_
    refine wp_goto (t := 232) d117_136 (by decide) ?_
    have l43 : LoP 43 := by unfold LoP; omega
    have l51 : LoP 51 := by unfold LoP; omega
    have mx : MX 16 M Rf K L n s zf zv zr (mset (mset M1 43 13 (vs : Int)) 43 14 0) R1 K1 L1 n1 s1 zf zv1 := (mx1.set (Or.inl ⟨rfl, by omega, by omega⟩) ⟨by omega, by omega⟩).set (Or.inl ⟨rfl, by omega, by omega⟩) ⟨by omega, by omega⟩
    have vw : ∀ (p : Nat) (y : Int), LoP p → (90 ≤ p ∧ p ≤ 93 → 0 ≤ y ∧ y < vs) → (94 ≤ p ∧ p ≤ 97 → 0 ≤ y ∧ y < fr) → p ≠ 43 → p ≠ 51 → cvw (mset (mset M1 43 13 (vs : Int)) 43 14 0) R1 p y = cvw M Rf p y := fun p y lo q1 q2 n1 n2 => by
      rw [cvw43 (Or.inl rfl) h1 lo, cvw43 (Or.inl rfl) h1 lo, if_neg (by omega), if_neg (by omega)]
      exact vk1 p y lo q1 (fun e => ⟨(q2 e).1, by have := (q2 e).2; omega⟩) (by omega)
    have w43 : ∀ y : Int, y ≠ 13 → y ≠ 14 → cvw (mset (mset M1 43 13 (vs : Int)) 43 14 0) R1 43 y = cvw M Rf 43 y := fun y y1 y2 => by
      rw [cvw43 (Or.inl rfl) h1 l43, cvw43 (Or.inl rfl) h1 l43, if_neg (by omega), if_neg (by omega)]
      exact vk1 43 y l43 (by omega) (by omega) (by omega)
    have wr : ∀ g : Nat, g < 4 → ∀ y : Int, cvw (mset (mset M1 43 13 (vs : Int)) 43 14 0) R1 (90 + g) y = cvw M1 R1 (90 + g) y := fun g hg y => by
      rw [cvw43 (Or.inl rfl) h1 (by unfold LoP; omega), cvw43 (Or.inl rfl) h1 (by unfold LoP; omega), if_neg (by omega), if_neg (by omega)]
    have kp := Kpk.of bk hX0 vw
    have ea := ec.keep kp.1 kp.2.1 (Hup.le (v := vC t ρ) hh.fresh) (Nat.le_refl _)
    have hup : Hup H (vs : Int) (vC t ρ) (vs : Int) = some (vC t ρ) := by unfold Hup; rw [if_pos rfl]
    have vc : VCk (cvw (mset (mset M1 43 13 (vs : Int)) 43 14 0) R1) 16 cnt sc (Hup H vs (vC t ρ)) (vs : Int) (vC t ρ) := Or.inl ⟨F, t, ρ, rfl, by omega, by rw [wr 0 (by omega), v90]; exact nv.keep kp.1, by rw [wr 1 (by omega), v91]; rw [x43] at ea; exact ea⟩
    have b' := bk.val (V' := cvw (mset (mset M1 43 13 (vs : Int)) 43 14 0) R1) (zf' := zf) (zv' := zv1) (pc' := vpK k) hX0 vw (by rw [cvw43 (Or.inl rfl) h1 l51, cvw43 (Or.inl rfl) h1 l51, if_neg (by omega), if_neg (by omega), cvw_o (by omega), v4]; rfl) (w43 9 (by omega) (by omega)) (w43 10 (by omega) (by omega)) (by rw [cvw43 (Or.inl rfl) h1 l43, if_pos ⟨rfl, rfl⟩]) (w43 15 (by omega) (by omega)) vc (by omega) (Nat.le_refl _) (by omega)
    have e16 : (mset (mset M1 43 13 (vs : Int)) 43 14 0) 43 16 = M 43 16 := by
      have := w43 16 (by omega) (by omega)
      rw [cvw_o (by omega), cvw_o (by omega)] at this
      exact this
    exact wp_ret d117_232 rfl (hq.1 false (.inr (vC t ρ, k)) _ R1 K1 L1 n1 s1 zf zv1 (mv_6 (by omega)) mx e16 ⟨vs + 1, sc, fr, _, b', by show Hup H vs (vC t ρ) (cvw (mset (mset M1 43 13 (vs : Int)) 43 14 0) R1 43 13) = _; rw [cvw43 (Or.inl rfl) h1 l43, cvw43 (Or.inl rfl) h1 l43, if_neg (by omega), if_pos ⟨rfl, rfl⟩]; exact hup⟩)
  · skip
    refine wc_in (ls0 := [some (.ref 43)]) (by decide) (Nat.le_of_ble_eq_true rfl) rfl rfl ?_
    refine wp_aload_n d117_0 rfl ?_
    refine wp_getR (q := 23) d117_1 rfl (hG.o (by decide) rfl) (by decide) r8 (by decide) ?_
    refine wp_getR (q := 24) d117_4 rfl (hG.o (by decide) rfl) (by decide) (hG.r (by decide +kernel)) (by decide) ?_
    refine wp_aload_n d117_7 rfl ?_
    refine wz_getI (v := j) d117_8 rfl (hG.o (by decide) rfl) (by decide) (ej) ?_
    refine wz_iald (z := 60) (v := 1) d117_11 (hG.a (by decide) rfl rfl) (by omega) (by omega) (by decide) (by rw [k3, hk]; rfl) ?_
    refine wp_table (t := 100) d117_12 (by decide +kernel) ?_
    refine wp_aload_n d117_100 rfl ?_
    refine wp_aload_n d117_101 rfl ?_
    refine wp_getR (q := 51) d117_102 rfl (hG.o (by decide) rfl) (by decide) (hG.r (by decide +kernel)) (by decide) ?_
    refine wp_aload_n d117_105 rfl ?_
    refine wz_getI (v := j) d117_106 rfl (hG.o (by decide) rfl) (by decide) (ej) ?_
    refine wp_aload_n d117_109 rfl ?_
    refine wz_getI (v := M 43 12) d117_110 rfl (hG.o (by decide) rfl) (by decide) (rfl) ?_
    refine wp_virt (as := [.int (zI (M 43 12)), .int (zI j)]) (rest := [.ref 43]) d117_113 rfl rfl rfl (hG.o (by decide) rfl) rfl rfl (Nat.le_of_ble_eq_true rfl) ?_
    refine wc_deep (show d + 1 + 3 ≤ d + 4 by omega) ?_
    refine c_makeV (vs := vs) h hM b1 b8 (by omega) (by rw [← ej]; exact hM _ _) r12 (fun M1 R1 K1 L1 n1 s1 zv1 mx1 vz1 hv1 vk1 => ?_)
    obtain ⟨v90, v91, v92, v93, v4⟩ := hv1
    have h1 := mx1.1
    have hG1 := h1.1
    have c13' : mset M1 43 13 (vs : Int) 43 13 = (vs : Int) := mset_s _ _ _ _
    refine wz_putI (i := 13) d117_116 rfl (hG1.o (by decide) rfl) rfl (by decide) rfl ?_
    refine wp_aload_n d117_119 rfl ?_
    refine wp_aload_n d117_120 rfl ?_
    refine wz_getI (v := (vs : Int)) d117_121 rfl (hG1.o (by decide) rfl) (by decide) (c13') ?_
    refine wz_iconst d117_124 ?_
    refine wz_icmp_ne (t := 132) d117_125 (by decide) ⟨by omega, by omega⟩ ⟨by omega, by omega⟩ (fun _ => ?_) (fun hb => absurd hb (by omega))
    refine wz_iconst d117_132 ?_
    refine wz_putI (i := 14) d117_133 rfl (hG1.o (by decide) rfl) (by decide) (by decide) rfl ?_
    refine wp_goto (t := 232) d117_136 (by decide) ?_
    have l43 : LoP 43 := by unfold LoP; omega
    have l51 : LoP 51 := by unfold LoP; omega
    have mx : MX 23 M Rf K L n s zf zv zr (mset (mset M1 43 13 (vs : Int)) 43 14 0) R1 K1 L1 n1 s1 zf zv1 := (mx1.set (Or.inl ⟨rfl, by omega, by omega⟩) ⟨by omega, by omega⟩).set (Or.inl ⟨rfl, by omega, by omega⟩) ⟨by omega, by omega⟩
    have vw : ∀ (p : Nat) (y : Int), LoP p → (90 ≤ p ∧ p ≤ 93 → 0 ≤ y ∧ y < vs) → (94 ≤ p ∧ p ≤ 97 → 0 ≤ y ∧ y < fr) → p ≠ 43 → p ≠ 51 → cvw (mset (mset M1 43 13 (vs : Int)) 43 14 0) R1 p y = cvw M Rf p y := fun p y lo q1 q2 n1 n2 => by
      rw [cvw43 (Or.inl rfl) h1 lo, cvw43 (Or.inl rfl) h1 lo, if_neg (by omega), if_neg (by omega)]
      exact vk1 p y lo q1 (fun e => ⟨(q2 e).1, by have := (q2 e).2; omega⟩) (by omega)
    have w43 : ∀ y : Int, y ≠ 13 → y ≠ 14 → cvw (mset (mset M1 43 13 (vs : Int)) 43 14 0) R1 43 y = cvw M Rf 43 y := fun y y1 y2 => by
      rw [cvw43 (Or.inl rfl) h1 l43, cvw43 (Or.inl rfl) h1 l43, if_neg (by omega), if_neg (by omega)]
      exact vk1 43 y l43 (by omega) (by omega) (by omega)
    have wr : ∀ g : Nat, g < 4 → ∀ y : Int, cvw (mset (mset M1 43 13 (vs : Int)) 43 14 0) R1 (90 + g) y = cvw M1 R1 (90 + g) y := fun g hg y => by
      rw [cvw43 (Or.inl rfl) h1 (by unfold LoP; omega), cvw43 (Or.inl rfl) h1 (by unfold LoP; omega), if_neg (by omega), if_neg (by omega)]
    have kp := Kpk.of bk hX0 vw
    have ea := ec.keep kp.1 kp.2.1 (Hup.le (v := vC t ρ) hh.fresh) (Nat.le_refl _)
    have hup : Hup H (vs : Int) (vC t ρ) (vs : Int) = some (vC t ρ) := by unfold Hup; rw [if_pos rfl]
    have vc : VCk (cvw (mset (mset M1 43 13 (vs : Int)) 43 14 0) R1) 23 cnt sc (Hup H vs (vC t ρ)) (vs : Int) (vC t ρ) := Or.inl ⟨F, t, ρ, rfl, by omega, by rw [wr 0 (by omega), v90]; exact nv.keep kp.1, by rw [wr 1 (by omega), v91]; rw [x43] at ea; exact ea⟩
    have b' := bk.val (V' := cvw (mset (mset M1 43 13 (vs : Int)) 43 14 0) R1) (zf' := zf) (zv' := zv1) (pc' := vpK k) hX0 vw (by rw [cvw43 (Or.inl rfl) h1 l51, cvw43 (Or.inl rfl) h1 l51, if_neg (by omega), if_neg (by omega), cvw_o (by omega), v4]; rfl) (w43 9 (by omega) (by omega)) (w43 10 (by omega) (by omega)) (by rw [cvw43 (Or.inl rfl) h1 l43, if_pos ⟨rfl, rfl⟩]) (w43 15 (by omega) (by omega)) vc (by omega) (Nat.le_refl _) (by omega)
    have e16 : (mset (mset M1 43 13 (vs : Int)) 43 14 0) 43 16 = M 43 16 := by
      have := w43 16 (by omega) (by omega)
      rw [cvw_o (by omega), cvw_o (by omega)] at this
      exact this
    exact wp_ret d117_232 rfl (hq.1 false (.inr (vC t ρ, k)) _ R1 K1 L1 n1 s1 zf zv1 (mv_6 (by omega)) mx e16 ⟨vs + 1, sc, fr, _, b', by show Hup H vs (vC t ρ) (cvw (mset (mset M1 43 13 (vs : Int)) 43 14 0) R1 43 13) = _; rw [cvw43 (Or.inl rfl) h1 l43, cvw43 (Or.inl rfl) h1 l43, if_neg (by omega), if_pos ⟨rfl, rfl⟩]; exact hup⟩)
theorem c_enter8 (h : MR X Rf K L n zf zv zr) (hM : ∀ p i, R32 (M p i)) (pi : PI M X cnt 60) (c6 : cnt ≤ 60) (ck : CK (cvw M Rf) X cnt st zf zv (.inl (t, ρ, k))) (hk : nKd t = 8) (hq : EnP Q X cnt M Rf K L n s zf zv zr st (.inl (t, ρ, k))) : pm_Wc (d + 5) 117 [.ref 43] (zM M, Rf, K, L, n, s) Q := by
  obtain ⟨vs, sc, fr, H, bk, c13, ⟨F, nv, hF⟩, ec⟩ := ck
  have bk : BK (cvw M Rf) X cnt st vs sc fr zf zv H k (vN t + vpK k) := bk
  have bkc := bk
  obtain ⟨⟨b1, b2, b3, b4, b5⟩, hh, ⟨b6, b7, b8, b9, b10⟩, fk⟩ := bkc
  have kd := nv.kd
  have hG := h.1
  have hX := h.2.2.2.2.2.2
  have r8 := h.2.2.2.2.2.1
  have vn := vN_is nv.sp
  have x1 : ∀ g : Nat, g ≤ 6 → ∀ y : Int, cvw M Rf (X + g) y = M (X + g) y := fun g hg y => cvw_o (by omega)
  have x43 : ∀ y : Int, cvw M Rf 43 y = M 43 y := fun y => cvw_o (by omega)
  have x51 : ∀ y : Int, cvw M Rf 51 y = M 51 y := fun y => cvw_o (by omega)
  rw [x43] at c13 b2 b3 b4 b5
  rw [x51] at b1
  generalize ej : M 43 11 = j at *
  have ejv : cvw M Rf 43 11 = j := by rw [x43]; exact ej
  rw [ejv] at nv kd
  obtain ⟨k1, k2, k3, k4, k5, k6, k7, k8, k9, k10⟩ := kd
  rw [x1 1 (by omega)] at k3
  have r12 := hM 43 12
  have vn1 : 1 ≤ vN t := by rw [vn, if_pos (by omega)]; omega
  have hX0 := hX
  rcases hX with rfl | rfl
  · skip
    refine wc_in (ls0 := [some (.ref 43)]) (by decide) (Nat.le_of_ble_eq_true rfl) rfl rfl ?_
    refine wp_aload_n d117_0 rfl ?_
    refine wp_getR (q := 16) d117_1 rfl (hG.o (by decide) rfl) (by decide) r8 (by decide) ?_
    refine wp_getR (q := 17) d117_4 rfl (hG.o (by decide) rfl) (by decide) (hG.r (by decide +kernel)) (by decide) ?_
    refine wp_aload_n d117_7 rfl ?_
    refine wz_getI (v := j) d117_8 rfl (hG.o (by decide) rfl) (by decide) (ej) ?_
    refine wz_iald (z := 60) (v := 3) d117_11 (hG.a (by decide) rfl rfl) (by omega) (by omega) (by decide) (by rw [k3, hk]; rfl) ?_
    refine wp_table (t := 100) d117_12 (by decide +kernel) ?_
    refine wp_aload_n d117_100 rfl ?_
    refine wp_aload_n d117_101 rfl ?_
    refine wp_getR (q := 51) d117_102 rfl (hG.o (by decide) rfl) (by decide) (hG.r (by decide +kernel)) (by decide) ?_
    refine wp_aload_n d117_105 rfl ?_
    refine wz_getI (v := j) d117_106 rfl (hG.o (by decide) rfl) (by decide) (ej) ?_
    refine wp_aload_n d117_109 rfl ?_
    refine wz_getI (v := M 43 12) d117_110 rfl (hG.o (by decide) rfl) (by decide) (rfl) ?_
    refine wp_virt (as := [.int (zI (M 43 12)), .int (zI j)]) (rest := [.ref 43]) d117_113 rfl rfl rfl (hG.o (by decide) rfl) rfl rfl (Nat.le_of_ble_eq_true rfl) ?_
    refine wc_deep (show d + 1 + 3 ≤ d + 4 by omega) ?_
    refine c_makeV (vs := vs) h hM b1 b8 (by omega) (by rw [← ej]; exact hM _ _) r12 (fun M1 R1 K1 L1 n1 s1 zv1 mx1 vz1 hv1 vk1 => ?_)
    obtain ⟨v90, v91, v92, v93, v4⟩ := hv1
    have h1 := mx1.1
    have hG1 := h1.1
    have c13' : mset M1 43 13 (vs : Int) 43 13 = (vs : Int) := mset_s _ _ _ _
    refine wz_putI (i := 13) d117_116 rfl (hG1.o (by decide) rfl) rfl (by decide) rfl ?_
    refine wp_aload_n d117_119 rfl ?_
    refine wp_aload_n d117_120 rfl ?_
    refine wz_getI (v := (vs : Int)) d117_121 rfl (hG1.o (by decide) rfl) (by decide) (c13') ?_
    refine wz_iconst d117_124 ?_
    refine wz_icmp_ne (t := 132) d117_125 (by decide) ⟨by omega, by omega⟩ ⟨by omega, by omega⟩ (fun _ => ?_) (fun hb => absurd hb (by omega))
    refine wz_iconst d117_132 ?_
    refine wz_putI (i := 14) d117_133 rfl (hG1.o (by decide) rfl) (by decide) (by decide) rfl ?_
    refine wp_goto (t := 232) d117_136 (by decide) ?_
    have l43 : LoP 43 := by unfold LoP; omega
    have l51 : LoP 51 := by unfold LoP; omega
    have mx : MX 16 M Rf K L n s zf zv zr (mset (mset M1 43 13 (vs : Int)) 43 14 0) R1 K1 L1 n1 s1 zf zv1 := (mx1.set (Or.inl ⟨rfl, by omega, by omega⟩) ⟨by omega, by omega⟩).set (Or.inl ⟨rfl, by omega, by omega⟩) ⟨by omega, by omega⟩
    have vw : ∀ (p : Nat) (y : Int), LoP p → (90 ≤ p ∧ p ≤ 93 → 0 ≤ y ∧ y < vs) → (94 ≤ p ∧ p ≤ 97 → 0 ≤ y ∧ y < fr) → p ≠ 43 → p ≠ 51 → cvw (mset (mset M1 43 13 (vs : Int)) 43 14 0) R1 p y = cvw M Rf p y := fun p y lo q1 q2 n1 n2 => by
      rw [cvw43 (Or.inl rfl) h1 lo, cvw43 (Or.inl rfl) h1 lo, if_neg (by omega), if_neg (by omega)]
      exact vk1 p y lo q1 (fun e => ⟨(q2 e).1, by have := (q2 e).2; omega⟩) (by omega)
    have w43 : ∀ y : Int, y ≠ 13 → y ≠ 14 → cvw (mset (mset M1 43 13 (vs : Int)) 43 14 0) R1 43 y = cvw M Rf 43 y := fun y y1 y2 => by
      rw [cvw43 (Or.inl rfl) h1 l43, cvw43 (Or.inl rfl) h1 l43, if_neg (by omega), if_neg (by omega)]
      exact vk1 43 y l43 (by omega) (by omega) (by omega)
    have wr : ∀ g : Nat, g < 4 → ∀ y : Int, cvw (mset (mset M1 43 13 (vs : Int)) 43 14 0) R1 (90 + g) y = cvw M1 R1 (90 + g) y := fun g hg y => by
      rw [cvw43 (Or.inl rfl) h1 (by unfold LoP; omega), cvw43 (Or.inl rfl) h1 (by unfold LoP; omega), if_neg (by omega), if_neg (by omega)]
    have kp := Kpk.of bk hX0 vw
    have ea := ec.keep kp.1 kp.2.1 (Hup.le (v := vC t ρ) hh.fresh) (Nat.le_refl _)
    have hup : Hup H (vs : Int) (vC t ρ) (vs : Int) = some (vC t ρ) := by unfold Hup; rw [if_pos rfl]
    have vc : VCk (cvw (mset (mset M1 43 13 (vs : Int)) 43 14 0) R1) 16 cnt sc (Hup H vs (vC t ρ)) (vs : Int) (vC t ρ) := Or.inl ⟨F, t, ρ, rfl, by omega, by rw [wr 0 (by omega), v90]; exact nv.keep kp.1, by rw [wr 1 (by omega), v91]; rw [x43] at ea; exact ea⟩
    have b' := bk.val (V' := cvw (mset (mset M1 43 13 (vs : Int)) 43 14 0) R1) (zf' := zf) (zv' := zv1) (pc' := vpK k) hX0 vw (by rw [cvw43 (Or.inl rfl) h1 l51, cvw43 (Or.inl rfl) h1 l51, if_neg (by omega), if_neg (by omega), cvw_o (by omega), v4]; rfl) (w43 9 (by omega) (by omega)) (w43 10 (by omega) (by omega)) (by rw [cvw43 (Or.inl rfl) h1 l43, if_pos ⟨rfl, rfl⟩]) (w43 15 (by omega) (by omega)) vc (by omega) (Nat.le_refl _) (by omega)
    have e16 : (mset (mset M1 43 13 (vs : Int)) 43 14 0) 43 16 = M 43 16 := by
      have := w43 16 (by omega) (by omega)
      rw [cvw_o (by omega), cvw_o (by omega)] at this
      exact this
    exact wp_ret d117_232 rfl (hq.1 false (.inr (vC t ρ, k)) _ R1 K1 L1 n1 s1 zf zv1 (mv_6 (by omega)) mx e16 ⟨vs + 1, sc, fr, _, b', by show Hup H vs (vC t ρ) (cvw (mset (mset M1 43 13 (vs : Int)) 43 14 0) R1 43 13) = _; rw [cvw43 (Or.inl rfl) h1 l43, cvw43 (Or.inl rfl) h1 l43, if_neg (by omega), if_pos ⟨rfl, rfl⟩]; exact hup⟩)
  · skip
    refine wc_in (ls0 := [some (.ref 43)]) (by decide) (Nat.le_of_ble_eq_true rfl) rfl rfl ?_
    refine wp_aload_n d117_0 rfl ?_
    refine wp_getR (q := 23) d117_1 rfl (hG.o (by decide) rfl) (by decide) r8 (by decide) ?_
    refine wp_getR (q := 24) d117_4 rfl (hG.o (by decide) rfl) (by decide) (hG.r (by decide +kernel)) (by decide) ?_
    refine wp_aload_n d117_7 rfl ?_
    refine wz_getI (v := j) d117_8 rfl (hG.o (by decide) rfl) (by decide) (ej) ?_
    refine wz_iald (z := 60) (v := 3) d117_11 (hG.a (by decide) rfl rfl) (by omega) (by omega) (by decide) (by rw [k3, hk]; rfl) ?_
    refine wp_table (t := 100) d117_12 (by decide +kernel) ?_
    refine wp_aload_n d117_100 rfl ?_
    refine wp_aload_n d117_101 rfl ?_
    refine wp_getR (q := 51) d117_102 rfl (hG.o (by decide) rfl) (by decide) (hG.r (by decide +kernel)) (by decide) ?_
    refine wp_aload_n d117_105 rfl ?_
    refine wz_getI (v := j) d117_106 rfl (hG.o (by decide) rfl) (by decide) (ej) ?_
    refine wp_aload_n d117_109 rfl ?_
    refine wz_getI (v := M 43 12) d117_110 rfl (hG.o (by decide) rfl) (by decide) (rfl) ?_
    refine wp_virt (as := [.int (zI (M 43 12)), .int (zI j)]) (rest := [.ref 43]) d117_113 rfl rfl rfl (hG.o (by decide) rfl) rfl rfl (Nat.le_of_ble_eq_true rfl) ?_
    refine wc_deep (show d + 1 + 3 ≤ d + 4 by omega) ?_
    refine c_makeV (vs := vs) h hM b1 b8 (by omega) (by rw [← ej]; exact hM _ _) r12 (fun M1 R1 K1 L1 n1 s1 zv1 mx1 vz1 hv1 vk1 => ?_)
    obtain ⟨v90, v91, v92, v93, v4⟩ := hv1
    have h1 := mx1.1
    have hG1 := h1.1
    have c13' : mset M1 43 13 (vs : Int) 43 13 = (vs : Int) := mset_s _ _ _ _
    refine wz_putI (i := 13) d117_116 rfl (hG1.o (by decide) rfl) rfl (by decide) rfl ?_
    refine wp_aload_n d117_119 rfl ?_
    refine wp_aload_n d117_120 rfl ?_
    refine wz_getI (v := (vs : Int)) d117_121 rfl (hG1.o (by decide) rfl) (by decide) (c13') ?_
    refine wz_iconst d117_124 ?_
    refine wz_icmp_ne (t := 132) d117_125 (by decide) ⟨by omega, by omega⟩ ⟨by omega, by omega⟩ (fun _ => ?_) (fun hb => absurd hb (by omega))
    refine wz_iconst d117_132 ?_
    refine wz_putI (i := 14) d117_133 rfl (hG1.o (by decide) rfl) (by decide) (by decide) rfl ?_
    refine wp_goto (t := 232) d117_136 (by decide) ?_
    have l43 : LoP 43 := by unfold LoP; omega
    have l51 : LoP 51 := by unfold LoP; omega
    have mx : MX 23 M Rf K L n s zf zv zr (mset (mset M1 43 13 (vs : Int)) 43 14 0) R1 K1 L1 n1 s1 zf zv1 := (mx1.set (Or.inl ⟨rfl, by omega, by omega⟩) ⟨by omega, by omega⟩).set (Or.inl ⟨rfl, by omega, by omega⟩) ⟨by omega, by omega⟩
    have vw : ∀ (p : Nat) (y : Int), LoP p → (90 ≤ p ∧ p ≤ 93 → 0 ≤ y ∧ y < vs) → (94 ≤ p ∧ p ≤ 97 → 0 ≤ y ∧ y < fr) → p ≠ 43 → p ≠ 51 → cvw (mset (mset M1 43 13 (vs : Int)) 43 14 0) R1 p y = cvw M Rf p y := fun p y lo q1 q2 n1 n2 => by
      rw [cvw43 (Or.inl rfl) h1 lo, cvw43 (Or.inl rfl) h1 lo, if_neg (by omega), if_neg (by omega)]
      exact vk1 p y lo q1 (fun e => ⟨(q2 e).1, by have := (q2 e).2; omega⟩) (by omega)
    have w43 : ∀ y : Int, y ≠ 13 → y ≠ 14 → cvw (mset (mset M1 43 13 (vs : Int)) 43 14 0) R1 43 y = cvw M Rf 43 y := fun y y1 y2 => by
      rw [cvw43 (Or.inl rfl) h1 l43, cvw43 (Or.inl rfl) h1 l43, if_neg (by omega), if_neg (by omega)]
      exact vk1 43 y l43 (by omega) (by omega) (by omega)
    have wr : ∀ g : Nat, g < 4 → ∀ y : Int, cvw (mset (mset M1 43 13 (vs : Int)) 43 14 0) R1 (90 + g) y = cvw M1 R1 (90 + g) y := fun g hg y => by
      rw [cvw43 (Or.inl rfl) h1 (by unfold LoP; omega), cvw43 (Or.inl rfl) h1 (by unfold LoP; omega), if_neg (by omega), if_neg (by omega)]
    have kp := Kpk.of bk hX0 vw
    have ea := ec.keep kp.1 kp.2.1 (Hup.le (v := vC t ρ) hh.fresh) (Nat.le_refl _)
    have hup : Hup H (vs : Int) (vC t ρ) (vs : Int) = some (vC t ρ) := by unfold Hup; rw [if_pos rfl]
    have vc : VCk (cvw (mset (mset M1 43 13 (vs : Int)) 43 14 0) R1) 23 cnt sc (Hup H vs (vC t ρ)) (vs : Int) (vC t ρ) := Or.inl ⟨F, t, ρ, rfl, by omega, by rw [wr 0 (by omega), v90]; exact nv.keep kp.1, by rw [wr 1 (by omega), v91]; rw [x43] at ea; exact ea⟩
    have b' := bk.val (V' := cvw (mset (mset M1 43 13 (vs : Int)) 43 14 0) R1) (zf' := zf) (zv' := zv1) (pc' := vpK k) hX0 vw (by rw [cvw43 (Or.inl rfl) h1 l51, cvw43 (Or.inl rfl) h1 l51, if_neg (by omega), if_neg (by omega), cvw_o (by omega), v4]; rfl) (w43 9 (by omega) (by omega)) (w43 10 (by omega) (by omega)) (by rw [cvw43 (Or.inl rfl) h1 l43, if_pos ⟨rfl, rfl⟩]) (w43 15 (by omega) (by omega)) vc (by omega) (Nat.le_refl _) (by omega)
    have e16 : (mset (mset M1 43 13 (vs : Int)) 43 14 0) 43 16 = M 43 16 := by
      have := w43 16 (by omega) (by omega)
      rw [cvw_o (by omega), cvw_o (by omega)] at this
      exact this
    exact wp_ret d117_232 rfl (hq.1 false (.inr (vC t ρ, k)) _ R1 K1 L1 n1 s1 zf zv1 (mv_6 (by omega)) mx e16 ⟨vs + 1, sc, fr, _, b', by show Hup H vs (vC t ρ) (cvw (mset (mset M1 43 13 (vs : Int)) 43 14 0) R1 43 13) = _; rw [cvw43 (Or.inl rfl) h1 l43, cvw43 (Or.inl rfl) h1 l43, if_neg (by omega), if_pos ⟨rfl, rfl⟩]; exact hup⟩)
theorem c_enter7 (h : MR X Rf K L n zf zv zr) (hM : ∀ p i, R32 (M p i)) (pi : PI M X cnt 60) (c6 : cnt ≤ 60) (ck : CK (cvw M Rf) X cnt st zf zv (.inl (t, ρ, k))) (hk : nKd t = 7) (hq : EnP Q X cnt M Rf K L n s zf zv zr st (.inl (t, ρ, k))) : pm_Wc (d + 5) 117 [.ref 43] (zM M, Rf, K, L, n, s) Q := by
  obtain ⟨vs, sc, fr, H, bk, c13, ⟨F, nv, hF⟩, ec⟩ := ck
  have bk : BK (cvw M Rf) X cnt st vs sc fr zf zv H k (vN t + vpK k) := bk
  have bkc := bk
  obtain ⟨⟨b1, b2, b3, b4, b5⟩, hh, ⟨b6, b7, b8, b9, b10⟩, fk⟩ := bkc
  have kd := nv.kd
  have hG := h.1
  have hX := h.2.2.2.2.2.2
  have r8 := h.2.2.2.2.2.1
  have vn := vN_is nv.sp
  have x1 : ∀ g : Nat, g ≤ 6 → ∀ y : Int, cvw M Rf (X + g) y = M (X + g) y := fun g hg y => cvw_o (by omega)
  have x43 : ∀ y : Int, cvw M Rf 43 y = M 43 y := fun y => cvw_o (by omega)
  have x51 : ∀ y : Int, cvw M Rf 51 y = M 51 y := fun y => cvw_o (by omega)
  rw [x43] at c13 b2 b3 b4 b5
  rw [x51] at b1
  generalize ej : M 43 11 = j at *
  have ejv : cvw M Rf 43 11 = j := by rw [x43]; exact ej
  rw [ejv] at nv kd
  obtain ⟨k1, k2, k3, k4, k5, k6, k7, k8, k9, k10⟩ := kd
  rw [x1 1 (by omega)] at k3
  have r12 := hM 43 12
  have nx := nv.x (by omega)
  have hX0 := hX
  have vxy : vN (nX t) + vN (nY t) ≤ vN t := by omega
  rcases hX with rfl | rfl
  · skip
    refine wc_in (ls0 := [some (.ref 43)]) (by decide) (Nat.le_of_ble_eq_true rfl) rfl rfl ?_
    refine wp_aload_n d117_0 rfl ?_
    refine wp_getR (q := 16) d117_1 rfl (hG.o (by decide) rfl) (by decide) r8 (by decide) ?_
    refine wp_getR (q := 17) d117_4 rfl (hG.o (by decide) rfl) (by decide) (hG.r (by decide +kernel)) (by decide) ?_
    refine wp_aload_n d117_7 rfl ?_
    refine wz_getI (v := j) d117_8 rfl (hG.o (by decide) rfl) (by decide) (ej) ?_
    refine wz_iald (z := 60) (v := 2) d117_11 (hG.a (by decide) rfl rfl) (by omega) (by omega) (by decide) (by rw [k3, hk]; rfl) ?_
    refine wp_table (t := 206) d117_12 (by decide +kernel) ?_
    refine wp_aload_n d117_206 rfl ?_
    refine wz_iconst d117_207 ?_
    refine wz_iconst d117_208 ?_
    refine wp_virt (as := [.int (zI 0), .int (zI (-1))]) (rest := []) d117_209 rfl rfl rfl (hG.o (by decide) rfl) rfl rfl (Nat.le_of_ble_eq_true rfl) ?_
    refine wc_deep (show d + 1 + 3 ≤ d + 4 by omega) ?_
    refine c_push (fr := fr) (nd := j) (sc := M 43 12) h hM b3 ej rfl b9 (by omega) ⟨by omega, by omega⟩ ⟨by omega, by omega⟩ (fun M1 R1 K1 L1 n1 s1 zf1 mx1 fz1 hv1 vk1 => ?_)
    obtain ⟨v94, v95, v96, v97, v9⟩ := hv1
    have h1 := mx1.1
    have hG1 := h1.1
    have r81 := h1.2.2.2.2.2.1
    have l43 : LoP 43 := by unfold LoP; omega
    have l51 : LoP 51 := by unfold LoP; omega
    have y43 : ∀ y : Int, y ≠ 9 → M1 43 y = M 43 y := fun y hy => by
      have := vk1 43 y l43 (by omega) (by omega) (by omega)
      rw [cvw_o (by omega), cvw_o (by omega)] at this
      exact this
    have yX : ∀ g : Nat, g ≤ 6 → ∀ y : Int, M1 (16 + g) y = M (16 + g) y := fun g hg y => by
      have := vk1 (16 + g) y (by unfold LoP; omega) (by omega) (by omega) (by omega)
      rw [cvw_o (by omega), cvw_o (by omega)] at this
      exact this
    refine wp_aload_n d117_212 rfl ?_
    refine wp_aload_n d117_213 rfl ?_
    refine wp_getR (q := 16) d117_214 rfl (hG1.o (by decide) rfl) (by decide) r81 (by decide) ?_
    refine wp_getR (q := 20) d117_217 rfl (hG1.o (by decide) rfl) (by decide) (hG1.r (by decide +kernel)) (by decide) ?_
    refine wp_aload_n d117_220 rfl ?_
    refine wz_getI (v := j) d117_221 rfl (hG1.o (by decide) rfl) (by decide) ((y43 11 (by omega)).trans ej) ?_
    refine wz_iald (z := 60) (v := M 20 j) d117_224 (hG1.a (by decide) rfl rfl) (by omega) (by omega) (by decide) (yX 4 (by omega) j) ?_
    refine wp_aload_n d117_225 rfl ?_
    refine wz_getI (v := M 43 12) d117_226 rfl (hG1.o (by decide) rfl) (by decide) (y43 12 (by omega)) ?_
    refine wp_virt (as := [.int (zI (M 43 12)), .int (zI (M 20 j))]) (rest := []) d117_229 rfl rfl rfl (hG1.o (by decide) rfl) rfl rfl (Nat.le_of_ble_eq_true rfl) ?_
    refine wc_deep (show d + 3 + 1 ≤ d + 4 by omega) ?_
    refine c_goTo hG1 ?_
    have mx : MX 16 M Rf K L n s zf zv zr (mset (mset (mset M1 43 11 (M 20 j)) 43 12 (M 43 12)) 43 13 (-1)) R1 K1 L1 n1 s1 zf1 zv := ((mx1.set (Or.inl ⟨rfl, by omega, by omega⟩) (hM _ _)).set (Or.inl ⟨rfl, by omega, by omega⟩) r12).set (Or.inl ⟨rfl, by omega, by omega⟩) ⟨by omega, by omega⟩
    have vm : ∀ (p : Nat) (y : Int), LoP p → ¬ (p = 43 ∧ (y = 11 ∨ y = 12 ∨ y = 13)) → cvw (mset (mset (mset M1 43 11 (M 20 j)) 43 12 (M 43 12)) 43 13 (-1)) R1 p y = cvw M1 R1 p y := fun p y lo hn => by
      rw [cvw43 (Or.inl rfl) h1 lo, cvw43 (Or.inl rfl) h1 lo, cvw43 (Or.inl rfl) h1 lo, if_neg (by omega), if_neg (by omega), if_neg (by omega)]
    have vw : ∀ (p : Nat) (y : Int), LoP p → (90 ≤ p ∧ p ≤ 93 → 0 ≤ y ∧ y < vs) → (94 ≤ p ∧ p ≤ 97 → 0 ≤ y ∧ y < fr) → p ≠ 43 → p ≠ 51 → cvw (mset (mset (mset M1 43 11 (M 20 j)) 43 12 (M 43 12)) 43 13 (-1)) R1 p y = cvw M Rf p y := fun p y lo q1 q2 n1 n2 => (vm p y lo (by omega)).trans (vk1 p y lo (fun e => ⟨(q1 e).1, by have := (q1 e).2; omega⟩) q2 (by omega))
    have w43 : ∀ y : Int, y ≠ 9 → y ≠ 11 → y ≠ 12 → y ≠ 13 → cvw (mset (mset (mset M1 43 11 (M 20 j)) 43 12 (M 43 12)) 43 13 (-1)) R1 43 y = cvw M Rf 43 y := fun y y1 y2 y3 y4 => (vm 43 y l43 (by omega)).trans (vk1 43 y l43 (by omega) (by omega) (by omega))
    have kp := Kpk.of bk hX0 vw
    have ea : ECe (cvw (mset (mset (mset M1 43 11 (M 20 j)) 43 12 (M 43 12)) 43 13 (-1)) R1) 16 cnt sc H ρ (M 43 12) := by rw [← x43]; exact ec.keep kp.1 kp.2.1 (fun _ _ x => x) (Nat.le_refl _)
    have fm : FrK (cvw (mset (mset (mset M1 43 11 (M 20 j)) 43 12 (M 43 12)) 43 13 (-1)) R1) 16 cnt sc st H (t, ρ, .nil, 0) fr vs := ⟨by show nKd t = 7 ∨ nKd t = 9 ∨ nKd t = 10 ∨ nKd t = 11; omega, ⟨F, by rw [vm 94 _ (by unfold LoP; omega) (by omega), v94]; exact nv.keep kp.1, hF⟩, by rw [vm 95 _ (by unfold LoP; omega) (by omega), v95]; exact ea, fun _ => ⟨fun _ => by rw [vm 96 _ (by unfold LoP; omega) (by omega), v96], fun e => absurd rfl e⟩, fun e => absurd (show nKd t = 10 from e) (by omega)⟩
    have pf : vpF (t, ρ, .nil, 0) ≤ vN (nY t) := by
      unfold vpF
      show (if nKd t = 7 then (if (0 : Nat) = 0 then vN (nY t) else 0) else if nKd t = 10 then vpR t 0 else 0) ≤ _
      rw [hk]
      first | exact Nat.le_refl _ | exact Nat.zero_le _
    have b' := bk.push (V' := cvw (mset (mset (mset M1 43 11 (M 20 j)) 43 12 (M 43 12)) 43 13 (-1)) R1) (zf' := zf1) (zv' := zv) (lim := 0) (pc' := vN (nX t) + (vpF (t, ρ, .nil, 0) + vpK k)) hX0 vw ((vm 51 4 l51 (by omega)).trans (vk1 51 4 l51 (by omega) (by omega) (by omega))) (by rw [vm 43 9 l43 (by omega), cvw_o (by omega), v9]; rfl) (w43 10 (by omega) (by omega) (by omega) (by omega)) (by rw [w43 14 (by omega) (by omega) (by omega) (by omega), x43]; exact b4) (w43 15 (by omega) (by omega) (by omega) (by omega)) fm (fun e => absurd (show nKd t = 10 from e) (by omega)) (by omega) fz1 (Nat.le_refl _)
    have e16 : (mset (mset (mset M1 43 11 (M 20 j)) 43 12 (M 43 12)) 43 13 (-1)) 43 16 = M 43 16 := by
      have := w43 16 (by omega) (by omega) (by omega) (by omega)
      rw [cvw_o (by omega), cvw_o (by omega)] at this
      exact this
    have nxk := nx.keep (V' := cvw (mset (mset (mset M1 43 11 (M 20 j)) 43 12 (M 43 12)) 43 13 (-1)) R1) kp.1
    rw [x1 4 (by omega)] at nxk
    exact wp_ret d117_232 rfl (hq.1 false (.inl (nX t, ρ, (t, ρ, .nil, 0) :: k)) _ R1 K1 L1 n1 s1 zf1 zv (mv_x (by omega)) mx e16 ⟨vs, sc, fr + 1, H, b', by rw [cvw43 (Or.inl rfl) h1 l43, if_pos ⟨rfl, rfl⟩], ⟨F - 1, by rw [cvw43 (Or.inl rfl) h1 l43, cvw43 (Or.inl rfl) h1 l43, cvw43 (Or.inl rfl) h1 l43, if_neg (by omega), if_neg (by omega), if_pos ⟨rfl, rfl⟩]; exact nxk, by show fr + 1 + (F - 1) ≤ 24 * (st + 0 + 1); omega⟩, by rw [cvw43 (Or.inl rfl) h1 l43, cvw43 (Or.inl rfl) h1 l43, if_neg (by omega), if_pos ⟨rfl, rfl⟩]; exact ea⟩)
  · skip
    refine wc_in (ls0 := [some (.ref 43)]) (by decide) (Nat.le_of_ble_eq_true rfl) rfl rfl ?_
    refine wp_aload_n d117_0 rfl ?_
    refine wp_getR (q := 23) d117_1 rfl (hG.o (by decide) rfl) (by decide) r8 (by decide) ?_
    refine wp_getR (q := 24) d117_4 rfl (hG.o (by decide) rfl) (by decide) (hG.r (by decide +kernel)) (by decide) ?_
    refine wp_aload_n d117_7 rfl ?_
    refine wz_getI (v := j) d117_8 rfl (hG.o (by decide) rfl) (by decide) (ej) ?_
    refine wz_iald (z := 60) (v := 2) d117_11 (hG.a (by decide) rfl rfl) (by omega) (by omega) (by decide) (by rw [k3, hk]; rfl) ?_
    refine wp_table (t := 206) d117_12 (by decide +kernel) ?_
    refine wp_aload_n d117_206 rfl ?_
    refine wz_iconst d117_207 ?_
    refine wz_iconst d117_208 ?_
    refine wp_virt (as := [.int (zI 0), .int (zI (-1))]) (rest := []) d117_209 rfl rfl rfl (hG.o (by decide) rfl) rfl rfl (Nat.le_of_ble_eq_true rfl) ?_
    refine wc_deep (show d + 1 + 3 ≤ d + 4 by omega) ?_
    refine c_push (fr := fr) (nd := j) (sc := M 43 12) h hM b3 ej rfl b9 (by omega) ⟨by omega, by omega⟩ ⟨by omega, by omega⟩ (fun M1 R1 K1 L1 n1 s1 zf1 mx1 fz1 hv1 vk1 => ?_)
    obtain ⟨v94, v95, v96, v97, v9⟩ := hv1
    have h1 := mx1.1
    have hG1 := h1.1
    have r81 := h1.2.2.2.2.2.1
    have l43 : LoP 43 := by unfold LoP; omega
    have l51 : LoP 51 := by unfold LoP; omega
    have y43 : ∀ y : Int, y ≠ 9 → M1 43 y = M 43 y := fun y hy => by
      have := vk1 43 y l43 (by omega) (by omega) (by omega)
      rw [cvw_o (by omega), cvw_o (by omega)] at this
      exact this
    have yX : ∀ g : Nat, g ≤ 6 → ∀ y : Int, M1 (23 + g) y = M (23 + g) y := fun g hg y => by
      have := vk1 (23 + g) y (by unfold LoP; omega) (by omega) (by omega) (by omega)
      rw [cvw_o (by omega), cvw_o (by omega)] at this
      exact this
    refine wp_aload_n d117_212 rfl ?_
    refine wp_aload_n d117_213 rfl ?_
    refine wp_getR (q := 23) d117_214 rfl (hG1.o (by decide) rfl) (by decide) r81 (by decide) ?_
    refine wp_getR (q := 27) d117_217 rfl (hG1.o (by decide) rfl) (by decide) (hG1.r (by decide +kernel)) (by decide) ?_
    refine wp_aload_n d117_220 rfl ?_
    refine wz_getI (v := j) d117_221 rfl (hG1.o (by decide) rfl) (by decide) ((y43 11 (by omega)).trans ej) ?_
    refine wz_iald (z := 60) (v := M 27 j) d117_224 (hG1.a (by decide) rfl rfl) (by omega) (by omega) (by decide) (yX 4 (by omega) j) ?_
    refine wp_aload_n d117_225 rfl ?_
    refine wz_getI (v := M 43 12) d117_226 rfl (hG1.o (by decide) rfl) (by decide) (y43 12 (by omega)) ?_
    refine wp_virt (as := [.int (zI (M 43 12)), .int (zI (M 27 j))]) (rest := []) d117_229 rfl rfl rfl (hG1.o (by decide) rfl) rfl rfl (Nat.le_of_ble_eq_true rfl) ?_
    refine wc_deep (show d + 3 + 1 ≤ d + 4 by omega) ?_
    refine c_goTo hG1 ?_
    have mx : MX 23 M Rf K L n s zf zv zr (mset (mset (mset M1 43 11 (M 27 j)) 43 12 (M 43 12)) 43 13 (-1)) R1 K1 L1 n1 s1 zf1 zv := ((mx1.set (Or.inl ⟨rfl, by omega, by omega⟩) (hM _ _)).set (Or.inl ⟨rfl, by omega, by omega⟩) r12).set (Or.inl ⟨rfl, by omega, by omega⟩) ⟨by omega, by omega⟩
    have vm : ∀ (p : Nat) (y : Int), LoP p → ¬ (p = 43 ∧ (y = 11 ∨ y = 12 ∨ y = 13)) → cvw (mset (mset (mset M1 43 11 (M 27 j)) 43 12 (M 43 12)) 43 13 (-1)) R1 p y = cvw M1 R1 p y := fun p y lo hn => by
      rw [cvw43 (Or.inl rfl) h1 lo, cvw43 (Or.inl rfl) h1 lo, cvw43 (Or.inl rfl) h1 lo, if_neg (by omega), if_neg (by omega), if_neg (by omega)]
    have vw : ∀ (p : Nat) (y : Int), LoP p → (90 ≤ p ∧ p ≤ 93 → 0 ≤ y ∧ y < vs) → (94 ≤ p ∧ p ≤ 97 → 0 ≤ y ∧ y < fr) → p ≠ 43 → p ≠ 51 → cvw (mset (mset (mset M1 43 11 (M 27 j)) 43 12 (M 43 12)) 43 13 (-1)) R1 p y = cvw M Rf p y := fun p y lo q1 q2 n1 n2 => (vm p y lo (by omega)).trans (vk1 p y lo (fun e => ⟨(q1 e).1, by have := (q1 e).2; omega⟩) q2 (by omega))
    have w43 : ∀ y : Int, y ≠ 9 → y ≠ 11 → y ≠ 12 → y ≠ 13 → cvw (mset (mset (mset M1 43 11 (M 27 j)) 43 12 (M 43 12)) 43 13 (-1)) R1 43 y = cvw M Rf 43 y := fun y y1 y2 y3 y4 => (vm 43 y l43 (by omega)).trans (vk1 43 y l43 (by omega) (by omega) (by omega))
    have kp := Kpk.of bk hX0 vw
    have ea : ECe (cvw (mset (mset (mset M1 43 11 (M 27 j)) 43 12 (M 43 12)) 43 13 (-1)) R1) 23 cnt sc H ρ (M 43 12) := by rw [← x43]; exact ec.keep kp.1 kp.2.1 (fun _ _ x => x) (Nat.le_refl _)
    have fm : FrK (cvw (mset (mset (mset M1 43 11 (M 27 j)) 43 12 (M 43 12)) 43 13 (-1)) R1) 23 cnt sc st H (t, ρ, .nil, 0) fr vs := ⟨by show nKd t = 7 ∨ nKd t = 9 ∨ nKd t = 10 ∨ nKd t = 11; omega, ⟨F, by rw [vm 94 _ (by unfold LoP; omega) (by omega), v94]; exact nv.keep kp.1, hF⟩, by rw [vm 95 _ (by unfold LoP; omega) (by omega), v95]; exact ea, fun _ => ⟨fun _ => by rw [vm 96 _ (by unfold LoP; omega) (by omega), v96], fun e => absurd rfl e⟩, fun e => absurd (show nKd t = 10 from e) (by omega)⟩
    have pf : vpF (t, ρ, .nil, 0) ≤ vN (nY t) := by
      unfold vpF
      show (if nKd t = 7 then (if (0 : Nat) = 0 then vN (nY t) else 0) else if nKd t = 10 then vpR t 0 else 0) ≤ _
      rw [hk]
      first | exact Nat.le_refl _ | exact Nat.zero_le _
    have b' := bk.push (V' := cvw (mset (mset (mset M1 43 11 (M 27 j)) 43 12 (M 43 12)) 43 13 (-1)) R1) (zf' := zf1) (zv' := zv) (lim := 0) (pc' := vN (nX t) + (vpF (t, ρ, .nil, 0) + vpK k)) hX0 vw ((vm 51 4 l51 (by omega)).trans (vk1 51 4 l51 (by omega) (by omega) (by omega))) (by rw [vm 43 9 l43 (by omega), cvw_o (by omega), v9]; rfl) (w43 10 (by omega) (by omega) (by omega) (by omega)) (by rw [w43 14 (by omega) (by omega) (by omega) (by omega), x43]; exact b4) (w43 15 (by omega) (by omega) (by omega) (by omega)) fm (fun e => absurd (show nKd t = 10 from e) (by omega)) (by omega) fz1 (Nat.le_refl _)
    have e16 : (mset (mset (mset M1 43 11 (M 27 j)) 43 12 (M 43 12)) 43 13 (-1)) 43 16 = M 43 16 := by
      have := w43 16 (by omega) (by omega) (by omega) (by omega)
      rw [cvw_o (by omega), cvw_o (by omega)] at this
      exact this
    have nxk := nx.keep (V' := cvw (mset (mset (mset M1 43 11 (M 27 j)) 43 12 (M 43 12)) 43 13 (-1)) R1) kp.1
    rw [x1 4 (by omega)] at nxk
    exact wp_ret d117_232 rfl (hq.1 false (.inl (nX t, ρ, (t, ρ, .nil, 0) :: k)) _ R1 K1 L1 n1 s1 zf1 zv (mv_x (by omega)) mx e16 ⟨vs, sc, fr + 1, H, b', by rw [cvw43 (Or.inl rfl) h1 l43, if_pos ⟨rfl, rfl⟩], ⟨F - 1, by rw [cvw43 (Or.inl rfl) h1 l43, cvw43 (Or.inl rfl) h1 l43, cvw43 (Or.inl rfl) h1 l43, if_neg (by omega), if_neg (by omega), if_pos ⟨rfl, rfl⟩]; exact nxk, by show fr + 1 + (F - 1) ≤ 24 * (st + 0 + 1); omega⟩, by rw [cvw43 (Or.inl rfl) h1 l43, cvw43 (Or.inl rfl) h1 l43, if_neg (by omega), if_pos ⟨rfl, rfl⟩]; exact ea⟩)
theorem c_enter9 (h : MR X Rf K L n zf zv zr) (hM : ∀ p i, R32 (M p i)) (pi : PI M X cnt 60) (c6 : cnt ≤ 60) (ck : CK (cvw M Rf) X cnt st zf zv (.inl (t, ρ, k))) (hk : nKd t = 9) (hq : EnP Q X cnt M Rf K L n s zf zv zr st (.inl (t, ρ, k))) : pm_Wc (d + 5) 117 [.ref 43] (zM M, Rf, K, L, n, s) Q := by
  obtain ⟨vs, sc, fr, H, bk, c13, ⟨F, nv, hF⟩, ec⟩ := ck
  have bk : BK (cvw M Rf) X cnt st vs sc fr zf zv H k (vN t + vpK k) := bk
  have bkc := bk
  obtain ⟨⟨b1, b2, b3, b4, b5⟩, hh, ⟨b6, b7, b8, b9, b10⟩, fk⟩ := bkc
  have kd := nv.kd
  have hG := h.1
  have hX := h.2.2.2.2.2.2
  have r8 := h.2.2.2.2.2.1
  have vn := vN_is nv.sp
  have x1 : ∀ g : Nat, g ≤ 6 → ∀ y : Int, cvw M Rf (X + g) y = M (X + g) y := fun g hg y => cvw_o (by omega)
  have x43 : ∀ y : Int, cvw M Rf 43 y = M 43 y := fun y => cvw_o (by omega)
  have x51 : ∀ y : Int, cvw M Rf 51 y = M 51 y := fun y => cvw_o (by omega)
  rw [x43] at c13 b2 b3 b4 b5
  rw [x51] at b1
  generalize ej : M 43 11 = j at *
  have ejv : cvw M Rf 43 11 = j := by rw [x43]; exact ej
  rw [ejv] at nv kd
  obtain ⟨k1, k2, k3, k4, k5, k6, k7, k8, k9, k10⟩ := kd
  rw [x1 1 (by omega)] at k3
  have r12 := hM 43 12
  have nx := nv.x (by omega)
  have hX0 := hX
  have vxy : vN (nX t) + vN (nY t) ≤ vN t := by omega
  rcases hX with rfl | rfl
  · skip
    refine wc_in (ls0 := [some (.ref 43)]) (by decide) (Nat.le_of_ble_eq_true rfl) rfl rfl ?_
    refine wp_aload_n d117_0 rfl ?_
    refine wp_getR (q := 16) d117_1 rfl (hG.o (by decide) rfl) (by decide) r8 (by decide) ?_
    refine wp_getR (q := 17) d117_4 rfl (hG.o (by decide) rfl) (by decide) (hG.r (by decide +kernel)) (by decide) ?_
    refine wp_aload_n d117_7 rfl ?_
    refine wz_getI (v := j) d117_8 rfl (hG.o (by decide) rfl) (by decide) (ej) ?_
    refine wz_iald (z := 60) (v := 4) d117_11 (hG.a (by decide) rfl rfl) (by omega) (by omega) (by decide) (by rw [k3, hk]; rfl) ?_
    refine wp_table (t := 206) d117_12 (by decide +kernel) ?_
    refine wp_aload_n d117_206 rfl ?_
    refine wz_iconst d117_207 ?_
    refine wz_iconst d117_208 ?_
    refine wp_virt (as := [.int (zI 0), .int (zI (-1))]) (rest := []) d117_209 rfl rfl rfl (hG.o (by decide) rfl) rfl rfl (Nat.le_of_ble_eq_true rfl) ?_
    refine wc_deep (show d + 1 + 3 ≤ d + 4 by omega) ?_
    refine c_push (fr := fr) (nd := j) (sc := M 43 12) h hM b3 ej rfl b9 (by omega) ⟨by omega, by omega⟩ ⟨by omega, by omega⟩ (fun M1 R1 K1 L1 n1 s1 zf1 mx1 fz1 hv1 vk1 => ?_)
    obtain ⟨v94, v95, v96, v97, v9⟩ := hv1
    have h1 := mx1.1
    have hG1 := h1.1
    have r81 := h1.2.2.2.2.2.1
    have l43 : LoP 43 := by unfold LoP; omega
    have l51 : LoP 51 := by unfold LoP; omega
    have y43 : ∀ y : Int, y ≠ 9 → M1 43 y = M 43 y := fun y hy => by
      have := vk1 43 y l43 (by omega) (by omega) (by omega)
      rw [cvw_o (by omega), cvw_o (by omega)] at this
      exact this
    have yX : ∀ g : Nat, g ≤ 6 → ∀ y : Int, M1 (16 + g) y = M (16 + g) y := fun g hg y => by
      have := vk1 (16 + g) y (by unfold LoP; omega) (by omega) (by omega) (by omega)
      rw [cvw_o (by omega), cvw_o (by omega)] at this
      exact this
    refine wp_aload_n d117_212 rfl ?_
    refine wp_aload_n d117_213 rfl ?_
    refine wp_getR (q := 16) d117_214 rfl (hG1.o (by decide) rfl) (by decide) r81 (by decide) ?_
    refine wp_getR (q := 20) d117_217 rfl (hG1.o (by decide) rfl) (by decide) (hG1.r (by decide +kernel)) (by decide) ?_
    refine wp_aload_n d117_220 rfl ?_
    refine wz_getI (v := j) d117_221 rfl (hG1.o (by decide) rfl) (by decide) ((y43 11 (by omega)).trans ej) ?_
    refine wz_iald (z := 60) (v := M 20 j) d117_224 (hG1.a (by decide) rfl rfl) (by omega) (by omega) (by decide) (yX 4 (by omega) j) ?_
    refine wp_aload_n d117_225 rfl ?_
    refine wz_getI (v := M 43 12) d117_226 rfl (hG1.o (by decide) rfl) (by decide) (y43 12 (by omega)) ?_
    refine wp_virt (as := [.int (zI (M 43 12)), .int (zI (M 20 j))]) (rest := []) d117_229 rfl rfl rfl (hG1.o (by decide) rfl) rfl rfl (Nat.le_of_ble_eq_true rfl) ?_
    refine wc_deep (show d + 3 + 1 ≤ d + 4 by omega) ?_
    refine c_goTo hG1 ?_
    have mx : MX 16 M Rf K L n s zf zv zr (mset (mset (mset M1 43 11 (M 20 j)) 43 12 (M 43 12)) 43 13 (-1)) R1 K1 L1 n1 s1 zf1 zv := ((mx1.set (Or.inl ⟨rfl, by omega, by omega⟩) (hM _ _)).set (Or.inl ⟨rfl, by omega, by omega⟩) r12).set (Or.inl ⟨rfl, by omega, by omega⟩) ⟨by omega, by omega⟩
    have vm : ∀ (p : Nat) (y : Int), LoP p → ¬ (p = 43 ∧ (y = 11 ∨ y = 12 ∨ y = 13)) → cvw (mset (mset (mset M1 43 11 (M 20 j)) 43 12 (M 43 12)) 43 13 (-1)) R1 p y = cvw M1 R1 p y := fun p y lo hn => by
      rw [cvw43 (Or.inl rfl) h1 lo, cvw43 (Or.inl rfl) h1 lo, cvw43 (Or.inl rfl) h1 lo, if_neg (by omega), if_neg (by omega), if_neg (by omega)]
    have vw : ∀ (p : Nat) (y : Int), LoP p → (90 ≤ p ∧ p ≤ 93 → 0 ≤ y ∧ y < vs) → (94 ≤ p ∧ p ≤ 97 → 0 ≤ y ∧ y < fr) → p ≠ 43 → p ≠ 51 → cvw (mset (mset (mset M1 43 11 (M 20 j)) 43 12 (M 43 12)) 43 13 (-1)) R1 p y = cvw M Rf p y := fun p y lo q1 q2 n1 n2 => (vm p y lo (by omega)).trans (vk1 p y lo (fun e => ⟨(q1 e).1, by have := (q1 e).2; omega⟩) q2 (by omega))
    have w43 : ∀ y : Int, y ≠ 9 → y ≠ 11 → y ≠ 12 → y ≠ 13 → cvw (mset (mset (mset M1 43 11 (M 20 j)) 43 12 (M 43 12)) 43 13 (-1)) R1 43 y = cvw M Rf 43 y := fun y y1 y2 y3 y4 => (vm 43 y l43 (by omega)).trans (vk1 43 y l43 (by omega) (by omega) (by omega))
    have kp := Kpk.of bk hX0 vw
    have ea : ECe (cvw (mset (mset (mset M1 43 11 (M 20 j)) 43 12 (M 43 12)) 43 13 (-1)) R1) 16 cnt sc H ρ (M 43 12) := by rw [← x43]; exact ec.keep kp.1 kp.2.1 (fun _ _ x => x) (Nat.le_refl _)
    have fm : FrK (cvw (mset (mset (mset M1 43 11 (M 20 j)) 43 12 (M 43 12)) 43 13 (-1)) R1) 16 cnt sc st H (t, ρ, .nil, 0) fr vs := ⟨by show nKd t = 7 ∨ nKd t = 9 ∨ nKd t = 10 ∨ nKd t = 11; omega, ⟨F, by rw [vm 94 _ (by unfold LoP; omega) (by omega), v94]; exact nv.keep kp.1, hF⟩, by rw [vm 95 _ (by unfold LoP; omega) (by omega), v95]; exact ea, fun _ => ⟨fun _ => by rw [vm 96 _ (by unfold LoP; omega) (by omega), v96], fun e => absurd rfl e⟩, fun e => absurd (show nKd t = 10 from e) (by omega)⟩
    have pf : vpF (t, ρ, .nil, 0) ≤ vN (nY t) := by
      unfold vpF
      show (if nKd t = 7 then (if (0 : Nat) = 0 then vN (nY t) else 0) else if nKd t = 10 then vpR t 0 else 0) ≤ _
      rw [hk]
      first | exact Nat.le_refl _ | exact Nat.zero_le _
    have b' := bk.push (V' := cvw (mset (mset (mset M1 43 11 (M 20 j)) 43 12 (M 43 12)) 43 13 (-1)) R1) (zf' := zf1) (zv' := zv) (lim := 0) (pc' := vN (nX t) + (vpF (t, ρ, .nil, 0) + vpK k)) hX0 vw ((vm 51 4 l51 (by omega)).trans (vk1 51 4 l51 (by omega) (by omega) (by omega))) (by rw [vm 43 9 l43 (by omega), cvw_o (by omega), v9]; rfl) (w43 10 (by omega) (by omega) (by omega) (by omega)) (by rw [w43 14 (by omega) (by omega) (by omega) (by omega), x43]; exact b4) (w43 15 (by omega) (by omega) (by omega) (by omega)) fm (fun e => absurd (show nKd t = 10 from e) (by omega)) (by omega) fz1 (Nat.le_refl _)
    have e16 : (mset (mset (mset M1 43 11 (M 20 j)) 43 12 (M 43 12)) 43 13 (-1)) 43 16 = M 43 16 := by
      have := w43 16 (by omega) (by omega) (by omega) (by omega)
      rw [cvw_o (by omega), cvw_o (by omega)] at this
      exact this
    have nxk := nx.keep (V' := cvw (mset (mset (mset M1 43 11 (M 20 j)) 43 12 (M 43 12)) 43 13 (-1)) R1) kp.1
    rw [x1 4 (by omega)] at nxk
    exact wp_ret d117_232 rfl (hq.1 false (.inl (nX t, ρ, (t, ρ, .nil, 0) :: k)) _ R1 K1 L1 n1 s1 zf1 zv (mv_x (by omega)) mx e16 ⟨vs, sc, fr + 1, H, b', by rw [cvw43 (Or.inl rfl) h1 l43, if_pos ⟨rfl, rfl⟩], ⟨F - 1, by rw [cvw43 (Or.inl rfl) h1 l43, cvw43 (Or.inl rfl) h1 l43, cvw43 (Or.inl rfl) h1 l43, if_neg (by omega), if_neg (by omega), if_pos ⟨rfl, rfl⟩]; exact nxk, by show fr + 1 + (F - 1) ≤ 24 * (st + 0 + 1); omega⟩, by rw [cvw43 (Or.inl rfl) h1 l43, cvw43 (Or.inl rfl) h1 l43, if_neg (by omega), if_pos ⟨rfl, rfl⟩]; exact ea⟩)
  · skip
    refine wc_in (ls0 := [some (.ref 43)]) (by decide) (Nat.le_of_ble_eq_true rfl) rfl rfl ?_
    refine wp_aload_n d117_0 rfl ?_
    refine wp_getR (q := 23) d117_1 rfl (hG.o (by decide) rfl) (by decide) r8 (by decide) ?_
    refine wp_getR (q := 24) d117_4 rfl (hG.o (by decide) rfl) (by decide) (hG.r (by decide +kernel)) (by decide) ?_
    refine wp_aload_n d117_7 rfl ?_
    refine wz_getI (v := j) d117_8 rfl (hG.o (by decide) rfl) (by decide) (ej) ?_
    refine wz_iald (z := 60) (v := 4) d117_11 (hG.a (by decide) rfl rfl) (by omega) (by omega) (by decide) (by rw [k3, hk]; rfl) ?_
    refine wp_table (t := 206) d117_12 (by decide +kernel) ?_
    refine wp_aload_n d117_206 rfl ?_
    refine wz_iconst d117_207 ?_
    refine wz_iconst d117_208 ?_
    refine wp_virt (as := [.int (zI 0), .int (zI (-1))]) (rest := []) d117_209 rfl rfl rfl (hG.o (by decide) rfl) rfl rfl (Nat.le_of_ble_eq_true rfl) ?_
    refine wc_deep (show d + 1 + 3 ≤ d + 4 by omega) ?_
    refine c_push (fr := fr) (nd := j) (sc := M 43 12) h hM b3 ej rfl b9 (by omega) ⟨by omega, by omega⟩ ⟨by omega, by omega⟩ (fun M1 R1 K1 L1 n1 s1 zf1 mx1 fz1 hv1 vk1 => ?_)
    obtain ⟨v94, v95, v96, v97, v9⟩ := hv1
    have h1 := mx1.1
    have hG1 := h1.1
    have r81 := h1.2.2.2.2.2.1
    have l43 : LoP 43 := by unfold LoP; omega
    have l51 : LoP 51 := by unfold LoP; omega
    have y43 : ∀ y : Int, y ≠ 9 → M1 43 y = M 43 y := fun y hy => by
      have := vk1 43 y l43 (by omega) (by omega) (by omega)
      rw [cvw_o (by omega), cvw_o (by omega)] at this
      exact this
    have yX : ∀ g : Nat, g ≤ 6 → ∀ y : Int, M1 (23 + g) y = M (23 + g) y := fun g hg y => by
      have := vk1 (23 + g) y (by unfold LoP; omega) (by omega) (by omega) (by omega)
      rw [cvw_o (by omega), cvw_o (by omega)] at this
      exact this
    refine wp_aload_n d117_212 rfl ?_
    refine wp_aload_n d117_213 rfl ?_
    refine wp_getR (q := 23) d117_214 rfl (hG1.o (by decide) rfl) (by decide) r81 (by decide) ?_
    refine wp_getR (q := 27) d117_217 rfl (hG1.o (by decide) rfl) (by decide) (hG1.r (by decide +kernel)) (by decide) ?_
    refine wp_aload_n d117_220 rfl ?_
    refine wz_getI (v := j) d117_221 rfl (hG1.o (by decide) rfl) (by decide) ((y43 11 (by omega)).trans ej) ?_
    refine wz_iald (z := 60) (v := M 27 j) d117_224 (hG1.a (by decide) rfl rfl) (by omega) (by omega) (by decide) (yX 4 (by omega) j) ?_
    refine wp_aload_n d117_225 rfl ?_
    refine wz_getI (v := M 43 12) d117_226 rfl (hG1.o (by decide) rfl) (by decide) (y43 12 (by omega)) ?_
    refine wp_virt (as := [.int (zI (M 43 12)), .int (zI (M 27 j))]) (rest := []) d117_229 rfl rfl rfl (hG1.o (by decide) rfl) rfl rfl (Nat.le_of_ble_eq_true rfl) ?_
    refine wc_deep (show d + 3 + 1 ≤ d + 4 by omega) ?_
    refine c_goTo hG1 ?_
    have mx : MX 23 M Rf K L n s zf zv zr (mset (mset (mset M1 43 11 (M 27 j)) 43 12 (M 43 12)) 43 13 (-1)) R1 K1 L1 n1 s1 zf1 zv := ((mx1.set (Or.inl ⟨rfl, by omega, by omega⟩) (hM _ _)).set (Or.inl ⟨rfl, by omega, by omega⟩) r12).set (Or.inl ⟨rfl, by omega, by omega⟩) ⟨by omega, by omega⟩
    have vm : ∀ (p : Nat) (y : Int), LoP p → ¬ (p = 43 ∧ (y = 11 ∨ y = 12 ∨ y = 13)) → cvw (mset (mset (mset M1 43 11 (M 27 j)) 43 12 (M 43 12)) 43 13 (-1)) R1 p y = cvw M1 R1 p y := fun p y lo hn => by
      rw [cvw43 (Or.inl rfl) h1 lo, cvw43 (Or.inl rfl) h1 lo, cvw43 (Or.inl rfl) h1 lo, if_neg (by omega), if_neg (by omega), if_neg (by omega)]
    have vw : ∀ (p : Nat) (y : Int), LoP p → (90 ≤ p ∧ p ≤ 93 → 0 ≤ y ∧ y < vs) → (94 ≤ p ∧ p ≤ 97 → 0 ≤ y ∧ y < fr) → p ≠ 43 → p ≠ 51 → cvw (mset (mset (mset M1 43 11 (M 27 j)) 43 12 (M 43 12)) 43 13 (-1)) R1 p y = cvw M Rf p y := fun p y lo q1 q2 n1 n2 => (vm p y lo (by omega)).trans (vk1 p y lo (fun e => ⟨(q1 e).1, by have := (q1 e).2; omega⟩) q2 (by omega))
    have w43 : ∀ y : Int, y ≠ 9 → y ≠ 11 → y ≠ 12 → y ≠ 13 → cvw (mset (mset (mset M1 43 11 (M 27 j)) 43 12 (M 43 12)) 43 13 (-1)) R1 43 y = cvw M Rf 43 y := fun y y1 y2 y3 y4 => (vm 43 y l43 (by omega)).trans (vk1 43 y l43 (by omega) (by omega) (by omega))
    have kp := Kpk.of bk hX0 vw
    have ea : ECe (cvw (mset (mset (mset M1 43 11 (M 27 j)) 43 12 (M 43 12)) 43 13 (-1)) R1) 23 cnt sc H ρ (M 43 12) := by rw [← x43]; exact ec.keep kp.1 kp.2.1 (fun _ _ x => x) (Nat.le_refl _)
    have fm : FrK (cvw (mset (mset (mset M1 43 11 (M 27 j)) 43 12 (M 43 12)) 43 13 (-1)) R1) 23 cnt sc st H (t, ρ, .nil, 0) fr vs := ⟨by show nKd t = 7 ∨ nKd t = 9 ∨ nKd t = 10 ∨ nKd t = 11; omega, ⟨F, by rw [vm 94 _ (by unfold LoP; omega) (by omega), v94]; exact nv.keep kp.1, hF⟩, by rw [vm 95 _ (by unfold LoP; omega) (by omega), v95]; exact ea, fun _ => ⟨fun _ => by rw [vm 96 _ (by unfold LoP; omega) (by omega), v96], fun e => absurd rfl e⟩, fun e => absurd (show nKd t = 10 from e) (by omega)⟩
    have pf : vpF (t, ρ, .nil, 0) ≤ vN (nY t) := by
      unfold vpF
      show (if nKd t = 7 then (if (0 : Nat) = 0 then vN (nY t) else 0) else if nKd t = 10 then vpR t 0 else 0) ≤ _
      rw [hk]
      first | exact Nat.le_refl _ | exact Nat.zero_le _
    have b' := bk.push (V' := cvw (mset (mset (mset M1 43 11 (M 27 j)) 43 12 (M 43 12)) 43 13 (-1)) R1) (zf' := zf1) (zv' := zv) (lim := 0) (pc' := vN (nX t) + (vpF (t, ρ, .nil, 0) + vpK k)) hX0 vw ((vm 51 4 l51 (by omega)).trans (vk1 51 4 l51 (by omega) (by omega) (by omega))) (by rw [vm 43 9 l43 (by omega), cvw_o (by omega), v9]; rfl) (w43 10 (by omega) (by omega) (by omega) (by omega)) (by rw [w43 14 (by omega) (by omega) (by omega) (by omega), x43]; exact b4) (w43 15 (by omega) (by omega) (by omega) (by omega)) fm (fun e => absurd (show nKd t = 10 from e) (by omega)) (by omega) fz1 (Nat.le_refl _)
    have e16 : (mset (mset (mset M1 43 11 (M 27 j)) 43 12 (M 43 12)) 43 13 (-1)) 43 16 = M 43 16 := by
      have := w43 16 (by omega) (by omega) (by omega) (by omega)
      rw [cvw_o (by omega), cvw_o (by omega)] at this
      exact this
    have nxk := nx.keep (V' := cvw (mset (mset (mset M1 43 11 (M 27 j)) 43 12 (M 43 12)) 43 13 (-1)) R1) kp.1
    rw [x1 4 (by omega)] at nxk
    exact wp_ret d117_232 rfl (hq.1 false (.inl (nX t, ρ, (t, ρ, .nil, 0) :: k)) _ R1 K1 L1 n1 s1 zf1 zv (mv_x (by omega)) mx e16 ⟨vs, sc, fr + 1, H, b', by rw [cvw43 (Or.inl rfl) h1 l43, if_pos ⟨rfl, rfl⟩], ⟨F - 1, by rw [cvw43 (Or.inl rfl) h1 l43, cvw43 (Or.inl rfl) h1 l43, cvw43 (Or.inl rfl) h1 l43, if_neg (by omega), if_neg (by omega), if_pos ⟨rfl, rfl⟩]; exact nxk, by show fr + 1 + (F - 1) ≤ 24 * (st + 0 + 1); omega⟩, by rw [cvw43 (Or.inl rfl) h1 l43, cvw43 (Or.inl rfl) h1 l43, if_neg (by omega), if_pos ⟨rfl, rfl⟩]; exact ea⟩)
theorem c_enter11 (h : MR X Rf K L n zf zv zr) (hM : ∀ p i, R32 (M p i)) (pi : PI M X cnt 60) (c6 : cnt ≤ 60) (ck : CK (cvw M Rf) X cnt st zf zv (.inl (t, ρ, k))) (hk : nKd t = 11) (hq : EnP Q X cnt M Rf K L n s zf zv zr st (.inl (t, ρ, k))) : pm_Wc (d + 5) 117 [.ref 43] (zM M, Rf, K, L, n, s) Q := by
  obtain ⟨vs, sc, fr, H, bk, c13, ⟨F, nv, hF⟩, ec⟩ := ck
  have bk : BK (cvw M Rf) X cnt st vs sc fr zf zv H k (vN t + vpK k) := bk
  have bkc := bk
  obtain ⟨⟨b1, b2, b3, b4, b5⟩, hh, ⟨b6, b7, b8, b9, b10⟩, fk⟩ := bkc
  have kd := nv.kd
  have hG := h.1
  have hX := h.2.2.2.2.2.2
  have r8 := h.2.2.2.2.2.1
  have vn := vN_is nv.sp
  have x1 : ∀ g : Nat, g ≤ 6 → ∀ y : Int, cvw M Rf (X + g) y = M (X + g) y := fun g hg y => cvw_o (by omega)
  have x43 : ∀ y : Int, cvw M Rf 43 y = M 43 y := fun y => cvw_o (by omega)
  have x51 : ∀ y : Int, cvw M Rf 51 y = M 51 y := fun y => cvw_o (by omega)
  rw [x43] at c13 b2 b3 b4 b5
  rw [x51] at b1
  generalize ej : M 43 11 = j at *
  have ejv : cvw M Rf 43 11 = j := by rw [x43]; exact ej
  rw [ejv] at nv kd
  obtain ⟨k1, k2, k3, k4, k5, k6, k7, k8, k9, k10⟩ := kd
  rw [x1 1 (by omega)] at k3
  have r12 := hM 43 12
  have nx := nv.x (by omega)
  have hX0 := hX
  have vxy : vN (nX t) + vN (nY t) ≤ vN t := by omega
  rcases hX with rfl | rfl
  · skip
    refine wc_in (ls0 := [some (.ref 43)]) (by decide) (Nat.le_of_ble_eq_true rfl) rfl rfl ?_
    refine wp_aload_n d117_0 rfl ?_
    refine wp_getR (q := 16) d117_1 rfl (hG.o (by decide) rfl) (by decide) r8 (by decide) ?_
    refine wp_getR (q := 17) d117_4 rfl (hG.o (by decide) rfl) (by decide) (hG.r (by decide +kernel)) (by decide) ?_
    refine wp_aload_n d117_7 rfl ?_
    refine wz_getI (v := j) d117_8 rfl (hG.o (by decide) rfl) (by decide) (ej) ?_
    refine wz_iald (z := 60) (v := 6) d117_11 (hG.a (by decide) rfl rfl) (by omega) (by omega) (by decide) (by rw [k3, hk]; rfl) ?_
    refine wp_table (t := 206) d117_12 (by decide +kernel) ?_
    refine wp_aload_n d117_206 rfl ?_
    refine wz_iconst d117_207 ?_
    refine wz_iconst d117_208 ?_
    refine wp_virt (as := [.int (zI 0), .int (zI (-1))]) (rest := []) d117_209 rfl rfl rfl (hG.o (by decide) rfl) rfl rfl (Nat.le_of_ble_eq_true rfl) ?_
    refine wc_deep (show d + 1 + 3 ≤ d + 4 by omega) ?_
    refine c_push (fr := fr) (nd := j) (sc := M 43 12) h hM b3 ej rfl b9 (by omega) ⟨by omega, by omega⟩ ⟨by omega, by omega⟩ (fun M1 R1 K1 L1 n1 s1 zf1 mx1 fz1 hv1 vk1 => ?_)
    obtain ⟨v94, v95, v96, v97, v9⟩ := hv1
    have h1 := mx1.1
    have hG1 := h1.1
    have r81 := h1.2.2.2.2.2.1
    have l43 : LoP 43 := by unfold LoP; omega
    have l51 : LoP 51 := by unfold LoP; omega
    have y43 : ∀ y : Int, y ≠ 9 → M1 43 y = M 43 y := fun y hy => by
      have := vk1 43 y l43 (by omega) (by omega) (by omega)
      rw [cvw_o (by omega), cvw_o (by omega)] at this
      exact this
    have yX : ∀ g : Nat, g ≤ 6 → ∀ y : Int, M1 (16 + g) y = M (16 + g) y := fun g hg y => by
      have := vk1 (16 + g) y (by unfold LoP; omega) (by omega) (by omega) (by omega)
      rw [cvw_o (by omega), cvw_o (by omega)] at this
      exact this
    refine wp_aload_n d117_212 rfl ?_
    refine wp_aload_n d117_213 rfl ?_
    refine wp_getR (q := 16) d117_214 rfl (hG1.o (by decide) rfl) (by decide) r81 (by decide) ?_
    refine wp_getR (q := 20) d117_217 rfl (hG1.o (by decide) rfl) (by decide) (hG1.r (by decide +kernel)) (by decide) ?_
    refine wp_aload_n d117_220 rfl ?_
    refine wz_getI (v := j) d117_221 rfl (hG1.o (by decide) rfl) (by decide) ((y43 11 (by omega)).trans ej) ?_
    refine wz_iald (z := 60) (v := M 20 j) d117_224 (hG1.a (by decide) rfl rfl) (by omega) (by omega) (by decide) (yX 4 (by omega) j) ?_
    refine wp_aload_n d117_225 rfl ?_
    refine wz_getI (v := M 43 12) d117_226 rfl (hG1.o (by decide) rfl) (by decide) (y43 12 (by omega)) ?_
    refine wp_virt (as := [.int (zI (M 43 12)), .int (zI (M 20 j))]) (rest := []) d117_229 rfl rfl rfl (hG1.o (by decide) rfl) rfl rfl (Nat.le_of_ble_eq_true rfl) ?_
    refine wc_deep (show d + 3 + 1 ≤ d + 4 by omega) ?_
    refine c_goTo hG1 ?_
    have mx : MX 16 M Rf K L n s zf zv zr (mset (mset (mset M1 43 11 (M 20 j)) 43 12 (M 43 12)) 43 13 (-1)) R1 K1 L1 n1 s1 zf1 zv := ((mx1.set (Or.inl ⟨rfl, by omega, by omega⟩) (hM _ _)).set (Or.inl ⟨rfl, by omega, by omega⟩) r12).set (Or.inl ⟨rfl, by omega, by omega⟩) ⟨by omega, by omega⟩
    have vm : ∀ (p : Nat) (y : Int), LoP p → ¬ (p = 43 ∧ (y = 11 ∨ y = 12 ∨ y = 13)) → cvw (mset (mset (mset M1 43 11 (M 20 j)) 43 12 (M 43 12)) 43 13 (-1)) R1 p y = cvw M1 R1 p y := fun p y lo hn => by
      rw [cvw43 (Or.inl rfl) h1 lo, cvw43 (Or.inl rfl) h1 lo, cvw43 (Or.inl rfl) h1 lo, if_neg (by omega), if_neg (by omega), if_neg (by omega)]
    have vw : ∀ (p : Nat) (y : Int), LoP p → (90 ≤ p ∧ p ≤ 93 → 0 ≤ y ∧ y < vs) → (94 ≤ p ∧ p ≤ 97 → 0 ≤ y ∧ y < fr) → p ≠ 43 → p ≠ 51 → cvw (mset (mset (mset M1 43 11 (M 20 j)) 43 12 (M 43 12)) 43 13 (-1)) R1 p y = cvw M Rf p y := fun p y lo q1 q2 n1 n2 => (vm p y lo (by omega)).trans (vk1 p y lo (fun e => ⟨(q1 e).1, by have := (q1 e).2; omega⟩) q2 (by omega))
    have w43 : ∀ y : Int, y ≠ 9 → y ≠ 11 → y ≠ 12 → y ≠ 13 → cvw (mset (mset (mset M1 43 11 (M 20 j)) 43 12 (M 43 12)) 43 13 (-1)) R1 43 y = cvw M Rf 43 y := fun y y1 y2 y3 y4 => (vm 43 y l43 (by omega)).trans (vk1 43 y l43 (by omega) (by omega) (by omega))
    have kp := Kpk.of bk hX0 vw
    have ea : ECe (cvw (mset (mset (mset M1 43 11 (M 20 j)) 43 12 (M 43 12)) 43 13 (-1)) R1) 16 cnt sc H ρ (M 43 12) := by rw [← x43]; exact ec.keep kp.1 kp.2.1 (fun _ _ x => x) (Nat.le_refl _)
    have fm : FrK (cvw (mset (mset (mset M1 43 11 (M 20 j)) 43 12 (M 43 12)) 43 13 (-1)) R1) 16 cnt sc st H (t, ρ, .nil, 0) fr vs := ⟨by show nKd t = 7 ∨ nKd t = 9 ∨ nKd t = 10 ∨ nKd t = 11; omega, ⟨F, by rw [vm 94 _ (by unfold LoP; omega) (by omega), v94]; exact nv.keep kp.1, hF⟩, by rw [vm 95 _ (by unfold LoP; omega) (by omega), v95]; exact ea, fun _ => ⟨fun _ => by rw [vm 96 _ (by unfold LoP; omega) (by omega), v96], fun e => absurd rfl e⟩, fun e => absurd (show nKd t = 10 from e) (by omega)⟩
    have pf : vpF (t, ρ, .nil, 0) ≤ vN (nY t) := by
      unfold vpF
      show (if nKd t = 7 then (if (0 : Nat) = 0 then vN (nY t) else 0) else if nKd t = 10 then vpR t 0 else 0) ≤ _
      rw [hk]
      first | exact Nat.le_refl _ | exact Nat.zero_le _
    have b' := bk.push (V' := cvw (mset (mset (mset M1 43 11 (M 20 j)) 43 12 (M 43 12)) 43 13 (-1)) R1) (zf' := zf1) (zv' := zv) (lim := 0) (pc' := vN (nX t) + (vpF (t, ρ, .nil, 0) + vpK k)) hX0 vw ((vm 51 4 l51 (by omega)).trans (vk1 51 4 l51 (by omega) (by omega) (by omega))) (by rw [vm 43 9 l43 (by omega), cvw_o (by omega), v9]; rfl) (w43 10 (by omega) (by omega) (by omega) (by omega)) (by rw [w43 14 (by omega) (by omega) (by omega) (by omega), x43]; exact b4) (w43 15 (by omega) (by omega) (by omega) (by omega)) fm (fun e => absurd (show nKd t = 10 from e) (by omega)) (by omega) fz1 (Nat.le_refl _)
    have e16 : (mset (mset (mset M1 43 11 (M 20 j)) 43 12 (M 43 12)) 43 13 (-1)) 43 16 = M 43 16 := by
      have := w43 16 (by omega) (by omega) (by omega) (by omega)
      rw [cvw_o (by omega), cvw_o (by omega)] at this
      exact this
    have nxk := nx.keep (V' := cvw (mset (mset (mset M1 43 11 (M 20 j)) 43 12 (M 43 12)) 43 13 (-1)) R1) kp.1
    rw [x1 4 (by omega)] at nxk
    exact wp_ret d117_232 rfl (hq.1 false (.inl (nX t, ρ, (t, ρ, .nil, 0) :: k)) _ R1 K1 L1 n1 s1 zf1 zv (mv_x (by omega)) mx e16 ⟨vs, sc, fr + 1, H, b', by rw [cvw43 (Or.inl rfl) h1 l43, if_pos ⟨rfl, rfl⟩], ⟨F - 1, by rw [cvw43 (Or.inl rfl) h1 l43, cvw43 (Or.inl rfl) h1 l43, cvw43 (Or.inl rfl) h1 l43, if_neg (by omega), if_neg (by omega), if_pos ⟨rfl, rfl⟩]; exact nxk, by show fr + 1 + (F - 1) ≤ 24 * (st + 0 + 1); omega⟩, by rw [cvw43 (Or.inl rfl) h1 l43, cvw43 (Or.inl rfl) h1 l43, if_neg (by omega), if_pos ⟨rfl, rfl⟩]; exact ea⟩)
  · skip
    refine wc_in (ls0 := [some (.ref 43)]) (by decide) (Nat.le_of_ble_eq_true rfl) rfl rfl ?_
    refine wp_aload_n d117_0 rfl ?_
    refine wp_getR (q := 23) d117_1 rfl (hG.o (by decide) rfl) (by decide) r8 (by decide) ?_
    refine wp_getR (q := 24) d117_4 rfl (hG.o (by decide) rfl) (by decide) (hG.r (by decide +kernel)) (by decide) ?_
    refine wp_aload_n d117_7 rfl ?_
    refine wz_getI (v := j) d117_8 rfl (hG.o (by decide) rfl) (by decide) (ej) ?_
    refine wz_iald (z := 60) (v := 6) d117_11 (hG.a (by decide) rfl rfl) (by omega) (by omega) (by decide) (by rw [k3, hk]; rfl) ?_
    refine wp_table (t := 206) d117_12 (by decide +kernel) ?_
    refine wp_aload_n d117_206 rfl ?_
    refine wz_iconst d117_207 ?_
    refine wz_iconst d117_208 ?_
    refine wp_virt (as := [.int (zI 0), .int (zI (-1))]) (rest := []) d117_209 rfl rfl rfl (hG.o (by decide) rfl) rfl rfl (Nat.le_of_ble_eq_true rfl) ?_
    refine wc_deep (show d + 1 + 3 ≤ d + 4 by omega) ?_
    refine c_push (fr := fr) (nd := j) (sc := M 43 12) h hM b3 ej rfl b9 (by omega) ⟨by omega, by omega⟩ ⟨by omega, by omega⟩ (fun M1 R1 K1 L1 n1 s1 zf1 mx1 fz1 hv1 vk1 => ?_)
    obtain ⟨v94, v95, v96, v97, v9⟩ := hv1
    have h1 := mx1.1
    have hG1 := h1.1
    have r81 := h1.2.2.2.2.2.1
    have l43 : LoP 43 := by unfold LoP; omega
    have l51 : LoP 51 := by unfold LoP; omega
    have y43 : ∀ y : Int, y ≠ 9 → M1 43 y = M 43 y := fun y hy => by
      have := vk1 43 y l43 (by omega) (by omega) (by omega)
      rw [cvw_o (by omega), cvw_o (by omega)] at this
      exact this
    have yX : ∀ g : Nat, g ≤ 6 → ∀ y : Int, M1 (23 + g) y = M (23 + g) y := fun g hg y => by
      have := vk1 (23 + g) y (by unfold LoP; omega) (by omega) (by omega) (by omega)
      rw [cvw_o (by omega), cvw_o (by omega)] at this
      exact this
    refine wp_aload_n d117_212 rfl ?_
    refine wp_aload_n d117_213 rfl ?_
    refine wp_getR (q := 23) d117_214 rfl (hG1.o (by decide) rfl) (by decide) r81 (by decide) ?_
    refine wp_getR (q := 27) d117_217 rfl (hG1.o (by decide) rfl) (by decide) (hG1.r (by decide +kernel)) (by decide) ?_
    refine wp_aload_n d117_220 rfl ?_
    refine wz_getI (v := j) d117_221 rfl (hG1.o (by decide) rfl) (by decide) ((y43 11 (by omega)).trans ej) ?_
    refine wz_iald (z := 60) (v := M 27 j) d117_224 (hG1.a (by decide) rfl rfl) (by omega) (by omega) (by decide) (yX 4 (by omega) j) ?_
    refine wp_aload_n d117_225 rfl ?_
    refine wz_getI (v := M 43 12) d117_226 rfl (hG1.o (by decide) rfl) (by decide) (y43 12 (by omega)) ?_
    refine wp_virt (as := [.int (zI (M 43 12)), .int (zI (M 27 j))]) (rest := []) d117_229 rfl rfl rfl (hG1.o (by decide) rfl) rfl rfl (Nat.le_of_ble_eq_true rfl) ?_
    refine wc_deep (show d + 3 + 1 ≤ d + 4 by omega) ?_
    refine c_goTo hG1 ?_
    have mx : MX 23 M Rf K L n s zf zv zr (mset (mset (mset M1 43 11 (M 27 j)) 43 12 (M 43 12)) 43 13 (-1)) R1 K1 L1 n1 s1 zf1 zv := ((mx1.set (Or.inl ⟨rfl, by omega, by omega⟩) (hM _ _)).set (Or.inl ⟨rfl, by omega, by omega⟩) r12).set (Or.inl ⟨rfl, by omega, by omega⟩) ⟨by omega, by omega⟩
    have vm : ∀ (p : Nat) (y : Int), LoP p → ¬ (p = 43 ∧ (y = 11 ∨ y = 12 ∨ y = 13)) → cvw (mset (mset (mset M1 43 11 (M 27 j)) 43 12 (M 43 12)) 43 13 (-1)) R1 p y = cvw M1 R1 p y := fun p y lo hn => by
      rw [cvw43 (Or.inl rfl) h1 lo, cvw43 (Or.inl rfl) h1 lo, cvw43 (Or.inl rfl) h1 lo, if_neg (by omega), if_neg (by omega), if_neg (by omega)]
    have vw : ∀ (p : Nat) (y : Int), LoP p → (90 ≤ p ∧ p ≤ 93 → 0 ≤ y ∧ y < vs) → (94 ≤ p ∧ p ≤ 97 → 0 ≤ y ∧ y < fr) → p ≠ 43 → p ≠ 51 → cvw (mset (mset (mset M1 43 11 (M 27 j)) 43 12 (M 43 12)) 43 13 (-1)) R1 p y = cvw M Rf p y := fun p y lo q1 q2 n1 n2 => (vm p y lo (by omega)).trans (vk1 p y lo (fun e => ⟨(q1 e).1, by have := (q1 e).2; omega⟩) q2 (by omega))
    have w43 : ∀ y : Int, y ≠ 9 → y ≠ 11 → y ≠ 12 → y ≠ 13 → cvw (mset (mset (mset M1 43 11 (M 27 j)) 43 12 (M 43 12)) 43 13 (-1)) R1 43 y = cvw M Rf 43 y := fun y y1 y2 y3 y4 => (vm 43 y l43 (by omega)).trans (vk1 43 y l43 (by omega) (by omega) (by omega))
    have kp := Kpk.of bk hX0 vw
    have ea : ECe (cvw (mset (mset (mset M1 43 11 (M 27 j)) 43 12 (M 43 12)) 43 13 (-1)) R1) 23 cnt sc H ρ (M 43 12) := by rw [← x43]; exact ec.keep kp.1 kp.2.1 (fun _ _ x => x) (Nat.le_refl _)
    have fm : FrK (cvw (mset (mset (mset M1 43 11 (M 27 j)) 43 12 (M 43 12)) 43 13 (-1)) R1) 23 cnt sc st H (t, ρ, .nil, 0) fr vs := ⟨by show nKd t = 7 ∨ nKd t = 9 ∨ nKd t = 10 ∨ nKd t = 11; omega, ⟨F, by rw [vm 94 _ (by unfold LoP; omega) (by omega), v94]; exact nv.keep kp.1, hF⟩, by rw [vm 95 _ (by unfold LoP; omega) (by omega), v95]; exact ea, fun _ => ⟨fun _ => by rw [vm 96 _ (by unfold LoP; omega) (by omega), v96], fun e => absurd rfl e⟩, fun e => absurd (show nKd t = 10 from e) (by omega)⟩
    have pf : vpF (t, ρ, .nil, 0) ≤ vN (nY t) := by
      unfold vpF
      show (if nKd t = 7 then (if (0 : Nat) = 0 then vN (nY t) else 0) else if nKd t = 10 then vpR t 0 else 0) ≤ _
      rw [hk]
      first | exact Nat.le_refl _ | exact Nat.zero_le _
    have b' := bk.push (V' := cvw (mset (mset (mset M1 43 11 (M 27 j)) 43 12 (M 43 12)) 43 13 (-1)) R1) (zf' := zf1) (zv' := zv) (lim := 0) (pc' := vN (nX t) + (vpF (t, ρ, .nil, 0) + vpK k)) hX0 vw ((vm 51 4 l51 (by omega)).trans (vk1 51 4 l51 (by omega) (by omega) (by omega))) (by rw [vm 43 9 l43 (by omega), cvw_o (by omega), v9]; rfl) (w43 10 (by omega) (by omega) (by omega) (by omega)) (by rw [w43 14 (by omega) (by omega) (by omega) (by omega), x43]; exact b4) (w43 15 (by omega) (by omega) (by omega) (by omega)) fm (fun e => absurd (show nKd t = 10 from e) (by omega)) (by omega) fz1 (Nat.le_refl _)
    have e16 : (mset (mset (mset M1 43 11 (M 27 j)) 43 12 (M 43 12)) 43 13 (-1)) 43 16 = M 43 16 := by
      have := w43 16 (by omega) (by omega) (by omega) (by omega)
      rw [cvw_o (by omega), cvw_o (by omega)] at this
      exact this
    have nxk := nx.keep (V' := cvw (mset (mset (mset M1 43 11 (M 27 j)) 43 12 (M 43 12)) 43 13 (-1)) R1) kp.1
    rw [x1 4 (by omega)] at nxk
    exact wp_ret d117_232 rfl (hq.1 false (.inl (nX t, ρ, (t, ρ, .nil, 0) :: k)) _ R1 K1 L1 n1 s1 zf1 zv (mv_x (by omega)) mx e16 ⟨vs, sc, fr + 1, H, b', by rw [cvw43 (Or.inl rfl) h1 l43, if_pos ⟨rfl, rfl⟩], ⟨F - 1, by rw [cvw43 (Or.inl rfl) h1 l43, cvw43 (Or.inl rfl) h1 l43, cvw43 (Or.inl rfl) h1 l43, if_neg (by omega), if_neg (by omega), if_pos ⟨rfl, rfl⟩]; exact nxk, by show fr + 1 + (F - 1) ≤ 24 * (st + 0 + 1); omega⟩, by rw [cvw43 (Or.inl rfl) h1 l43, cvw43 (Or.inl rfl) h1 l43, if_neg (by omega), if_pos ⟨rfl, rfl⟩]; exact ea⟩)
end PmH8b
