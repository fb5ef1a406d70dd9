/-! THE CLASS: a value comes back: an application. -/
theorem ECe.lt {V : pm_M} {X cnt sc : Nat} {H : Int → Option Ty} : ∀ {ρ : Ty} {e : Int}, ECe V X cnt sc H ρ e → -1 ≤ e ∧ e < sc
  | .nest p (.append v r), e, h => by
    rw [ECe] at h
    exact ⟨by have := h.1.1; omega, h.1.2⟩
  | .nil, e, h => by
    rw [ECe] at h
    omega
  | .line, _, h => by simp [ECe] at h
  | .align _, _, h => by simp [ECe] at h
  | .text _, _, h => by simp [ECe] at h
  | .group _ _, _, h => by simp [ECe] at h
  | .append _ _, _, h => by simp [ECe] at h
  | .tag _ _, _, h => by simp [ECe] at h
  | .nest _ .nil, _, h => by simp [ECe] at h
  | .nest _ .line, _, h => by simp [ECe] at h
  | .nest _ (.align _), _, h => by simp [ECe] at h
  | .nest _ (.text _), _, h => by simp [ECe] at h
  | .nest _ (.nest _ _), _, h => by simp [ECe] at h
  | .nest _ (.group _ _), _, h => by simp [ECe] at h
  | .nest _ (.tag _ _), _, h => by simp [ECe] at h
section PmH11
variable {d : Nat} {Q : Option Value → pm_S → Prop} {X cnt : Nat} {M : pm_M} {Rf : Nat → Nat → Nat} {K L : Nat → Nat} {n s zf zv zr st vs sc q g : Nat} {H : Int → Option Ty} {t ρ w v : Ty} {k : List Fr}
theorem c_newScope {b u e : Int} (hG : pm_G Rf K L n) (hsc : M 43 10 = (sc : Int)) (s6 : sc ≤ 60) (hQ : Q (some (.int (zI (sc : Int)))) (zM (mset (mset (mset (mset M 43 10 ((sc : Int) + 1)) 48 sc b) 49 sc u) 50 sc e), Rf, K, L, n, s)) : pm_Wc (d + 1) 125 [.ref 43, .int (zI b), .int (zI u), .int (zI e)] (zM M, Rf, K, L, n, s) Q := by
  refine wc_in (ls0 := [some (.ref 43), some (.int (zI b)), some (.int (zI u)), some (.int (zI e)), none]) (by decide) (Nat.le_of_ble_eq_true rfl) rfl rfl ?_
  refine wp_aload_n d125_0 rfl ?_
  refine wz_getI (v := (sc : Int)) d125_1 rfl (hG.o (by decide) rfl) (by decide) (hsc) ?_
  refine wz_bipush d125_4 (by decide) ?_
  refine wz_icmp_lt (t := 16) d125_6 (by decide) ⟨by omega, by omega⟩ ⟨by omega, by omega⟩ (fun _ => ?_) (fun hb => absurd (by omega) hb)
  refine wp_aload_n d125_16 rfl ?_
  refine wz_getI (v := (sc : Int)) d125_17 rfl (hG.o (by decide) rfl) (by decide) (hsc) ?_
  refine wp_istore d125_20 (Nat.le_of_ble_eq_true rfl) rfl ?_
  refine wp_aload_n d125_22 rfl ?_
  refine wp_dupr d125_23 ?_
  refine wz_getI (v := (sc : Int)) d125_24 rfl (hG.o (by decide) rfl) (by decide) (hsc) ?_
  refine wz_iconst d125_27 ?_
  refine wz_iadd d125_28 ?_
  refine wz_putI (i := 10) d125_29 rfl (hG.o (by decide) rfl) rfl (by decide) rfl ?_
  refine wp_aload_n d125_32 rfl ?_
  refine wp_getR (q := 48) d125_33 rfl (hG.o (by decide) rfl) (by decide) (hG.r (by decide +kernel)) (by decide) ?_
  refine wp_iload d125_36 rfl ?_
  refine wp_iload_n d125_38 rfl ?_
  refine wz_iast (z := 61) d125_39 (hG.a (by decide) rfl rfl) (by omega) (by omega) (by decide) ?_
  refine wp_aload_n d125_40 rfl ?_
  refine wp_getR (q := 49) d125_41 rfl (hG.o (by decide) rfl) (by decide) (hG.r (by decide +kernel)) (by decide) ?_
  refine wp_iload d125_44 rfl ?_
  refine wp_iload_n d125_46 rfl ?_
  refine wz_iast (z := 61) d125_47 (hG.a (by decide) rfl rfl) (by omega) (by omega) (by decide) ?_
  refine wp_aload_n d125_48 rfl ?_
  refine wp_getR (q := 50) d125_49 rfl (hG.o (by decide) rfl) (by decide) (hG.r (by decide +kernel)) (by decide) ?_
  refine wp_iload d125_52 rfl ?_
  refine wp_iload_n d125_54 rfl ?_
  refine wz_iast (z := 61) d125_55 (hG.a (by decide) rfl rfl) (by omega) (by omega) (by decide) ?_
  refine wp_iload d125_56 rfl ?_
  exact wp_ret d125_58 rfl (hQ)
theorem c_goOn7a (h : MR X Rf K L n zf zv zr) (hM : ∀ p i, R32 (M p i)) (c6 : cnt ≤ 60) (bk : BK (cvw M Rf) X cnt st vs sc (q + 1) zf zv H ((t, ρ, w, g) :: k) (vpF (t, ρ, w, g) + vpK k)) (hv : H (cvw M Rf 43 13) = some v) (hk : nKd t = 7) (hg : g = 0) (hq : EnP Q X cnt M Rf K L n s zf zv zr st (.inr (v, (t, ρ, w, g) :: k))) : pm_Wc (d + 5) 122 [.ref 43, .int (zI (q : Int))] (zM M, Rf, K, L, n, s) Q := by
  have bkc := bk
  obtain ⟨⟨b1, b2, b3, b4, b5⟩, hh, ⟨b6, b7, b8, b9, b10⟩, fk⟩ := bkc
  obtain ⟨fm, fkb⟩ := fk.below
  obtain ⟨f2, ⟨F, nv, hF⟩, ec, f6, f7⟩ := fm
  have nv : NVc (cvw M Rf) X cnt F t (cvw M Rf 94 (q : Int)) := nv
  have ec : ECe (cvw M Rf) X cnt sc H ρ (cvw M Rf 95 (q : Int)) := ec
  have kd := nv.kd
  have hG := h.1
  have hX := h.2.2.2.2.2.2
  have hX0 := hX
  have r8 := h.2.2.2.2.2.1
  have hFr := h.2.1
  have hVr := h.2.2.1
  have fz := hFr.2.2.2.2.1
  have vz := hVr.2.2.2.2.1
  have vn := vN_is nv.sp
  have l43 : LoP 43 := by unfold LoP; omega
  have x1 : ∀ g : Nat, g ≤ 6 → ∀ y : Int, cvw M Rf (X + g) y = M (X + g) y := fun g hg y => cvw_o (by omega)
  have x43 : ∀ y : Int, cvw M Rf 43 y = M 43 y := fun y => cvw_o (by omega)
  rw [x43] at hv b2 b3 b4 b5
  have f0 : cvw M Rf 94 (q : Int) = M (Rf 43 0) (q : Int) := cvw_f (g := 0) (by omega)
  rw [f0] at nv kd
  generalize ej : M (Rf 43 0) (q : Int) = j at *
  generalize ei : M 43 13 = i at *
  have i0 := (hh _ _ hv).1
  obtain ⟨k1, k2, k3, k4, k5, k6, k7, k8, k9, k10⟩ := kd
  rw [x1 1 (by omega)] at k3
  have e9 : M 43 9 = (q : Int) + 1 := by rw [b3]; rfl
  have f2' : cvw M Rf 96 (q : Int) = M (Rf 43 2) (q : Int) := cvw_f (g := 2) (by omega)
  have f1' : cvw M Rf 95 (q : Int) = M (Rf 43 1) (q : Int) := cvw_f (g := 1) (by omega)
  have e96 : M (Rf 43 2) (q : Int) = -1 := by rw [← f2']; exact (f6 hk).1 hg
  rw [f1'] at ec
  have ny := nv.y (Or.inl hk)
  rw [x1 5 (by omega)] at ny
  have em : mv (.inr (v, (t, ρ, w, g) :: k)) = some (false, .inl (nY t, ρ, (t, ρ, v, 1) :: k)) := mvR_7d hk hg
  have pf : vpF (t, ρ, w, g) = vN (nY t) := by
    unfold vpF
    show (if nKd t = 7 then (if g = 0 then vN (nY t) else 0) else _) = _
    rw [if_pos hk, if_pos hg]
  have pf2 : vpF (t, ρ, v, 1) = 0 := by
    unfold vpF
    show (if nKd t = 7 then (if 1 = 0 then vN (nY t) else 0) else _) = _
    rw [if_pos hk, if_neg (by omega)]
  have fkb : FRk (cvw M Rf) X cnt sc st H k q (if nKd t = 10 then cvw M Rf 96 (q : Int) else (vs : Int)) := fkb
  rw [if_neg (by omega)] at fkb
  have sp := h.sep
  have s0 := sp.1 0 (by omega)
  have s1 := sp.1 1 (by omega)
  have s2 := sp.1 2 (by omega)
  have d20 : Rf 43 2 ≠ Rf 43 0 := fun e => absurd (sp.2.2.1 2 0 (by decide) (by decide) e) (by decide)
  have d21 : Rf 43 2 ≠ Rf 43 1 := fun e => absurd (sp.2.2.1 2 1 (by decide) (by decide) e) (by decide)
  have er : pm_Wc (d + 4) 124 [.ref 43, .int (zI (q : Int))] (zM M, Rf, K, L, n, s) (fun r σ => r = none ∧ pm_Wp none (d + 4) 122 206 [some (.ref 43), some (.int (zI (q : Int))), some (.int (zI j))] [] σ Q) := by
    rcases hX with rfl | rfl
    · skip
      refine wc_in (ls0 := [some (.ref 43), some (.int (zI (q : Int))), none, none]) (by decide) (Nat.le_of_ble_eq_true rfl) rfl rfl ?_
      refine wp_aload_n d124_0 rfl ?_
      refine wp_getR (q := Rf 43 2) d124_1 rfl (hG.o (by decide) rfl) (by decide) rfl (hFr.1 2 (by decide)).1 ?_
      refine wp_iload_n d124_4 rfl ?_
      refine wz_iald (z := zf) (v := (-1)) d124_5 (hFr.1 2 (by decide)) (by omega) (by omega) (by omega) (e96) ?_
      refine wp_istore_n d124_6 (Nat.le_of_ble_eq_true rfl) rfl ?_
      refine wp_iload_n d124_7 rfl ?_
      refine wz_iconst d124_8 ?_
      refine wz_icmp_ne (t := 47) d124_9 (by decide) ⟨by omega, by omega⟩ ⟨by omega, by omega⟩ (fun hb => absurd (by omega) hb) (fun _ => ?_)
      refine wp_aload_n d124_12 rfl ?_
      refine wp_getR (q := Rf 43 2) d124_13 rfl (hG.o (by decide) rfl) (by decide) rfl (hFr.1 2 (by decide)).1 ?_
      refine wp_iload_n d124_16 rfl ?_
      refine wp_aload_n d124_17 rfl ?_
      refine wz_getI (v := i) d124_18 rfl (hG.o (by decide) rfl) (by decide) (ei) ?_
      refine wz_iast (z := zf) d124_21 (hFr.1 2 (by decide)) (by omega) (by omega) (by omega) ?_
      refine wp_aload_n d124_22 rfl ?_
      refine wp_aload_n d124_23 rfl ?_
      refine wp_getR (q := 16) d124_24 rfl (hG.o (by decide) rfl) (by decide) r8 (by decide) ?_
      refine wp_getR (q := 21) d124_27 rfl (hG.o (by decide) rfl) (by decide) (hG.r (by decide +kernel)) (by decide) ?_
      refine wp_aload_n d124_30 rfl ?_
      refine wp_getR (q := Rf 43 0) d124_31 rfl (hG.o (by decide) rfl) (by decide) rfl (hFr.1 0 (by decide)).1 ?_
      refine wp_iload_n d124_34 rfl ?_
      refine wz_iald (z := zf) (v := j) d124_35 (hFr.1 0 (by decide)) (by omega) (by omega) (by omega) (by rw [mset_i' (by omega)]; exact ej) ?_
      refine wz_iald (z := 60) (v := M 21 j) d124_36 (hG.a (by decide) rfl rfl) (by omega) (by omega) (by decide) (mset_i' (by omega)) ?_
      refine wp_aload_n d124_37 rfl ?_
      refine wp_getR (q := Rf 43 1) d124_38 rfl (hG.o (by decide) rfl) (by decide) rfl (hFr.1 1 (by decide)).1 ?_
      refine wp_iload_n d124_41 rfl ?_
      refine wz_iald (z := zf) (v := M (Rf 43 1) (q : Int)) d124_42 (hFr.1 1 (by decide)) (by omega) (by omega) (by omega) (mset_i' (by omega)) ?_
      refine wp_virt (as := [.int (zI (M (Rf 43 1) (q : Int))), .int (zI (M 21 j))]) (rest := []) d124_43 rfl rfl rfl (hG.o (by decide) rfl) rfl rfl (Nat.le_of_ble_eq_true rfl) ?_
      refine wc_deep (show d + 2 + 1 ≤ d + 3 by omega) ?_
      refine c_goTo hG ?_
      have vm : ∀ (p : Nat) (y : Int), LoP p → ¬ (p = 43 ∧ (y = 11 ∨ y = 12 ∨ y = 13)) → ¬ (p = 96 ∧ y = q) → cvw (mset (mset (mset (mset M (Rf 43 2) (q : Int) i) 43 11 (M 21 j)) 43 12 (M (Rf 43 1) (q : Int))) 43 13 (-1)) Rf p y = cvw M Rf p y := fun p y lo hn hn2 => by
        rw [cvw43 (Or.inl rfl) h lo, cvw43 (Or.inl rfl) h lo, cvw43 (Or.inl rfl) h lo, cvwF (g := 2) (by omega) h lo, if_neg (by omega), if_neg (by omega), if_neg (by omega), if_neg hn2]
      have u96 : cvw (mset (mset (mset (mset M (Rf 43 2) (q : Int) i) 43 11 (M 21 j)) 43 12 (M (Rf 43 1) (q : Int))) 43 13 (-1)) Rf 96 (q : Int) = i := by
        rw [cvw43 (Or.inl rfl) h (by unfold LoP; omega), cvw43 (Or.inl rfl) h (by unfold LoP; omega), cvw43 (Or.inl rfl) h (by unfold LoP; omega), cvwF (g := 2) (by omega) h (by unfold LoP; omega), if_neg (by omega), if_neg (by omega), if_neg (by omega), if_pos ⟨rfl, rfl⟩]
      have kp : Kpk (cvw M Rf) (cvw (mset (mset (mset (mset M (Rf 43 2) (q : Int) i) 43 11 (M 21 j)) 43 12 (M (Rf 43 1) (q : Int))) 43 13 (-1)) Rf) 16 vs sc H := ⟨fun p y p1 p2 => vm p y (by unfold LoP; omega) (by omega) (by omega), fun p y p1 p2 _ _ => vm p y (by unfold LoP; omega) (by omega) (by omega), fun y _ _ => vm 90 y (by unfold LoP; omega) (by omega) (by omega), fun y g' _ hg' => vm (91 + g') y (by unfold LoP; omega) (by omega) (by omega)⟩
      have ea := ec.keep (V' := cvw (mset (mset (mset (mset M (Rf 43 2) (q : Int) i) 43 11 (M 21 j)) 43 12 (M (Rf 43 1) (q : Int))) 43 13 (-1)) Rf) kp.1 kp.2.1 (fun _ _ x => x) (Nat.le_refl _)
      have fm1 : FrK (cvw (mset (mset (mset (mset M (Rf 43 2) (q : Int) i) 43 11 (M 21 j)) 43 12 (M (Rf 43 1) (q : Int))) 43 13 (-1)) Rf) 16 cnt sc st H (t, ρ, v, 1) q vs := ⟨f2, ⟨F, by rw [vm 94 _ (by unfold LoP; omega) (by omega) (by omega), f0]; exact nv.keep kp.1, hF⟩, by rw [vm 95 _ (by unfold LoP; omega) (by omega) (by omega), f1']; exact ea, fun _ => ⟨fun e => absurd (show (1 : Nat) = 0 from e) (by omega), fun _ => by rw [u96]; exact hv⟩, fun e => absurd (show nKd t = 10 from e) (by omega)⟩
      have b' : BK (cvw (mset (mset (mset (mset M (Rf 43 2) (q : Int) i) 43 11 (M 21 j)) 43 12 (M (Rf 43 1) (q : Int))) 43 13 (-1)) Rf) 16 cnt st vs sc (q + 1) zf zv H ((t, ρ, v, 1) :: k) (vN (nY t) + (vpF (t, ρ, v, 1) + vpK k)) := ⟨⟨by rw [vm 51 4 (by unfold LoP; omega) (by omega) (by omega)]; exact b1, by rw [vm 43 10 l43 (by omega) (by omega), x43]; exact b2, by rw [vm 43 9 l43 (by omega) (by omega), x43]; exact b3, by rw [vm 43 14 l43 (by omega) (by omega), x43]; exact b4, by rw [vm 43 15 l43 (by omega) (by omega), x43]; exact b5⟩, hh.keep kp (Nat.le_refl _), ⟨b6, b7, b8, b9, by omega⟩, ⟨q, rfl, fm1, by show FRk _ 16 cnt sc st H k q (if nKd t = 10 then _ else _); rw [if_neg (by omega)]; exact fkb.keep kp (fun _ _ x => x) (Nat.le_refl _) (Nat.le_refl _) (Int.le_refl _) (Int.le_refl _) (fun p r p1 p2 r0 r1 => vm p r (by unfold LoP; omega) (by omega) (by omega)) (fun r _ _ hn => ⟨hn, fun g' hg' => vm (91 + g') r (by unfold LoP; omega) (by omega) (by omega)⟩)⟩⟩
      have mx0 : MX 16 M Rf K L n s zf zv zr (mset M (Rf 43 2) (q : Int) i) Rf K L n s zf zv := ⟨h, ⟨Nat.le_refl _, Nat.le_refl _, Nat.le_refl _, Nat.le_refl _, Nat.le_refl _⟩, fun p _ => ⟨rfl, rfl⟩, fun p _ g _ _ => rfl, fun g _ => ⟨Or.inl rfl, Or.inl rfl⟩, fun p _ hr y _ => mset_i' (fun e => (hr 2 (by omega)).1 e.1), mset_R32 hM (by rw [← ei]; exact hM _ _)⟩
      have mx : MX 16 M Rf K L n s zf zv zr (mset (mset (mset (mset M (Rf 43 2) (q : Int) i) 43 11 (M 21 j)) 43 12 (M (Rf 43 1) (q : Int))) 43 13 (-1)) Rf K L n s zf zv := ((mx0.set (Or.inl ⟨rfl, by omega, by omega⟩) (hM _ _)).set (Or.inl ⟨rfl, by omega, by omega⟩) (hM _ _)).set (Or.inl ⟨rfl, by omega, by omega⟩) ⟨by omega, by omega⟩
      have nyk := ny.keep (V' := cvw (mset (mset (mset (mset M (Rf 43 2) (q : Int) i) 43 11 (M 21 j)) 43 12 (M (Rf 43 1) (q : Int))) 43 13 (-1)) Rf) kp.1
      refine wp_ret d124_46 rfl ⟨rfl, ?_⟩
      exact wp_ret d122_206 rfl (hq.1 false _ _ Rf K L n s zf zv em mx (by rw [mset_i' (by omega), mset_i' (by omega), mset_i' (by omega), mset_i' (by omega)]) ⟨vs, sc, q + 1, H, b', by rw [cvw43 (Or.inl rfl) h l43, if_pos ⟨rfl, rfl⟩], ⟨F - 1, by rw [cvw43 (Or.inl rfl) h l43, cvw43 (Or.inl rfl) h l43, cvw43 (Or.inl rfl) h l43, if_neg (by omega), if_neg (by omega), if_pos ⟨rfl, rfl⟩]; exact nyk, by show q + 1 + (F - 1) ≤ 24 * (st + 0 + 1); omega⟩, by rw [cvw43 (Or.inl rfl) h l43, cvw43 (Or.inl rfl) h l43, if_neg (by omega), if_pos ⟨rfl, rfl⟩]; exact ea⟩)
    · skip
      refine wc_in (ls0 := [some (.ref 43), some (.int (zI (q : Int))), none, none]) (by decide) (Nat.le_of_ble_eq_true rfl) rfl rfl ?_
      refine wp_aload_n d124_0 rfl ?_
      refine wp_getR (q := Rf 43 2) d124_1 rfl (hG.o (by decide) rfl) (by decide) rfl (hFr.1 2 (by decide)).1 ?_
      refine wp_iload_n d124_4 rfl ?_
      refine wz_iald (z := zf) (v := (-1)) d124_5 (hFr.1 2 (by decide)) (by omega) (by omega) (by omega) (e96) ?_
      refine wp_istore_n d124_6 (Nat.le_of_ble_eq_true rfl) rfl ?_
      refine wp_iload_n d124_7 rfl ?_
      refine wz_iconst d124_8 ?_
      refine wz_icmp_ne (t := 47) d124_9 (by decide) ⟨by omega, by omega⟩ ⟨by omega, by omega⟩ (fun hb => absurd (by omega) hb) (fun _ => ?_)
      refine wp_aload_n d124_12 rfl ?_
      refine wp_getR (q := Rf 43 2) d124_13 rfl (hG.o (by decide) rfl) (by decide) rfl (hFr.1 2 (by decide)).1 ?_
      refine wp_iload_n d124_16 rfl ?_
      refine wp_aload_n d124_17 rfl ?_
      refine wz_getI (v := i) d124_18 rfl (hG.o (by decide) rfl) (by decide) (ei) ?_
      refine wz_iast (z := zf) d124_21 (hFr.1 2 (by decide)) (by omega) (by omega) (by omega) ?_
      refine wp_aload_n d124_22 rfl ?_
      refine wp_aload_n d124_23 rfl ?_
      refine wp_getR (q := 23) d124_24 rfl (hG.o (by decide) rfl) (by decide) r8 (by decide) ?_
      refine wp_getR (q := 28) d124_27 rfl (hG.o (by decide) rfl) (by decide) (hG.r (by decide +kernel)) (by decide) ?_
      refine wp_aload_n d124_30 rfl ?_
      refine wp_getR (q := Rf 43 0) d124_31 rfl (hG.o (by decide) rfl) (by decide) rfl (hFr.1 0 (by decide)).1 ?_
      refine wp_iload_n d124_34 rfl ?_
      refine wz_iald (z := zf) (v := j) d124_35 (hFr.1 0 (by decide)) (by omega) (by omega) (by omega) (by rw [mset_i' (by omega)]; exact ej) ?_
      refine wz_iald (z := 60) (v := M 28 j) d124_36 (hG.a (by decide) rfl rfl) (by omega) (by omega) (by decide) (mset_i' (by omega)) ?_
      refine wp_aload_n d124_37 rfl ?_
      refine wp_getR (q := Rf 43 1) d124_38 rfl (hG.o (by decide) rfl) (by decide) rfl (hFr.1 1 (by decide)).1 ?_
      refine wp_iload_n d124_41 rfl ?_
      refine wz_iald (z := zf) (v := M (Rf 43 1) (q : Int)) d124_42 (hFr.1 1 (by decide)) (by omega) (by omega) (by omega) (mset_i' (by omega)) ?_
      refine wp_virt (as := [.int (zI (M (Rf 43 1) (q : Int))), .int (zI (M 28 j))]) (rest := []) d124_43 rfl rfl rfl (hG.o (by decide) rfl) rfl rfl (Nat.le_of_ble_eq_true rfl) ?_
      refine wc_deep (show d + 2 + 1 ≤ d + 3 by omega) ?_
      refine c_goTo hG ?_
      have vm : ∀ (p : Nat) (y : Int), LoP p → ¬ (p = 43 ∧ (y = 11 ∨ y = 12 ∨ y = 13)) → ¬ (p = 96 ∧ y = q) → cvw (mset (mset (mset (mset M (Rf 43 2) (q : Int) i) 43 11 (M 28 j)) 43 12 (M (Rf 43 1) (q : Int))) 43 13 (-1)) Rf p y = cvw M Rf p y := fun p y lo hn hn2 => by
        rw [cvw43 (Or.inl rfl) h lo, cvw43 (Or.inl rfl) h lo, cvw43 (Or.inl rfl) h lo, cvwF (g := 2) (by omega) h lo, if_neg (by omega), if_neg (by omega), if_neg (by omega), if_neg hn2]
      have u96 : cvw (mset (mset (mset (mset M (Rf 43 2) (q : Int) i) 43 11 (M 28 j)) 43 12 (M (Rf 43 1) (q : Int))) 43 13 (-1)) Rf 96 (q : Int) = i := by
        rw [cvw43 (Or.inl rfl) h (by unfold LoP; omega), cvw43 (Or.inl rfl) h (by unfold LoP; omega), cvw43 (Or.inl rfl) h (by unfold LoP; omega), cvwF (g := 2) (by omega) h (by unfold LoP; omega), if_neg (by omega), if_neg (by omega), if_neg (by omega), if_pos ⟨rfl, rfl⟩]
      have kp : Kpk (cvw M Rf) (cvw (mset (mset (mset (mset M (Rf 43 2) (q : Int) i) 43 11 (M 28 j)) 43 12 (M (Rf 43 1) (q : Int))) 43 13 (-1)) Rf) 23 vs sc H := ⟨fun p y p1 p2 => vm p y (by unfold LoP; omega) (by omega) (by omega), fun p y p1 p2 _ _ => vm p y (by unfold LoP; omega) (by omega) (by omega), fun y _ _ => vm 90 y (by unfold LoP; omega) (by omega) (by omega), fun y g' _ hg' => vm (91 + g') y (by unfold LoP; omega) (by omega) (by omega)⟩
      have ea := ec.keep (V' := cvw (mset (mset (mset (mset M (Rf 43 2) (q : Int) i) 43 11 (M 28 j)) 43 12 (M (Rf 43 1) (q : Int))) 43 13 (-1)) Rf) kp.1 kp.2.1 (fun _ _ x => x) (Nat.le_refl _)
      have fm1 : FrK (cvw (mset (mset (mset (mset M (Rf 43 2) (q : Int) i) 43 11 (M 28 j)) 43 12 (M (Rf 43 1) (q : Int))) 43 13 (-1)) Rf) 23 cnt sc st H (t, ρ, v, 1) q vs := ⟨f2, ⟨F, by rw [vm 94 _ (by unfold LoP; omega) (by omega) (by omega), f0]; exact nv.keep kp.1, hF⟩, by rw [vm 95 _ (by unfold LoP; omega) (by omega) (by omega), f1']; exact ea, fun _ => ⟨fun e => absurd (show (1 : Nat) = 0 from e) (by omega), fun _ => by rw [u96]; exact hv⟩, fun e => absurd (show nKd t = 10 from e) (by omega)⟩
      have b' : BK (cvw (mset (mset (mset (mset M (Rf 43 2) (q : Int) i) 43 11 (M 28 j)) 43 12 (M (Rf 43 1) (q : Int))) 43 13 (-1)) Rf) 23 cnt st vs sc (q + 1) zf zv H ((t, ρ, v, 1) :: k) (vN (nY t) + (vpF (t, ρ, v, 1) + vpK k)) := ⟨⟨by rw [vm 51 4 (by unfold LoP; omega) (by omega) (by omega)]; exact b1, by rw [vm 43 10 l43 (by omega) (by omega), x43]; exact b2, by rw [vm 43 9 l43 (by omega) (by omega), x43]; exact b3, by rw [vm 43 14 l43 (by omega) (by omega), x43]; exact b4, by rw [vm 43 15 l43 (by omega) (by omega), x43]; exact b5⟩, hh.keep kp (Nat.le_refl _), ⟨b6, b7, b8, b9, by omega⟩, ⟨q, rfl, fm1, by show FRk _ 23 cnt sc st H k q (if nKd t = 10 then _ else _); rw [if_neg (by omega)]; exact fkb.keep kp (fun _ _ x => x) (Nat.le_refl _) (Nat.le_refl _) (Int.le_refl _) (Int.le_refl _) (fun p r p1 p2 r0 r1 => vm p r (by unfold LoP; omega) (by omega) (by omega)) (fun r _ _ hn => ⟨hn, fun g' hg' => vm (91 + g') r (by unfold LoP; omega) (by omega) (by omega)⟩)⟩⟩
      have mx0 : MX 23 M Rf K L n s zf zv zr (mset M (Rf 43 2) (q : Int) i) Rf K L n s zf zv := ⟨h, ⟨Nat.le_refl _, Nat.le_refl _, Nat.le_refl _, Nat.le_refl _, Nat.le_refl _⟩, fun p _ => ⟨rfl, rfl⟩, fun p _ g _ _ => rfl, fun g _ => ⟨Or.inl rfl, Or.inl rfl⟩, fun p _ hr y _ => mset_i' (fun e => (hr 2 (by omega)).1 e.1), mset_R32 hM (by rw [← ei]; exact hM _ _)⟩
      have mx : MX 23 M Rf K L n s zf zv zr (mset (mset (mset (mset M (Rf 43 2) (q : Int) i) 43 11 (M 28 j)) 43 12 (M (Rf 43 1) (q : Int))) 43 13 (-1)) Rf K L n s zf zv := ((mx0.set (Or.inl ⟨rfl, by omega, by omega⟩) (hM _ _)).set (Or.inl ⟨rfl, by omega, by omega⟩) (hM _ _)).set (Or.inl ⟨rfl, by omega, by omega⟩) ⟨by omega, by omega⟩
      have nyk := ny.keep (V' := cvw (mset (mset (mset (mset M (Rf 43 2) (q : Int) i) 43 11 (M 28 j)) 43 12 (M (Rf 43 1) (q : Int))) 43 13 (-1)) Rf) kp.1
      refine wp_ret d124_46 rfl ⟨rfl, ?_⟩
      exact wp_ret d122_206 rfl (hq.1 false _ _ Rf K L n s zf zv em mx (by rw [mset_i' (by omega), mset_i' (by omega), mset_i' (by omega), mset_i' (by omega)]) ⟨vs, sc, q + 1, H, b', by rw [cvw43 (Or.inl rfl) h l43, if_pos ⟨rfl, rfl⟩], ⟨F - 1, by rw [cvw43 (Or.inl rfl) h l43, cvw43 (Or.inl rfl) h l43, cvw43 (Or.inl rfl) h l43, if_neg (by omega), if_neg (by omega), if_pos ⟨rfl, rfl⟩]; exact nyk, by show q + 1 + (F - 1) ≤ 24 * (st + 0 + 1); omega⟩, by rw [cvw43 (Or.inl rfl) h l43, cvw43 (Or.inl rfl) h l43, if_neg (by omega), if_pos ⟨rfl, rfl⟩]; exact ea⟩)
  rcases hX with rfl | rfl
  · skip
    refine wc_in (ls0 := [some (.ref 43), some (.int (zI (q : Int))), none]) (by decide) (Nat.le_of_ble_eq_true rfl) rfl rfl ?_
    refine wp_aload_n d122_0 rfl ?_
    refine wp_getR (q := Rf 43 0) d122_1 rfl (hG.o (by decide) rfl) (by decide) rfl (hFr.1 0 (by decide)).1 ?_
    refine wp_iload_n d122_4 rfl ?_
    refine wz_iald (z := zf) (v := j) d122_5 (hFr.1 0 (by decide)) (by omega) (by omega) (by omega) (ej) ?_
    refine wp_istore_n d122_6 (Nat.le_of_ble_eq_true rfl) rfl ?_
    refine wp_aload_n d122_7 rfl ?_
    refine wp_getR (q := 16) d122_8 rfl (hG.o (by decide) rfl) (by decide) r8 (by decide) ?_
    refine wp_getR (q := 17) d122_11 rfl (hG.o (by decide) rfl) (by decide) (hG.r (by decide +kernel)) (by decide) ?_
    refine wp_iload_n d122_14 rfl ?_
    refine wz_iald (z := 60) (v := 2) d122_15 (hG.a (by decide) rfl rfl) (by omega) (by omega) (by decide) (by rw [k3, hk]; rfl) ?_
    refine wp_table (t := 52) d122_16 (by decide +kernel) ?_
    refine wp_aload_n d122_52 rfl ?_
    refine wp_iload_n d122_53 rfl ?_
    refine wp_virt (as := [.int (zI (q : Int))]) (rest := []) d122_54 rfl rfl rfl (hG.o (by decide) rfl) rfl rfl (Nat.le_of_ble_eq_true rfl) ?_
    refine wc_mono er (fun r σ hr => ?_)
    obtain ⟨rfl, hr⟩ := hr
    exact wp_goto (t := 206) d122_57 (by decide) hr
  · skip
    refine wc_in (ls0 := [some (.ref 43), some (.int (zI (q : Int))), none]) (by decide) (Nat.le_of_ble_eq_true rfl) rfl rfl ?_
    refine wp_aload_n d122_0 rfl ?_
    refine wp_getR (q := Rf 43 0) d122_1 rfl (hG.o (by decide) rfl) (by decide) rfl (hFr.1 0 (by decide)).1 ?_
    refine wp_iload_n d122_4 rfl ?_
    refine wz_iald (z := zf) (v := j) d122_5 (hFr.1 0 (by decide)) (by omega) (by omega) (by omega) (ej) ?_
    refine wp_istore_n d122_6 (Nat.le_of_ble_eq_true rfl) rfl ?_
    refine wp_aload_n d122_7 rfl ?_
    refine wp_getR (q := 23) d122_8 rfl (hG.o (by decide) rfl) (by decide) r8 (by decide) ?_
    refine wp_getR (q := 24) d122_11 rfl (hG.o (by decide) rfl) (by decide) (hG.r (by decide +kernel)) (by decide) ?_
    refine wp_iload_n d122_14 rfl ?_
    refine wz_iald (z := 60) (v := 2) d122_15 (hG.a (by decide) rfl rfl) (by omega) (by omega) (by decide) (by rw [k3, hk]; rfl) ?_
    refine wp_table (t := 52) d122_16 (by decide +kernel) ?_
    refine wp_aload_n d122_52 rfl ?_
    refine wp_iload_n d122_53 rfl ?_
    refine wp_virt (as := [.int (zI (q : Int))]) (rest := []) d122_54 rfl rfl rfl (hG.o (by decide) rfl) rfl rfl (Nat.le_of_ble_eq_true rfl) ?_
    refine wc_mono er (fun r σ hr => ?_)
    obtain ⟨rfl, hr⟩ := hr
    exact wp_goto (t := 206) d122_57 (by decide) hr
theorem c_goOn7b (h : MR X Rf K L n zf zv zr) (hM : ∀ p i, R32 (M p i)) (c6 : cnt ≤ 60) (bk : BK (cvw M Rf) X cnt st vs sc (q + 1) zf zv H ((t, ρ, w, g) :: k) (vpF (t, ρ, w, g) + vpK k)) (hv : H (cvw M Rf 43 13) = some v) (hk : nKd t = 7) (hg : g ≠ 0) (hs : isC w 6 = true) (hq : EnP Q X cnt M Rf K L n s zf zv zr st (.inr (v, (t, ρ, w, g) :: k))) : pm_Wc (d + 5) 122 [.ref 43, .int (zI (q : Int))] (zM M, Rf, K, L, n, s) Q := by
  have bkc := bk
  obtain ⟨⟨b1, b2, b3, b4, b5⟩, hh, ⟨b6, b7, b8, b9, b10⟩, fk⟩ := bkc
  obtain ⟨fm, fkb⟩ := fk.below
  obtain ⟨f2, ⟨F, nv, hF⟩, ec, f6, f7⟩ := fm
  have nv : NVc (cvw M Rf) X cnt F t (cvw M Rf 94 (q : Int)) := nv
  have ec : ECe (cvw M Rf) X cnt sc H ρ (cvw M Rf 95 (q : Int)) := ec
  have kd := nv.kd
  have hG := h.1
  have hX := h.2.2.2.2.2.2
  have hX0 := hX
  have r8 := h.2.2.2.2.2.1
  have hFr := h.2.1
  have hVr := h.2.2.1
  have fz := hFr.2.2.2.2.1
  have vz := hVr.2.2.2.2.1
  have vn := vN_is nv.sp
  have l43 : LoP 43 := by unfold LoP; omega
  have x1 : ∀ g : Nat, g ≤ 6 → ∀ y : Int, cvw M Rf (X + g) y = M (X + g) y := fun g hg y => cvw_o (by omega)
  have x43 : ∀ y : Int, cvw M Rf 43 y = M 43 y := fun y => cvw_o (by omega)
  rw [x43] at hv b2 b3 b4 b5
  have f0 : cvw M Rf 94 (q : Int) = M (Rf 43 0) (q : Int) := cvw_f (g := 0) (by omega)
  rw [f0] at nv kd
  generalize ej : M (Rf 43 0) (q : Int) = j at *
  generalize ei : M 43 13 = i at *
  have i0 := (hh _ _ hv).1
  obtain ⟨k1, k2, k3, k4, k5, k6, k7, k8, k9, k10⟩ := kd
  rw [x1 1 (by omega)] at k3
  have e9 : M 43 9 = (q : Int) + 1 := by rw [b3]; rfl
  have f2' : cvw M Rf 96 (q : Int) = M (Rf 43 2) (q : Int) := cvw_f (g := 2) (by omega)
  have hw : H (M (Rf 43 2) (q : Int)) = some w := by rw [← f2']; exact (f6 hk).2 hg
  obtain ⟨t', ρ', ev, k6'⟩ := isC_is hs
  generalize efn : M (Rf 43 2) (q : Int) = fn at *
  have hw' := hw
  rw [ev] at hw'
  obtain ⟨fi, F', k68, nv', ec'⟩ := hh.clo hw'
  have g0 : cvw M Rf 90 fn = M (Rf 51 0) fn := cvw_v (g := 0) (by omega)
  have g1 : cvw M Rf 91 fn = M (Rf 51 1) fn := cvw_v (g := 1) (by omega)
  rw [g0] at nv'
  rw [g1] at ec'
  generalize ejj : M (Rf 51 0) fn = jj at *
  generalize exx : M (Rf 51 1) fn = xx at *
  have el := ec'.lt
  have kd' := nv'.kd
  have nb := nv'.body k68
  rw [x1 5 (by omega)] at nb
  have kx := kd'.2.2.1
  rw [x1 1 (by omega)] at kx
  have kp2 := kd'.2.2.2.1
  have em : mv (.inr (v, (t, ρ, w, g) :: k)) = some (true, .inl (nY t', eN (nPl t') v ρ', k)) := by rw [mvR_7c hk hg, if_pos hs, ev]; rfl
  have s0 := h.sep.1 0 (by omega)
  have s1 := h.sep.1 1 (by omega)
  have s2 := h.sep.1 2 (by omega)
  have rjj : R32 (M (X + 5) jj) := hM _ _
  have er : pm_Wc (d + 4) 124 [.ref 43, .int (zI (q : Int))] (zM M, Rf, K, L, n, s) (fun r σ => r = none ∧ pm_Wp none (d + 4) 122 206 [some (.ref 43), some (.int (zI (q : Int))), some (.int (zI j))] [] σ Q) := by
    rcases hX with rfl | rfl
    · skip
      refine wc_in (ls0 := [some (.ref 43), some (.int (zI (q : Int))), none, none]) (by decide) (Nat.le_of_ble_eq_true rfl) rfl rfl ?_
      refine wp_aload_n d124_0 rfl ?_
      refine wp_getR (q := Rf 43 2) d124_1 rfl (hG.o (by decide) rfl) (by decide) rfl (hFr.1 2 (by decide)).1 ?_
      refine wp_iload_n d124_4 rfl ?_
      refine wz_iald (z := zf) (v := fn) d124_5 (hFr.1 2 (by decide)) (by omega) (by omega) (by omega) (efn) ?_
      refine wp_istore_n d124_6 (Nat.le_of_ble_eq_true rfl) rfl ?_
      refine wp_iload_n d124_7 rfl ?_
      refine wz_iconst d124_8 ?_
      refine wz_icmp_ne (t := 47) d124_9 (by decide) ⟨by omega, by omega⟩ ⟨by omega, by omega⟩ (fun _ => ?_) (fun hb => absurd hb (by omega))
      refine wp_aload_n d124_47 rfl ?_
      refine wp_dupr d124_48 ?_
      refine wz_getI (v := (q : Int) + 1) d124_49 rfl (hG.o (by decide) rfl) (by decide) (e9) ?_
      refine wz_iconst d124_52 ?_
      refine wz_isub d124_53 ?_
      refine wz_putI (i := 9) d124_54 rfl (hG.o (by decide) rfl) rfl (by decide) rfl ?_
      refine wp_aload_n d124_57 rfl ?_
      refine wp_iload_n d124_58 rfl ?_
      refine wz_iconst d124_59 ?_
      refine wp_virt (as := [.int (zI 1), .int (zI fn)]) (rest := []) d124_60 rfl rfl rfl (hG.o (by decide) rfl) rfl rfl (Nat.le_of_ble_eq_true rfl) ?_
      refine wc_deep (show d + 1 ≤ d + 3 by omega) ?_
      refine c_isOfKind (i := fn) (j := jj) (kd := 1) (X := 16) h fi.1 (by omega) (by rw [mset_i' (by omega)]; exact ejj) kd'.1.1 (by omega) (by rw [mset_i' (by omega), kx, k6']; rfl) ⟨by omega, by omega⟩ ?_
      refine wz_if_eq (t := 114) d124_63 (by decide) ⟨by omega, by omega⟩ (fun hb => absurd hb (by omega)) (fun _ => ?_)
      refine wp_aload_n d124_66 rfl ?_
      refine wp_virt (as := []) (rest := []) d124_67 rfl rfl rfl (hG.o (by decide) rfl) rfl rfl (Nat.le_of_ble_eq_true rfl) ?_
      refine wc_deep (show d + 1 ≤ d + 3 by omega) ?_
      refine c_countStep (st := st) hG (by rw [mset_i' (by omega), mset_i' (by omega)]; exact b5) b7 (fun h60 => ?_) (fun h60 => ?_)
      · skip
        refine wz_if_eq (t := 114) d124_70 (by decide) ⟨by omega, by omega⟩ (fun hb => absurd hb (by omega)) (fun _ => ?_)
        refine wp_aload_n d124_73 rfl ?_
        refine wp_getR (q := 51) d124_74 rfl (hG.o (by decide) rfl) (by decide) (hG.r (by decide +kernel)) (by decide) ?_
        refine wp_getR (q := Rf 51 0) d124_77 rfl (hG.o (by decide) rfl) (by decide) rfl (hVr.1 0 (by decide)).1 ?_
        refine wp_iload_n d124_80 rfl ?_
        refine wz_iald (z := zv) (v := jj) d124_81 (hVr.1 0 (by decide)) (by omega) (by omega) (by omega) ((by rw [mset_i' (by omega), mset_i' (by omega), mset_i' (by omega)]; exact ejj)) ?_
        refine wp_istore_n d124_82 (Nat.le_of_ble_eq_true rfl) rfl ?_
        refine wp_aload_n d124_83 rfl ?_
        refine wp_aload_n d124_84 rfl ?_
        refine wp_getR (q := 16) d124_85 rfl (hG.o (by decide) rfl) (by decide) r8 (by decide) ?_
        refine wp_getR (q := 21) d124_88 rfl (hG.o (by decide) rfl) (by decide) (hG.r (by decide +kernel)) (by decide) ?_
        refine wp_iload_n d124_91 rfl ?_
        refine wz_iald (z := 60) (v := M 21 jj) d124_92 (hG.a (by decide) rfl rfl) (by omega) (by omega) (by decide) (by rw [mset_i' (by omega), mset_i' (by omega), mset_i' (by omega)]) ?_
        refine wp_aload_n d124_93 rfl ?_
        refine wp_iload_n d124_94 rfl ?_
        refine wp_aload_n d124_95 rfl ?_
        refine wz_getI (v := i) d124_96 rfl (hG.o (by decide) rfl) (by decide) ((by rw [mset_i' (by omega), mset_i' (by omega), mset_i' (by omega)]; exact ei)) ?_
        refine wp_aload_n d124_99 rfl ?_
        refine wp_getR (q := 51) d124_100 rfl (hG.o (by decide) rfl) (by decide) (hG.r (by decide +kernel)) (by decide) ?_
        refine wp_getR (q := Rf 51 1) d124_103 rfl (hG.o (by decide) rfl) (by decide) rfl (hVr.1 1 (by decide)).1 ?_
        refine wp_iload_n d124_106 rfl ?_
        refine wz_iald (z := zv) (v := xx) d124_107 (hVr.1 1 (by decide)) (by omega) (by omega) (by omega) ((by rw [mset_i' (by omega), mset_i' (by omega), mset_i' (by omega)]; exact exx)) ?_
        refine wp_virt (as := [.int (zI xx), .int (zI i), .int (zI jj)]) (rest := [.int (zI (M 21 jj)), .ref 43]) d124_108 rfl rfl rfl (hG.o (by decide) rfl) rfl rfl (Nat.le_of_ble_eq_true rfl) ?_
        refine wc_deep (show d + 1 ≤ d + 3 by omega) ?_
        refine c_newScope (sc := sc) hG (by rw [mset_i' (by omega), mset_i' (by omega), mset_i' (by omega)]; exact b2) (by omega) ?_
        refine wp_virt (as := [.int (zI (sc : Int)), .int (zI (M 21 jj))]) (rest := []) d124_111 rfl rfl rfl (hG.o (by decide) rfl) rfl rfl (Nat.le_of_ble_eq_true rfl) ?_
        refine wc_deep (show d + 1 ≤ d + 3 by omega) ?_
        refine c_goTo hG ?_
        have V1 : ∀ (p : Nat) (y : Int), LoP p → cvw (mset (mset (mset (mset (mset (mset (mset (mset (mset (mset M 43 9 ((q : Int) + 1 - 1)) 43 14 0) 43 15 ((st : Int) + 1)) 43 10 ((sc : Int) + 1)) 48 sc jj) 49 sc i) 50 sc xx) 43 11 (M 21 jj)) 43 12 sc) 43 13 (-1)) Rf p y = if p = 43 ∧ y = 13 then -1 else if p = 43 ∧ y = 12 then (sc : Int) else if p = 43 ∧ y = 11 then M 21 jj else if p = 89 ∧ y = sc then xx else if p = 88 ∧ y = sc then i else if p = 87 ∧ y = sc then jj else if p = 43 ∧ y = 10 then (sc : Int) + 1 else if p = 43 ∧ y = 15 then (st : Int) + 1 else if p = 43 ∧ y = 14 then 0 else if p = 43 ∧ y = 9 then (q : Int) + 1 - 1 else cvw M Rf p y := fun p y lo => by
          rw [cvw43 (Or.inl rfl) h lo, cvw43 (Or.inl rfl) h lo, cvw43 (Or.inl rfl) h lo, cvwS (g := 2) (by omega) h lo, cvwS (g := 1) (by omega) h lo, cvwS (g := 0) (by omega) h lo, cvw43 (Or.inl rfl) h lo, cvw43 (Or.inl rfl) h lo, cvw43 (Or.inl rfl) h lo, cvw43 (Or.inl rfl) h lo]
        have vw : ∀ (p : Nat) (y : Int), LoP p → p ≠ 43 → (87 ≤ p ∧ p ≤ 89 → y ≠ sc) → cvw (mset (mset (mset (mset (mset (mset (mset (mset (mset (mset M 43 9 ((q : Int) + 1 - 1)) 43 14 0) 43 15 ((st : Int) + 1)) 43 10 ((sc : Int) + 1)) 48 sc jj) 49 sc i) 50 sc xx) 43 11 (M 21 jj)) 43 12 sc) 43 13 (-1)) Rf p y = cvw M Rf p y := fun p y lo hn hs2 => by
          rw [V1 p y lo, if_neg (by omega), if_neg (by omega), if_neg (by omega), if_neg (fun e => hs2 (by omega) e.2), if_neg (fun e => hs2 (by omega) e.2), if_neg (fun e => hs2 (by omega) e.2), if_neg (by omega), if_neg (by omega), if_neg (by omega), if_neg (by omega)]
        have hi : ∀ y : Int, H y ≠ none → 0 ≤ y ∧ y < vs := fun y hn => by
          cases q : H y with
          | none => exact absurd q hn
          | some v => exact (hh y v q).1
        have kp : Kpk (cvw M Rf) (cvw (mset (mset (mset (mset (mset (mset (mset (mset (mset (mset M 43 9 ((q : Int) + 1 - 1)) 43 14 0) 43 15 ((st : Int) + 1)) 43 10 ((sc : Int) + 1)) 48 sc jj) 49 sc i) 50 sc xx) 43 11 (M 21 jj)) 43 12 sc) 43 13 (-1)) Rf) 16 vs sc H := ⟨fun p y p1 p2 => vw p y (by unfold LoP; omega) (by omega) (by omega), fun p y p1 p2 _ y1 => vw p y (by unfold LoP; omega) (by omega) (by omega), fun y _ _ => vw 90 y (by unfold LoP; omega) (by omega) (by omega), fun y g' _ hg' => vw (91 + g') y (by unfold LoP; omega) (by omega) (by omega)⟩
        have v43 : ∀ y : Int, cvw (mset (mset (mset (mset (mset (mset (mset (mset (mset (mset M 43 9 ((q : Int) + 1 - 1)) 43 14 0) 43 15 ((st : Int) + 1)) 43 10 ((sc : Int) + 1)) 48 sc jj) 49 sc i) 50 sc xx) 43 11 (M 21 jj)) 43 12 sc) 43 13 (-1)) Rf 43 y = if y = 13 then -1 else if y = 12 then (sc : Int) else if y = 11 then M 21 jj else if y = 10 then (sc : Int) + 1 else if y = 15 then (st : Int) + 1 else if y = 14 then 0 else if y = 9 then (q : Int) + 1 - 1 else M 43 y := fun y => by
          rw [V1 43 y l43, x43]
          simp only [true_and, show ¬ (43 = 89 ∧ y = (sc : Int)) by omega, show ¬ (43 = 88 ∧ y = (sc : Int)) by omega, show ¬ (43 = 87 ∧ y = (sc : Int)) by omega, if_false]
        have fkb : FRk (cvw M Rf) 16 cnt sc st H k q (if nKd t = 10 then cvw M Rf 96 (q : Int) else (vs : Int)) := fkb
        rw [if_neg (by omega)] at fkb
        have nbk := nb.keep (V' := cvw (mset (mset (mset (mset (mset (mset (mset (mset (mset (mset M 43 9 ((q : Int) + 1 - 1)) 43 14 0) 43 15 ((st : Int) + 1)) 43 10 ((sc : Int) + 1)) 48 sc jj) 49 sc i) 50 sc xx) 43 11 (M 21 jj)) 43 12 sc) 43 13 (-1)) Rf) kp.1
        have b' : BK (cvw (mset (mset (mset (mset (mset (mset (mset (mset (mset (mset M 43 9 ((q : Int) + 1 - 1)) 43 14 0) 43 15 ((st : Int) + 1)) 43 10 ((sc : Int) + 1)) 48 sc jj) 49 sc i) 50 sc xx) 43 11 (M 21 jj)) 43 12 sc) 43 13 (-1)) Rf) 16 cnt (st + 1) vs (sc + 1) q zf zv H k (vN (nY t') + vpK k) := ⟨⟨by rw [vw 51 4 (by unfold LoP; omega) (by omega) (by omega)]; exact b1, by rw [v43 10]; rfl, by rw [v43 9]; show (q : Int) + 1 - 1 = q; omega, by rw [v43 14]; rfl, by rw [v43 15]; rfl⟩, hh.keep kp (by omega), ⟨by omega, by omega, b8, by omega, by have := nb.2.2.1; omega⟩, fkb.keep kp (fun _ _ x => x) (by omega) (by omega) (Int.le_refl _) (Int.le_refl _) (fun p r p1 p2 r0 r1 => vw p r (by unfold LoP; omega) (by omega) (by omega)) (fun r _ _ hn => ⟨hn, fun g' hg' => vw (91 + g') r (by unfold LoP; omega) (by omega) (by omega)⟩)⟩
        have ea := ec'.keep (V' := cvw (mset (mset (mset (mset (mset (mset (mset (mset (mset (mset M 43 9 ((q : Int) + 1 - 1)) 43 14 0) 43 15 ((st : Int) + 1)) 43 10 ((sc : Int) + 1)) 48 sc jj) 49 sc i) 50 sc xx) 43 11 (M 21 jj)) 43 12 sc) 43 13 (-1)) Rf) (sc' := sc + 1) kp.1 kp.2.1 (fun _ _ x => x) (by omega)
        have w7 : cvw (mset (mset (mset (mset (mset (mset (mset (mset (mset (mset M 43 9 ((q : Int) + 1 - 1)) 43 14 0) 43 15 ((st : Int) + 1)) 43 10 ((sc : Int) + 1)) 48 sc jj) 49 sc i) 50 sc xx) 43 11 (M 21 jj)) 43 12 sc) 43 13 (-1)) Rf 87 (sc : Int) = jj := by rw [V1 87 _ (by unfold LoP; omega)]; simp
        have w8 : cvw (mset (mset (mset (mset (mset (mset (mset (mset (mset (mset M 43 9 ((q : Int) + 1 - 1)) 43 14 0) 43 15 ((st : Int) + 1)) 43 10 ((sc : Int) + 1)) 48 sc jj) 49 sc i) 50 sc xx) 43 11 (M 21 jj)) 43 12 sc) 43 13 (-1)) Rf 88 (sc : Int) = i := by rw [V1 88 _ (by unfold LoP; omega)]; simp
        have w9 : cvw (mset (mset (mset (mset (mset (mset (mset (mset (mset (mset M 43 9 ((q : Int) + 1 - 1)) 43 14 0) 43 15 ((st : Int) + 1)) 43 10 ((sc : Int) + 1)) 48 sc jj) 49 sc i) 50 sc xx) 43 11 (M 21 jj)) 43 12 sc) 43 13 (-1)) Rf 89 (sc : Int) = xx := by rw [V1 89 _ (by unfold LoP; omega)]; simp
        have ex : ECe (cvw (mset (mset (mset (mset (mset (mset (mset (mset (mset (mset M 43 9 ((q : Int) + 1 - 1)) 43 14 0) 43 15 ((st : Int) + 1)) 43 10 ((sc : Int) + 1)) 48 sc jj) 49 sc i) 50 sc xx) 43 11 (M 21 jj)) 43 12 sc) 43 13 (-1)) Rf) 16 cnt (sc + 1) H (eN (nPl t') v ρ') (sc : Int) := by
          unfold eN
          rw [ECe, w7, w8, w9, kp.1 (16 + 2) _ (by omega) (by omega)]
          exact ⟨⟨by omega, by omega⟩, kd'.1, kp2, hv, el.2, ea⟩
        have mx : MX 16 M Rf K L n s zf zv zr (mset (mset (mset (mset (mset (mset (mset (mset (mset (mset M 43 9 ((q : Int) + 1 - 1)) 43 14 0) 43 15 ((st : Int) + 1)) 43 10 ((sc : Int) + 1)) 48 sc jj) 49 sc i) 50 sc xx) 43 11 (M 21 jj)) 43 12 sc) 43 13 (-1)) Rf K L n s zf zv := (((((((((MX.refl h hM).set (Or.inl ⟨rfl, by omega, by omega⟩) ⟨by omega, by omega⟩).set (Or.inl ⟨rfl, by omega, by omega⟩) ⟨by omega, by omega⟩).set (Or.inl ⟨rfl, by omega, by omega⟩) ⟨by omega, by omega⟩).set (Or.inl ⟨rfl, by omega, by omega⟩) ⟨by omega, by omega⟩).set (Or.inr (Or.inr ⟨by omega, by omega⟩)) ⟨by omega, by omega⟩).set (Or.inr (Or.inr ⟨by omega, by omega⟩)) ⟨by omega, by omega⟩).set (Or.inr (Or.inr ⟨by omega, by omega⟩)) ⟨by omega, by omega⟩).set (Or.inl ⟨rfl, by omega, by omega⟩) rjj).set (Or.inl ⟨rfl, by omega, by omega⟩) ⟨by omega, by omega⟩ |>.set (Or.inl ⟨rfl, by omega, by omega⟩) ⟨by omega, by omega⟩
        have e16 : (mset (mset (mset (mset (mset (mset (mset (mset (mset (mset M 43 9 ((q : Int) + 1 - 1)) 43 14 0) 43 15 ((st : Int) + 1)) 43 10 ((sc : Int) + 1)) 48 sc jj) 49 sc i) 50 sc xx) 43 11 (M 21 jj)) 43 12 sc) 43 13 (-1)) 43 16 = M 43 16 := by
          have := v43 16
          rw [cvw_o (by omega)] at this
          exact this
        refine wp_ret d124_114 rfl ⟨rfl, ?_⟩
        exact wp_ret d122_206 rfl (hq.1 true _ _ Rf K L n s zf zv em mx e16 ⟨vs, sc + 1, q, H, b', by rw [v43 13]; rfl, ⟨F' - 1, by rw [v43 11]; exact nbk, by have := nv'.2.2.2; show q + (F' - 1) ≤ 24 * (st + 1 + 1); omega⟩, by rw [v43 12]; exact ex⟩)
      · skip
        refine wz_if_eq (t := 114) d124_70 (by decide) ⟨by omega, by omega⟩ (fun _ => ?_) (fun hb => absurd (by omega) hb)
        refine wp_ret d124_114 rfl ⟨rfl, ?_⟩
        exact wp_ret d122_206 rfl (hq.2 _ _ em h60 ((((MX.refl h hM).set (Or.inl ⟨rfl, by omega, by omega⟩) ⟨by omega, by omega⟩).set (Or.inl ⟨rfl, by omega, by omega⟩) ⟨by omega, by omega⟩).set (Or.inl ⟨rfl, by omega, by omega⟩) ⟨by omega, by omega⟩) (mset_s _ _ _ _) (by rw [mset_i' (by omega), mset_i' (by omega), mset_i' (by omega), b5, h60]; rfl) (by rw [mset_i' (by omega), mset_i' (by omega), mset_i' (by omega)]))
    · skip
      refine wc_in (ls0 := [some (.ref 43), some (.int (zI (q : Int))), none, none]) (by decide) (Nat.le_of_ble_eq_true rfl) rfl rfl ?_
      refine wp_aload_n d124_0 rfl ?_
      refine wp_getR (q := Rf 43 2) d124_1 rfl (hG.o (by decide) rfl) (by decide) rfl (hFr.1 2 (by decide)).1 ?_
      refine wp_iload_n d124_4 rfl ?_
      refine wz_iald (z := zf) (v := fn) d124_5 (hFr.1 2 (by decide)) (by omega) (by omega) (by omega) (efn) ?_
      refine wp_istore_n d124_6 (Nat.le_of_ble_eq_true rfl) rfl ?_
      refine wp_iload_n d124_7 rfl ?_
      refine wz_iconst d124_8 ?_
      refine wz_icmp_ne (t := 47) d124_9 (by decide) ⟨by omega, by omega⟩ ⟨by omega, by omega⟩ (fun _ => ?_) (fun hb => absurd hb (by omega))
      refine wp_aload_n d124_47 rfl ?_
      refine wp_dupr d124_48 ?_
      refine wz_getI (v := (q : Int) + 1) d124_49 rfl (hG.o (by decide) rfl) (by decide) (e9) ?_
      refine wz_iconst d124_52 ?_
      refine wz_isub d124_53 ?_
      refine wz_putI (i := 9) d124_54 rfl (hG.o (by decide) rfl) rfl (by decide) rfl ?_
      refine wp_aload_n d124_57 rfl ?_
      refine wp_iload_n d124_58 rfl ?_
      refine wz_iconst d124_59 ?_
      refine wp_virt (as := [.int (zI 1), .int (zI fn)]) (rest := []) d124_60 rfl rfl rfl (hG.o (by decide) rfl) rfl rfl (Nat.le_of_ble_eq_true rfl) ?_
      refine wc_deep (show d + 1 ≤ d + 3 by omega) ?_
      refine c_isOfKind (i := fn) (j := jj) (kd := 1) (X := 23) h fi.1 (by omega) (by rw [mset_i' (by omega)]; exact ejj) kd'.1.1 (by omega) (by rw [mset_i' (by omega), kx, k6']; rfl) ⟨by omega, by omega⟩ ?_
      refine wz_if_eq (t := 114) d124_63 (by decide) ⟨by omega, by omega⟩ (fun hb => absurd hb (by omega)) (fun _ => ?_)
      refine wp_aload_n d124_66 rfl ?_
      refine wp_virt (as := []) (rest := []) d124_67 rfl rfl rfl (hG.o (by decide) rfl) rfl rfl (Nat.le_of_ble_eq_true rfl) ?_
      refine wc_deep (show d + 1 ≤ d + 3 by omega) ?_
      refine c_countStep (st := st) hG (by rw [mset_i' (by omega), mset_i' (by omega)]; exact b5) b7 (fun h60 => ?_) (fun h60 => ?_)
      · skip
        refine wz_if_eq (t := 114) d124_70 (by decide) ⟨by omega, by omega⟩ (fun hb => absurd hb (by omega)) (fun _ => ?_)
        refine wp_aload_n d124_73 rfl ?_
        refine wp_getR (q := 51) d124_74 rfl (hG.o (by decide) rfl) (by decide) (hG.r (by decide +kernel)) (by decide) ?_
        refine wp_getR (q := Rf 51 0) d124_77 rfl (hG.o (by decide) rfl) (by decide) rfl (hVr.1 0 (by decide)).1 ?_
        refine wp_iload_n d124_80 rfl ?_
        refine wz_iald (z := zv) (v := jj) d124_81 (hVr.1 0 (by decide)) (by omega) (by omega) (by omega) ((by rw [mset_i' (by omega), mset_i' (by omega), mset_i' (by omega)]; exact ejj)) ?_
        refine wp_istore_n d124_82 (Nat.le_of_ble_eq_true rfl) rfl ?_
        refine wp_aload_n d124_83 rfl ?_
        refine wp_aload_n d124_84 rfl ?_
        refine wp_getR (q := 23) d124_85 rfl (hG.o (by decide) rfl) (by decide) r8 (by decide) ?_
        refine wp_getR (q := 28) d124_88 rfl (hG.o (by decide) rfl) (by decide) (hG.r (by decide +kernel)) (by decide) ?_
        refine wp_iload_n d124_91 rfl ?_
        refine wz_iald (z := 60) (v := M 28 jj) d124_92 (hG.a (by decide) rfl rfl) (by omega) (by omega) (by decide) (by rw [mset_i' (by omega), mset_i' (by omega), mset_i' (by omega)]) ?_
        refine wp_aload_n d124_93 rfl ?_
        refine wp_iload_n d124_94 rfl ?_
        refine wp_aload_n d124_95 rfl ?_
        refine wz_getI (v := i) d124_96 rfl (hG.o (by decide) rfl) (by decide) ((by rw [mset_i' (by omega), mset_i' (by omega), mset_i' (by omega)]; exact ei)) ?_
        refine wp_aload_n d124_99 rfl ?_
        refine wp_getR (q := 51) d124_100 rfl (hG.o (by decide) rfl) (by decide) (hG.r (by decide +kernel)) (by decide) ?_
        refine wp_getR (q := Rf 51 1) d124_103 rfl (hG.o (by decide) rfl) (by decide) rfl (hVr.1 1 (by decide)).1 ?_
        refine wp_iload_n d124_106 rfl ?_
        refine wz_iald (z := zv) (v := xx) d124_107 (hVr.1 1 (by decide)) (by omega) (by omega) (by omega) ((by rw [mset_i' (by omega), mset_i' (by omega), mset_i' (by omega)]; exact exx)) ?_
        refine wp_virt (as := [.int (zI xx), .int (zI i), .int (zI jj)]) (rest := [.int (zI (M 28 jj)), .ref 43]) d124_108 rfl rfl rfl (hG.o (by decide) rfl) rfl rfl (Nat.le_of_ble_eq_true rfl) ?_
        refine wc_deep (show d + 1 ≤ d + 3 by omega) ?_
        refine c_newScope (sc := sc) hG (by rw [mset_i' (by omega), mset_i' (by omega), mset_i' (by omega)]; exact b2) (by omega) ?_
        refine wp_virt (as := [.int (zI (sc : Int)), .int (zI (M 28 jj))]) (rest := []) d124_111 rfl rfl rfl (hG.o (by decide) rfl) rfl rfl (Nat.le_of_ble_eq_true rfl) ?_
        refine wc_deep (show d + 1 ≤ d + 3 by omega) ?_
        refine c_goTo hG ?_
        have V1 : ∀ (p : Nat) (y : Int), LoP p → cvw (mset (mset (mset (mset (mset (mset (mset (mset (mset (mset M 43 9 ((q : Int) + 1 - 1)) 43 14 0) 43 15 ((st : Int) + 1)) 43 10 ((sc : Int) + 1)) 48 sc jj) 49 sc i) 50 sc xx) 43 11 (M 28 jj)) 43 12 sc) 43 13 (-1)) Rf p y = if p = 43 ∧ y = 13 then -1 else if p = 43 ∧ y = 12 then (sc : Int) else if p = 43 ∧ y = 11 then M 28 jj else if p = 89 ∧ y = sc then xx else if p = 88 ∧ y = sc then i else if p = 87 ∧ y = sc then jj else if p = 43 ∧ y = 10 then (sc : Int) + 1 else if p = 43 ∧ y = 15 then (st : Int) + 1 else if p = 43 ∧ y = 14 then 0 else if p = 43 ∧ y = 9 then (q : Int) + 1 - 1 else cvw M Rf p y := fun p y lo => by
          rw [cvw43 (Or.inl rfl) h lo, cvw43 (Or.inl rfl) h lo, cvw43 (Or.inl rfl) h lo, cvwS (g := 2) (by omega) h lo, cvwS (g := 1) (by omega) h lo, cvwS (g := 0) (by omega) h lo, cvw43 (Or.inl rfl) h lo, cvw43 (Or.inl rfl) h lo, cvw43 (Or.inl rfl) h lo, cvw43 (Or.inl rfl) h lo]
        have vw : ∀ (p : Nat) (y : Int), LoP p → p ≠ 43 → (87 ≤ p ∧ p ≤ 89 → y ≠ sc) → cvw (mset (mset (mset (mset (mset (mset (mset (mset (mset (mset M 43 9 ((q : Int) + 1 - 1)) 43 14 0) 43 15 ((st : Int) + 1)) 43 10 ((sc : Int) + 1)) 48 sc jj) 49 sc i) 50 sc xx) 43 11 (M 28 jj)) 43 12 sc) 43 13 (-1)) Rf p y = cvw M Rf p y := fun p y lo hn hs2 => by
          rw [V1 p y lo, if_neg (by omega), if_neg (by omega), if_neg (by omega), if_neg (fun e => hs2 (by omega) e.2), if_neg (fun e => hs2 (by omega) e.2), if_neg (fun e => hs2 (by omega) e.2), if_neg (by omega), if_neg (by omega), if_neg (by omega), if_neg (by omega)]
        have hi : ∀ y : Int, H y ≠ none → 0 ≤ y ∧ y < vs := fun y hn => by
          cases q : H y with
          | none => exact absurd q hn
          | some v => exact (hh y v q).1
        have kp : Kpk (cvw M Rf) (cvw (mset (mset (mset (mset (mset (mset (mset (mset (mset (mset M 43 9 ((q : Int) + 1 - 1)) 43 14 0) 43 15 ((st : Int) + 1)) 43 10 ((sc : Int) + 1)) 48 sc jj) 49 sc i) 50 sc xx) 43 11 (M 28 jj)) 43 12 sc) 43 13 (-1)) Rf) 23 vs sc H := ⟨fun p y p1 p2 => vw p y (by unfold LoP; omega) (by omega) (by omega), fun p y p1 p2 _ y1 => vw p y (by unfold LoP; omega) (by omega) (by omega), fun y _ _ => vw 90 y (by unfold LoP; omega) (by omega) (by omega), fun y g' _ hg' => vw (91 + g') y (by unfold LoP; omega) (by omega) (by omega)⟩
        have v43 : ∀ y : Int, cvw (mset (mset (mset (mset (mset (mset (mset (mset (mset (mset M 43 9 ((q : Int) + 1 - 1)) 43 14 0) 43 15 ((st : Int) + 1)) 43 10 ((sc : Int) + 1)) 48 sc jj) 49 sc i) 50 sc xx) 43 11 (M 28 jj)) 43 12 sc) 43 13 (-1)) Rf 43 y = if y = 13 then -1 else if y = 12 then (sc : Int) else if y = 11 then M 28 jj else if y = 10 then (sc : Int) + 1 else if y = 15 then (st : Int) + 1 else if y = 14 then 0 else if y = 9 then (q : Int) + 1 - 1 else M 43 y := fun y => by
          rw [V1 43 y l43, x43]
          simp only [true_and, show ¬ (43 = 89 ∧ y = (sc : Int)) by omega, show ¬ (43 = 88 ∧ y = (sc : Int)) by omega, show ¬ (43 = 87 ∧ y = (sc : Int)) by omega, if_false]
        have fkb : FRk (cvw M Rf) 23 cnt sc st H k q (if nKd t = 10 then cvw M Rf 96 (q : Int) else (vs : Int)) := fkb
        rw [if_neg (by omega)] at fkb
        have nbk := nb.keep (V' := cvw (mset (mset (mset (mset (mset (mset (mset (mset (mset (mset M 43 9 ((q : Int) + 1 - 1)) 43 14 0) 43 15 ((st : Int) + 1)) 43 10 ((sc : Int) + 1)) 48 sc jj) 49 sc i) 50 sc xx) 43 11 (M 28 jj)) 43 12 sc) 43 13 (-1)) Rf) kp.1
        have b' : BK (cvw (mset (mset (mset (mset (mset (mset (mset (mset (mset (mset M 43 9 ((q : Int) + 1 - 1)) 43 14 0) 43 15 ((st : Int) + 1)) 43 10 ((sc : Int) + 1)) 48 sc jj) 49 sc i) 50 sc xx) 43 11 (M 28 jj)) 43 12 sc) 43 13 (-1)) Rf) 23 cnt (st + 1) vs (sc + 1) q zf zv H k (vN (nY t') + vpK k) := ⟨⟨by rw [vw 51 4 (by unfold LoP; omega) (by omega) (by omega)]; exact b1, by rw [v43 10]; rfl, by rw [v43 9]; show (q : Int) + 1 - 1 = q; omega, by rw [v43 14]; rfl, by rw [v43 15]; rfl⟩, hh.keep kp (by omega), ⟨by omega, by omega, b8, by omega, by have := nb.2.2.1; omega⟩, fkb.keep kp (fun _ _ x => x) (by omega) (by omega) (Int.le_refl _) (Int.le_refl _) (fun p r p1 p2 r0 r1 => vw p r (by unfold LoP; omega) (by omega) (by omega)) (fun r _ _ hn => ⟨hn, fun g' hg' => vw (91 + g') r (by unfold LoP; omega) (by omega) (by omega)⟩)⟩
        have ea := ec'.keep (V' := cvw (mset (mset (mset (mset (mset (mset (mset (mset (mset (mset M 43 9 ((q : Int) + 1 - 1)) 43 14 0) 43 15 ((st : Int) + 1)) 43 10 ((sc : Int) + 1)) 48 sc jj) 49 sc i) 50 sc xx) 43 11 (M 28 jj)) 43 12 sc) 43 13 (-1)) Rf) (sc' := sc + 1) kp.1 kp.2.1 (fun _ _ x => x) (by omega)
        have w7 : cvw (mset (mset (mset (mset (mset (mset (mset (mset (mset (mset M 43 9 ((q : Int) + 1 - 1)) 43 14 0) 43 15 ((st : Int) + 1)) 43 10 ((sc : Int) + 1)) 48 sc jj) 49 sc i) 50 sc xx) 43 11 (M 28 jj)) 43 12 sc) 43 13 (-1)) Rf 87 (sc : Int) = jj := by rw [V1 87 _ (by unfold LoP; omega)]; simp
        have w8 : cvw (mset (mset (mset (mset (mset (mset (mset (mset (mset (mset M 43 9 ((q : Int) + 1 - 1)) 43 14 0) 43 15 ((st : Int) + 1)) 43 10 ((sc : Int) + 1)) 48 sc jj) 49 sc i) 50 sc xx) 43 11 (M 28 jj)) 43 12 sc) 43 13 (-1)) Rf 88 (sc : Int) = i := by rw [V1 88 _ (by unfold LoP; omega)]; simp
        have w9 : cvw (mset (mset (mset (mset (mset (mset (mset (mset (mset (mset M 43 9 ((q : Int) + 1 - 1)) 43 14 0) 43 15 ((st : Int) + 1)) 43 10 ((sc : Int) + 1)) 48 sc jj) 49 sc i) 50 sc xx) 43 11 (M 28 jj)) 43 12 sc) 43 13 (-1)) Rf 89 (sc : Int) = xx := by rw [V1 89 _ (by unfold LoP; omega)]; simp
        have ex : ECe (cvw (mset (mset (mset (mset (mset (mset (mset (mset (mset (mset M 43 9 ((q : Int) + 1 - 1)) 43 14 0) 43 15 ((st : Int) + 1)) 43 10 ((sc : Int) + 1)) 48 sc jj) 49 sc i) 50 sc xx) 43 11 (M 28 jj)) 43 12 sc) 43 13 (-1)) Rf) 23 cnt (sc + 1) H (eN (nPl t') v ρ') (sc : Int) := by
          unfold eN
          rw [ECe, w7, w8, w9, kp.1 (23 + 2) _ (by omega) (by omega)]
          exact ⟨⟨by omega, by omega⟩, kd'.1, kp2, hv, el.2, ea⟩
        have mx : MX 23 M Rf K L n s zf zv zr (mset (mset (mset (mset (mset (mset (mset (mset (mset (mset M 43 9 ((q : Int) + 1 - 1)) 43 14 0) 43 15 ((st : Int) + 1)) 43 10 ((sc : Int) + 1)) 48 sc jj) 49 sc i) 50 sc xx) 43 11 (M 28 jj)) 43 12 sc) 43 13 (-1)) Rf K L n s zf zv := (((((((((MX.refl h hM).set (Or.inl ⟨rfl, by omega, by omega⟩) ⟨by omega, by omega⟩).set (Or.inl ⟨rfl, by omega, by omega⟩) ⟨by omega, by omega⟩).set (Or.inl ⟨rfl, by omega, by omega⟩) ⟨by omega, by omega⟩).set (Or.inl ⟨rfl, by omega, by omega⟩) ⟨by omega, by omega⟩).set (Or.inr (Or.inr ⟨by omega, by omega⟩)) ⟨by omega, by omega⟩).set (Or.inr (Or.inr ⟨by omega, by omega⟩)) ⟨by omega, by omega⟩).set (Or.inr (Or.inr ⟨by omega, by omega⟩)) ⟨by omega, by omega⟩).set (Or.inl ⟨rfl, by omega, by omega⟩) rjj).set (Or.inl ⟨rfl, by omega, by omega⟩) ⟨by omega, by omega⟩ |>.set (Or.inl ⟨rfl, by omega, by omega⟩) ⟨by omega, by omega⟩
        have e16 : (mset (mset (mset (mset (mset (mset (mset (mset (mset (mset M 43 9 ((q : Int) + 1 - 1)) 43 14 0) 43 15 ((st : Int) + 1)) 43 10 ((sc : Int) + 1)) 48 sc jj) 49 sc i) 50 sc xx) 43 11 (M 28 jj)) 43 12 sc) 43 13 (-1)) 43 16 = M 43 16 := by
          have := v43 16
          rw [cvw_o (by omega)] at this
          exact this
        refine wp_ret d124_114 rfl ⟨rfl, ?_⟩
        exact wp_ret d122_206 rfl (hq.1 true _ _ Rf K L n s zf zv em mx e16 ⟨vs, sc + 1, q, H, b', by rw [v43 13]; rfl, ⟨F' - 1, by rw [v43 11]; exact nbk, by have := nv'.2.2.2; show q + (F' - 1) ≤ 24 * (st + 1 + 1); omega⟩, by rw [v43 12]; exact ex⟩)
      · skip
        refine wz_if_eq (t := 114) d124_70 (by decide) ⟨by omega, by omega⟩ (fun _ => ?_) (fun hb => absurd (by omega) hb)
        refine wp_ret d124_114 rfl ⟨rfl, ?_⟩
        exact wp_ret d122_206 rfl (hq.2 _ _ em h60 ((((MX.refl h hM).set (Or.inl ⟨rfl, by omega, by omega⟩) ⟨by omega, by omega⟩).set (Or.inl ⟨rfl, by omega, by omega⟩) ⟨by omega, by omega⟩).set (Or.inl ⟨rfl, by omega, by omega⟩) ⟨by omega, by omega⟩) (mset_s _ _ _ _) (by rw [mset_i' (by omega), mset_i' (by omega), mset_i' (by omega), b5, h60]; rfl) (by rw [mset_i' (by omega), mset_i' (by omega), mset_i' (by omega)]))
  rcases hX with rfl | rfl
  · skip
    refine wc_in (ls0 := [some (.ref 43), some (.int (zI (q : Int))), none]) (by decide) (Nat.le_of_ble_eq_true rfl) rfl rfl ?_
    refine wp_aload_n d122_0 rfl ?_
    refine wp_getR (q := Rf 43 0) d122_1 rfl (hG.o (by decide) rfl) (by decide) rfl (hFr.1 0 (by decide)).1 ?_
    refine wp_iload_n d122_4 rfl ?_
    refine wz_iald (z := zf) (v := j) d122_5 (hFr.1 0 (by decide)) (by omega) (by omega) (by omega) (ej) ?_
    refine wp_istore_n d122_6 (Nat.le_of_ble_eq_true rfl) rfl ?_
    refine wp_aload_n d122_7 rfl ?_
    refine wp_getR (q := 16) d122_8 rfl (hG.o (by decide) rfl) (by decide) r8 (by decide) ?_
    refine wp_getR (q := 17) d122_11 rfl (hG.o (by decide) rfl) (by decide) (hG.r (by decide +kernel)) (by decide) ?_
    refine wp_iload_n d122_14 rfl ?_
    refine wz_iald (z := 60) (v := 2) d122_15 (hG.a (by decide) rfl rfl) (by omega) (by omega) (by decide) (by rw [k3, hk]; rfl) ?_
    refine wp_table (t := 52) d122_16 (by decide +kernel) ?_
    refine wp_aload_n d122_52 rfl ?_
    refine wp_iload_n d122_53 rfl ?_
    refine wp_virt (as := [.int (zI (q : Int))]) (rest := []) d122_54 rfl rfl rfl (hG.o (by decide) rfl) rfl rfl (Nat.le_of_ble_eq_true rfl) ?_
    refine wc_mono er (fun r σ hr => ?_)
    obtain ⟨rfl, hr⟩ := hr
    exact wp_goto (t := 206) d122_57 (by decide) hr
  · skip
    refine wc_in (ls0 := [some (.ref 43), some (.int (zI (q : Int))), none]) (by decide) (Nat.le_of_ble_eq_true rfl) rfl rfl ?_
    refine wp_aload_n d122_0 rfl ?_
    refine wp_getR (q := Rf 43 0) d122_1 rfl (hG.o (by decide) rfl) (by decide) rfl (hFr.1 0 (by decide)).1 ?_
    refine wp_iload_n d122_4 rfl ?_
    refine wz_iald (z := zf) (v := j) d122_5 (hFr.1 0 (by decide)) (by omega) (by omega) (by omega) (ej) ?_
    refine wp_istore_n d122_6 (Nat.le_of_ble_eq_true rfl) rfl ?_
    refine wp_aload_n d122_7 rfl ?_
    refine wp_getR (q := 23) d122_8 rfl (hG.o (by decide) rfl) (by decide) r8 (by decide) ?_
    refine wp_getR (q := 24) d122_11 rfl (hG.o (by decide) rfl) (by decide) (hG.r (by decide +kernel)) (by decide) ?_
    refine wp_iload_n d122_14 rfl ?_
    refine wz_iald (z := 60) (v := 2) d122_15 (hG.a (by decide) rfl rfl) (by omega) (by omega) (by decide) (by rw [k3, hk]; rfl) ?_
    refine wp_table (t := 52) d122_16 (by decide +kernel) ?_
    refine wp_aload_n d122_52 rfl ?_
    refine wp_iload_n d122_53 rfl ?_
    refine wp_virt (as := [.int (zI (q : Int))]) (rest := []) d122_54 rfl rfl rfl (hG.o (by decide) rfl) rfl rfl (Nat.le_of_ble_eq_true rfl) ?_
    refine wc_mono er (fun r σ hr => ?_)
    obtain ⟨rfl, hr⟩ := hr
    exact wp_goto (t := 206) d122_57 (by decide) hr
end PmH11
