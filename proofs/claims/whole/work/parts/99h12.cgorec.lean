/-! THE CLASS: a value comes back: a part of a record. -/
section PmH12a
variable {V V' : pm_M} {X cnt st vs sc q g zf zv : Nat} {H : Int → Option Ty} {t ρ w v : Ty} {k : List Fr} {ri i : Int}
theorem rec_facts (bk : BK V X cnt st vs sc (q + 1) zf zv H ((t, ρ, w, g) :: k) (vpF (t, ρ, w, g) + vpK k)) (hk : nKd t = 10) (eri : V 96 (q : Int) = ri) : (g < 3 ∧ bit (nMk t) g = true) ∧ V 97 (q : Int) = (g : Int) ∧ (0 ≤ ri ∧ ri < vs) ∧ H ri = none ∧ V 90 ri = V 94 (q : Int) ∧ (∃ x y z, w = vR (nMk t) x y z) ∧ (∀ g' : Nat, g' < g → bit (nMk t) g' = true → H (V (91 + g') ri) = some (rP w g')) ∧ FRk V X cnt sc st H k q ri ∧ (∃ F, NVc V X cnt F t (V 94 (q : Int)) ∧ q + F ≤ 24 * (st + 1)) ∧ ECe V X cnt sc H ρ (V 95 (q : Int)) := by
  obtain ⟨-, -, -, fk⟩ := bk
  obtain ⟨fm, fkb⟩ := fk.below
  obtain ⟨f2, f3, ec, f6, f7⟩ := fm
  have fkb : FRk V X cnt sc st H k q (if nKd t = 10 then V 96 (q : Int) else (vs : Int)) := fkb
  rw [if_pos hk, eri] at fkb
  obtain ⟨p1, p2, p3, p4, p5, p6, p7⟩ := f7 hk
  rw [eri] at p3 p4 p5 p7
  exact ⟨p1, p2, p3, p4, p5, p6, p7, fkb, f3, ec⟩
theorem rec_keep (bk : BK V X cnt st vs sc (q + 1) zf zv H ((t, ρ, w, g) :: k) (vpF (t, ρ, w, g) + vpK k)) (hk : nKd t = 10) (hX : X = 16 ∨ X = 23) (eri : V 96 (q : Int) = ri) (vw : ∀ (p : Nat) (y : Int), LoP p → p ≠ 43 → ¬ (p = 91 + g ∧ y = ri) → ¬ (p = 97 ∧ y = q) → V' p y = V p y) : Kpk V V' X vs sc H := by
  obtain ⟨p1, p2, p3, p4, -⟩ := rec_facts bk hk eri
  have hg := p1.1
  exact ⟨fun p y p1 p2 => vw p y (by unfold LoP; omega) (by omega) (by omega) (by omega), fun p y p1 p2 _ _ => vw p y (by unfold LoP; omega) (by omega) (by omega) (by omega), fun y _ _ => vw 90 y (by unfold LoP; omega) (by omega) (by omega) (by omega), fun y g' hy hg' => vw (91 + g') y (by unfold LoP; omega) (by omega) (fun e => hy (by rw [e.2]; exact p4)) (by omega)⟩
theorem BK.done (bk : BK V X cnt st vs sc (q + 1) zf zv H ((t, ρ, w, g) :: k) (vpF (t, ρ, w, g) + vpK k)) (hk : nKd t = 10) (hX : X = 16 ∨ X = 23) (hv : H i = some v) (eri : V 96 (q : Int) = ri) (hx : ¬ nxl (nMk t) (g + 1) < 3) (vw : ∀ (p : Nat) (y : Int), LoP p → p ≠ 43 → ¬ (p = 91 + g ∧ y = ri) → ¬ (p = 97 ∧ y = q) → V' p y = V p y) (wg : V' (91 + g) ri = i) (e9 : V' 43 9 = (q : Int)) (e10 : V' 43 10 = V 43 10) (e14 : V' 43 14 = V 43 14) (e15 : V' 43 15 = V 43 15) : BK V' X cnt st vs sc q zf zv (Hup H ri (sP w g v)) k (vpK k) := by
  have kp := rec_keep bk hk hX eri vw
  obtain ⟨⟨hg, hbit⟩, p2, p3, hn, p5, ⟨x, y, z, ew⟩, p7, fkb, ⟨F, nv, hF⟩, ec⟩ := rec_facts bk hk eri
  obtain ⟨⟨b1, b2, b3, b4, b5⟩, hh, ⟨b6, b7, b8, b9, b10⟩, -⟩ := bk
  have kd := nv.kd
  obtain ⟨k1, k2, k3, k4, k5, -, k7, -⟩ := kd
  have m8 := k7 hk
  have k5 := k5 (by omega)
  have no := nxl_out m8 (g := g + 1) (by omega) hx
  obtain ⟨x', y', z', es2⟩ := sP_is (nMk t) g x y z v
  have ew2 : sP w g v = vR (nMk t) x' y' z' := by rw [ew]; exact es2
  have hle : Hle H (Hup H ri (sP w g v)) := Hup.le hn
  have e90 : V' 90 ri = V 94 (q : Int) := by rw [vw 90 _ (by unfold LoP; omega) (by omega) (by omega) (by omega)]; exact p5
  have vc : VCk V' X cnt sc (Hup H ri (sP w g v)) ri (sP w g v) := by
    refine Or.inr ⟨nMk t, x', y', z', ew2, m8, by rw [e90]; exact k1, by rw [e90, kp.1 (X + 1) _ (by omega) (by omega), k3, hk]; rfl, by rw [e90, kp.1 (X + 3) _ (by omega) (by omega)]; exact k5, fun g' hg' hb' => ?_⟩
    rw [ew, rP_sP hg' hg]
    by_cases cg : g' = g
    · rw [if_pos cg, cg, wg, ← ew]
      exact hle _ _ hv
    · rw [if_neg cg, vw (91 + g') _ (by unfold LoP; omega) (by omega) (by omega) (by omega), ← ew]
      refine hle _ _ (p7 g' ?_ hb')
      by_cases cl : g' < g
      · exact cl
      · have := no g' hg' (by omega)
        rw [hb'] at this; cases this
  exact ⟨⟨by rw [vw 51 4 (by unfold LoP; omega) (by omega) (by omega) (by omega)]; exact b1, by rw [e10]; exact b2, e9, by rw [e14]; exact b4, by rw [e15]; exact b5⟩, hh.up kp (Nat.le_refl _) (Nat.le_refl _) hn ⟨p3.1, p3.2⟩ vc, ⟨b6, b7, b8, by omega, by omega⟩, fkb.keep kp hle (Nat.le_refl _) (Nat.le_refl _) (by omega) (by omega) (fun p r p1 p2 r0 r1 => vw p r (by unfold LoP; omega) (by omega) (by omega) (by omega)) (fun r r0 r1 hr => ⟨by unfold Hup; rw [if_neg (by omega)]; exact hr, fun g' hg' => vw (91 + g') r (by unfold LoP; omega) (by omega) (by omega) (by omega)⟩)⟩
theorem BK.next (bk : BK V X cnt st vs sc (q + 1) zf zv H ((t, ρ, w, g) :: k) (vpF (t, ρ, w, g) + vpK k)) (hk : nKd t = 10) (hX : X = 16 ∨ X = 23) (hv : H i = some v) (eri : V 96 (q : Int) = ri) (hx : nxl (nMk t) (g + 1) < 3) (vw : ∀ (p : Nat) (y : Int), LoP p → p ≠ 43 → ¬ (p = 91 + g ∧ y = ri) → ¬ (p = 97 ∧ y = q) → V' p y = V p y) (wg : V' (91 + g) ri = i) (w97 : V' 97 (q : Int) = (nxl (nMk t) (g + 1) : Int)) (e9 : V' 43 9 = V 43 9) (e10 : V' 43 10 = V 43 10) (e14 : V' 43 14 = V 43 14) (e15 : V' 43 15 = V 43 15) : BK V' X cnt st vs sc (q + 1) zf zv H ((t, ρ, sP w g v, nxl (nMk t) (g + 1)) :: k) (vN (nP t (nxl (nMk t) (g + 1))) + (vpF (t, ρ, sP w g v, nxl (nMk t) (g + 1)) + vpK k)) ∧ (∃ F, NVc V' X cnt (F - 1) (nP t (nxl (nMk t) (g + 1))) (V (X + 4 + nxl (nMk t) (g + 1)) (V 94 (q : Int))) ∧ q + F ≤ 24 * (st + 1) ∧ 1 ≤ F) ∧ ECe V' X cnt sc H ρ (V 95 (q : Int)) := by
  have kp := rec_keep bk hk hX eri vw
  obtain ⟨⟨hg, hbit⟩, p2, p3, hn, p5, ⟨x, y, z, ew⟩, p7, fkb, ⟨F, nv, hF⟩, ec⟩ := rec_facts bk hk eri
  obtain ⟨⟨b1, b2, b3, b4, b5⟩, hh, ⟨b6, b7, b8, b9, b10⟩, -⟩ := bk
  have kd := nv.kd
  have m8 := kd.2.2.2.2.2.2.1 hk
  have F1 := kd.2.2.2.2.2.2.2.2.2
  obtain ⟨n1, n2, n3⟩ := nxl_in m8 (g := g + 1) (by omega) hx
  have npt := nv.part hk hx n2
  obtain ⟨x', y', z', es2⟩ := sP_is (nMk t) g x y z v
  have ew2 : sP w g v = vR (nMk t) x' y' z' := by rw [ew]; exact es2
  have ea := ec.keep (V' := V') kp.1 kp.2.1 (fun _ _ x => x) (Nat.le_refl _)
  have u94 : V' 94 (q : Int) = V 94 (q : Int) := vw 94 _ (by unfold LoP; omega) (by omega) (by omega) (by omega)
  have u95 : V' 95 (q : Int) = V 95 (q : Int) := vw 95 _ (by unfold LoP; omega) (by omega) (by omega) (by omega)
  have u96 : V' 96 (q : Int) = ri := by rw [vw 96 _ (by unfold LoP; omega) (by omega) (by omega) (by omega)]; exact eri
  have fm1 : FrK V' X cnt sc st H (t, ρ, sP w g v, nxl (nMk t) (g + 1)) q vs := by
    refine ⟨by show nKd t = 7 ∨ nKd t = 9 ∨ nKd t = 10 ∨ nKd t = 11; omega, ⟨F, by rw [u94]; exact nv.keep kp.1, hF⟩, by rw [u95]; exact ea, fun e => absurd (show nKd t = 7 from e) (by omega), fun _ => ?_⟩
    rw [u94, u96, w97, vw 90 _ (by unfold LoP; omega) (by omega) (by omega) (by omega)]
    refine ⟨⟨hx, n2⟩, rfl, p3, hn, p5, ⟨x', y', z', ew2⟩, fun g' hg' hb' => ?_⟩
    have hg' : g' < nxl (nMk t) (g + 1) := hg'
    have hb' : bit (nMk t) g' = true := hb'
    show H _ = some (rP (sP w g v) g')
    rw [ew, rP_sP (by omega) hg]
    by_cases cg : g' = g
    · rw [if_pos cg, cg, wg]
      exact hv
    · rw [if_neg cg, vw (91 + g') _ (by unfold LoP; omega) (by omega) (by omega) (by omega), ← ew]
      refine p7 g' ?_ hb'
      by_cases cl : g' < g
      · exact cl
      · have := n3 g' (by omega) (by omega) hg'
        rw [hb'] at this; cases this
  have pp : vN (nP t (nxl (nMk t) (g + 1))) + vpF (t, ρ, sP w g v, nxl (nMk t) (g + 1)) ≤ vpF (t, ρ, w, g) := by
    have pf : vpF (t, ρ, w, g) = vpR t g := by
      unfold vpF
      show (if nKd t = 7 then _ else if nKd t = 10 then vpR t g else 0) = _
      rw [if_neg (by omega), if_pos hk]
    rw [pf]
    unfold vpF
    show vN (nP t (nxl (nMk t) (g + 1))) + (if nKd t = 7 then _ else if nKd t = 10 then vpR t (nxl (nMk t) (g + 1)) else 0) ≤ vpR t g
    rw [if_neg (by omega), if_pos hk]
    unfold vpR
    have : (g = 0 ∧ nxl (nMk t) (g + 1) = 1) ∨ (g = 0 ∧ nxl (nMk t) (g + 1) = 2) ∨ (g = 1 ∧ nxl (nMk t) (g + 1) = 2) := by omega
    rcases this with ⟨e, e2⟩ | ⟨e, e2⟩ | ⟨e, e2⟩ <;> rw [e2, e]
    · show vN (nY t) + ((if 1 < 1 then vN (nY t) else 0) + (if 1 < 2 then vN (nZ t) else 0)) ≤ (if 0 < 1 then vN (nY t) else 0) + (if 0 < 2 then vN (nZ t) else 0)
      rw [if_neg (by omega), if_pos (by omega), if_pos (by omega), if_pos (by omega)]; omega
    · show vN (nZ t) + ((if 2 < 1 then vN (nY t) else 0) + (if 2 < 2 then vN (nZ t) else 0)) ≤ (if 0 < 1 then vN (nY t) else 0) + (if 0 < 2 then vN (nZ t) else 0)
      rw [if_neg (by omega), if_neg (by omega), if_pos (by omega), if_pos (by omega)]; omega
    · show vN (nZ t) + ((if 2 < 1 then vN (nY t) else 0) + (if 2 < 2 then vN (nZ t) else 0)) ≤ (if 1 < 1 then vN (nY t) else 0) + (if 1 < 2 then vN (nZ t) else 0)
      rw [if_neg (by omega), if_neg (by omega), if_neg (by omega), if_pos (by omega)]; omega
  have fkk : FRk V' X cnt sc st H k q ri := fkb.keep kp (fun _ _ x => x) (Nat.le_refl _) (Nat.le_refl _) (Int.le_refl _) (by omega) (fun p r p1 p2 r0 r1 => vw p r (by unfold LoP; omega) (by omega) (by omega) (by omega)) (fun r r0 r1 hr => ⟨hr, fun g' hg' => vw (91 + g') r (by unfold LoP; omega) (by omega) (by omega) (by omega)⟩)
  refine ⟨⟨⟨by rw [vw 51 4 (by unfold LoP; omega) (by omega) (by omega) (by omega)]; exact b1, by rw [e10]; exact b2, by rw [e9]; exact b3, by rw [e14]; exact b4, by rw [e15]; exact b5⟩, hh.keep kp (Nat.le_refl _), ⟨b6, b7, b8, b9, by omega⟩, ⟨q, rfl, fm1, ?_⟩⟩, ⟨F, npt.keep kp.1, hF, F1⟩, ea⟩
  show FRk _ X cnt sc st H k q (if nKd t = 10 then _ else _)
  rw [if_pos hk, u96]; exact fkk
end PmH12a
section PmH12
variable {d : Nat} {Q : Option Value → pm_S → Prop} {X cnt : Nat} {M : pm_M} {Rf : Nat → Nat → Nat} {K L : Nat → Nat} {n s zf zv zr st vs sc q g : Nat} {H : Int → Option Ty} {t ρ w v : Ty} {k : List Fr}
theorem c_goOn10 (h : MR X Rf K L n zf zv zr) (hM : ∀ p i, R32 (M p i)) (c6 : cnt ≤ 60) (bk : BK (cvw M Rf) X cnt st vs sc (q + 1) zf zv H ((t, ρ, w, g) :: k) (vpF (t, ρ, w, g) + vpK k)) (hv : H (cvw M Rf 43 13) = some v) (hk : nKd t = 10) (hq : EnP Q X cnt M Rf K L n s zf zv zr st (.inr (v, (t, ρ, w, g) :: k))) : pm_Wc (d + 5) 122 [.ref 43, .int (zI (q : Int))] (zM M, Rf, K, L, n, s) Q := by
  have f0 : cvw M Rf 94 (q : Int) = M (Rf 43 0) (q : Int) := cvw_f (g := 0) (by omega)
  have f1' : cvw M Rf 95 (q : Int) = M (Rf 43 1) (q : Int) := cvw_f (g := 1) (by omega)
  have f2' : cvw M Rf 96 (q : Int) = M (Rf 43 2) (q : Int) := cvw_f (g := 2) (by omega)
  have f3' : cvw M Rf 97 (q : Int) = M (Rf 43 3) (q : Int) := cvw_f (g := 3) (by omega)
  have x43 : ∀ y : Int, cvw M Rf 43 y = M 43 y := fun y => cvw_o (by omega)
  obtain ⟨⟨hg, hbit⟩, e97, ri0, -, -, -, -, -, ⟨F, nv, hF⟩, -⟩ := rec_facts bk hk rfl
  have b3 := bk.1.2.2.1
  have b8 := bk.2.2.1.2.2.1
  have b9 := bk.2.2.1.2.2.2.1
  have hvr := (bk.2.1 _ _ hv).1
  rw [x43] at hv b3 hvr
  rw [f3'] at e97
  rw [f2'] at ri0
  rw [f0] at nv
  have kd := nv.kd
  have hG := h.1
  have hX := h.2.2.2.2.2.2
  have hX0 := hX
  have r8 := h.2.2.2.2.2.1
  have hFr := h.2.1
  have hVr := h.2.2.1
  have fz := hFr.2.2.2.2.1
  have vz := hVr.2.2.2.2.1
  have l43 : LoP 43 := by unfold LoP; omega
  have x1 : ∀ g : Nat, g ≤ 6 → ∀ y : Int, cvw M Rf (X + g) y = M (X + g) y := fun g hg y => cvw_o (by omega)
  have m8 := kd.2.2.2.2.2.2.1 hk
  have k5 := kd.2.2.2.2.1 (by omega)
  have k3 := kd.2.2.1
  have k1 := kd.1
  rw [x1 3 (by omega)] at k5
  rw [x1 1 (by omega)] at k3
  clear kd
  generalize ej : M (Rf 43 0) (q : Int) = j at *
  generalize ei : M 43 13 = i at *
  generalize eri : M (Rf 43 2) (q : Int) = ri at *
  obtain ⟨jw, rfl⟩ : ∃ jw : Nat, j = (jw : Int) := ⟨j.toNat, by omega⟩
  have e9 : M 43 9 = (q : Int) + 1 := by rw [b3]; rfl
  have sp := h.sep
  have s0 := sp.1 0 (by omega)
  have s1 := sp.1 1 (by omega)
  have s3 := sp.1 3 (by omega)
  have sg := sp.1 (1 + g) (by omega)
  have a1 := sp.2.1 1 (1 + g) (by omega) (by omega)
  have a3 := sp.2.1 3 (1 + g) (by omega) (by omega)
  have d31 : Rf 43 3 ≠ Rf 43 1 := fun e => absurd (sp.2.2.1 3 1 (by decide) (by decide) e) (by decide)
  clear sp
  have ri4 : R32 i := by rw [← ei]; exact hM _ _
  have nl3 := (nxl_a _ m8 (g + 1) (by omega)).1
  have hXo : pm_At K n X 4 := by rcases hX0 with rfl | rfl <;> exact hG.o (by decide) rfl
  have Xp : 1 ≤ X := by omega
  have mx0 : MX X M Rf K L n s zf zv zr (mset M (Rf 51 (1 + g)) ri i) Rf K L n s zf zv := ⟨h, ⟨Nat.le_refl _, Nat.le_refl _, Nat.le_refl _, Nat.le_refl _, Nat.le_refl _⟩, fun p _ => ⟨rfl, rfl⟩, fun p _ g _ _ => rfl, fun g _ => ⟨Or.inl rfl, Or.inl rfl⟩, fun p _ hr y _ => mset_i' (fun e => (hr (1 + g) (by omega)).2 e.1), mset_R32 hM ri4⟩
  have er : pm_Wc (d + 4) 126 [.ref 43, .int (zI (q : Int))] (zM M, Rf, K, L, n, s) (fun r σ => r = none ∧ pm_Wp none (d + 4) 122 206 [some (.ref 43), some (.int (zI (q : Int))), some (.int (zI (jw : Int)))] [] σ Q) := by
    refine wc_in (ls0 := [some (.ref 43), some (.int (zI (q : Int))), none, none, none]) (by decide) (Nat.le_of_ble_eq_true rfl) rfl rfl ?_
    refine wp_aload_n d126_0 rfl ?_
    refine wp_getR (q := Rf 43 2) d126_1 rfl (hG.o (by decide) rfl) (by decide) rfl (hFr.1 2 (by decide)).1 ?_
    refine wp_iload_n d126_4 rfl ?_
    refine wz_iald (z := zf) (v := ri) d126_5 (hFr.1 2 (by decide)) (by omega) (by omega) (by omega) (eri) ?_
    refine wp_istore_n d126_6 (Nat.le_of_ble_eq_true rfl) rfl ?_
    refine wp_aload_n d126_7 rfl ?_
    refine wp_getR (q := Rf 43 0) d126_8 rfl (hG.o (by decide) rfl) (by decide) rfl (hFr.1 0 (by decide)).1 ?_
    refine wp_iload_n d126_11 rfl ?_
    refine wz_iald (z := zf) (v := (jw : Int)) d126_12 (hFr.1 0 (by decide)) (by omega) (by omega) (by omega) (ej) ?_
    refine wp_istore_n d126_13 (Nat.le_of_ble_eq_true rfl) rfl ?_
    refine wp_aload_n d126_14 rfl ?_
    refine wp_getR (q := 51) d126_15 rfl (hG.o (by decide) rfl) (by decide) (hG.r (by decide +kernel)) (by decide) ?_
    refine wp_iload_n d126_18 rfl ?_
    refine wp_aload_n d126_19 rfl ?_
    refine wp_getR (q := Rf 43 3) d126_20 rfl (hG.o (by decide) rfl) (by decide) rfl (hFr.1 3 (by decide)).1 ?_
    refine wp_iload_n d126_23 rfl ?_
    refine wz_iald (z := zf) (v := (g : Int)) d126_24 (hFr.1 3 (by decide)) (by omega) (by omega) (by omega) (e97) ?_
    refine wp_aload_n d126_25 rfl ?_
    refine wz_getI (v := i) d126_26 rfl (hG.o (by decide) rfl) (by decide) (ei) ?_
    refine wp_virt (as := [.int (zI i), .int (zI (g : Int)), .int (zI ri)]) (rest := []) d126_29 rfl rfl rfl (hG.o (by decide) rfl) rfl rfl (Nat.le_of_ble_eq_true rfl) ?_
    refine wc_deep (show d + 2 + 1 ≤ d + 3 by omega) ?_
    refine c_setPart (X := X) h hg ri0.1 (by omega) ?_
    refine wp_aload_n d126_32 rfl ?_
    refine wp_getR (q := X) d126_33 rfl (hG.o (by decide) rfl) (by decide) r8 Xp ?_
    refine wp_iload_n d126_36 rfl ?_
    refine wp_aload_n d126_37 rfl ?_
    refine wp_getR (q := Rf 43 3) d126_38 rfl (hG.o (by decide) rfl) (by decide) rfl (hFr.1 3 (by decide)).1 ?_
    refine wp_iload_n d126_41 rfl ?_
    refine wz_iald (z := zf) (v := (g : Int)) d126_42 (hFr.1 3 (by decide)) (by omega) (by omega) (by omega) (by rw [mset_i' (by omega)]; exact e97) ?_
    refine wz_iconst d126_43 ?_
    refine wz_iadd d126_44 ?_
    refine wp_virt (as := [.int (zI ((g : Int) + 1)), .int (zI (jw : Int))]) (rest := []) d126_45 rfl rfl rfl hXo rfl rfl (Nat.le_of_ble_eq_true rfl) ?_
    refine wc_deep (show d + 1 + 2 ≤ d + 3 by omega) ?_
    refine c_labelFrom (X := X) (w := jw) (m := nMk t) (g := g + 1) hG hX0 (by omega) (by rw [mset_i' (by omega)]; exact k5) m8 (by omega) ?_
    refine wp_istore d126_48 (Nat.le_of_ble_eq_true rfl) rfl ?_
    refine wp_iload d126_50 rfl ?_
    refine wz_iconst d126_52 ?_
    refine wz_icmp_ge (t := 87) d126_53 (by decide) ⟨by omega, by omega⟩ ⟨by omega, by omega⟩ (fun hx => ?_) (fun hx => ?_)
    · skip
      refine wp_aload_n d126_87 rfl ?_
      refine wp_dupr d126_88 ?_
      refine wz_getI (v := (q : Int) + 1) d126_89 rfl (hG.o (by decide) rfl) (by decide) (by rw [mset_i' (by omega)]; exact e9) ?_
      refine wz_iconst d126_92 ?_
      refine wz_isub d126_93 ?_
      refine wz_putI (i := 9) d126_94 rfl (hG.o (by decide) rfl) rfl (by decide) rfl ?_
      refine wp_aload_n d126_97 rfl ?_
      refine wp_iload_n d126_98 rfl ?_
      refine wz_putI (i := 13) d126_99 rfl (hG.o (by decide) rfl) rfl (by decide) rfl ?_
      have hxx : ¬ nxl (nMk t) (g + 1) < 3 := by omega
      have V1 : ∀ (p : Nat) (y : Int), LoP p → cvw (mset (mset (mset M (Rf 51 (1 + g)) ri i) 43 9 ((q : Int) + 1 - 1)) 43 13 ri) Rf p y = if p = 43 ∧ y = 13 then ri else if p = 43 ∧ y = 9 then (q : Int) + 1 - 1 else if p = 90 + (1 + g) ∧ y = ri then i else cvw M Rf p y := fun p y lo => by
        rw [cvw43 (Or.inl rfl) h lo, cvw43 (Or.inl rfl) h lo, cvwV (g := 1 + g) (by omega) h lo]
      have v43 : ∀ y : Int, y ≠ 9 → y ≠ 13 → cvw (mset (mset (mset M (Rf 51 (1 + g)) ri i) 43 9 ((q : Int) + 1 - 1)) 43 13 ri) Rf 43 y = cvw M Rf 43 y := fun y y1 y2 => by rw [V1 43 y l43, if_neg (by omega), if_neg (by omega), if_neg (by omega)]
      have b' := bk.done (V' := cvw (mset (mset (mset M (Rf 51 (1 + g)) ri i) 43 9 ((q : Int) + 1 - 1)) 43 13 ri) Rf) (i := i) (ri := ri) hk hX0 hv f2' hxx (fun p y lo q1 q2 _ => by rw [V1 p y lo, if_neg (by omega), if_neg (by omega), if_neg (by omega)]) (by rw [V1 _ _ (by unfold LoP; omega), if_neg (by omega), if_neg (by omega), if_pos (by omega)]) (by rw [V1 43 9 l43, if_neg (by omega), if_pos ⟨rfl, rfl⟩]; omega) (v43 10 (by omega) (by omega)) (v43 14 (by omega) (by omega)) (v43 15 (by omega) (by omega))
      have em : mv (.inr (v, (t, ρ, w, g) :: k)) = some (false, .inr (sP w g v, k)) := by
        rw [mvR_10 hk]
        unfold rGo
        rw [if_neg hxx]
      have mx : MX X M Rf K L n s zf zv zr (mset (mset (mset M (Rf 51 (1 + g)) ri i) 43 9 ((q : Int) + 1 - 1)) 43 13 ri) Rf K L n s zf zv := (mx0.set (Or.inl ⟨rfl, by omega, by omega⟩) ⟨by omega, by omega⟩).set (Or.inl ⟨rfl, by omega, by omega⟩) ⟨by omega, by omega⟩
      refine wp_ret d126_102 rfl ⟨rfl, ?_⟩
      exact wp_ret d122_206 rfl (hq.1 false _ _ Rf K L n s zf zv em mx (by rw [mset_i' (by omega), mset_i' (by omega), mset_i' (by omega)]) ⟨vs, sc, q, _, b', by show Hup H ri (sP w g v) (cvw (mset (mset (mset M (Rf 51 (1 + g)) ri i) 43 9 ((q : Int) + 1 - 1)) 43 13 ri) Rf 43 13) = _; rw [V1 43 13 l43, if_pos ⟨rfl, rfl⟩]; unfold Hup; rw [if_pos rfl]⟩)
    · skip
      have hxx : nxl (nMk t) (g + 1) < 3 := by omega
      refine wp_aload_n d126_56 rfl ?_
      refine wp_getR (q := Rf 43 3) d126_57 rfl (hG.o (by decide) rfl) (by decide) rfl (hFr.1 3 (by decide)).1 ?_
      refine wp_iload_n d126_60 rfl ?_
      refine wp_iload d126_61 rfl ?_
      refine wz_iast (z := zf) d126_63 (hFr.1 3 (by decide)) (by omega) (by omega) (by omega) ?_
      refine wp_aload_n d126_64 rfl ?_
      refine wp_aload_n d126_65 rfl ?_
      refine wp_getR (q := X) d126_66 rfl (hG.o (by decide) rfl) (by decide) r8 Xp ?_
      refine wp_iload_n d126_69 rfl ?_
      refine wp_iload d126_70 rfl ?_
      refine wp_virt (as := [.int (zI ((nxl (nMk t) (g + 1) : Int))), .int (zI (jw : Int))]) (rest := [.ref 43]) d126_72 rfl rfl rfl hXo rfl rfl (Nat.le_of_ble_eq_true rfl) ?_
      refine wc_deep (show d + 2 + 1 ≤ d + 3 by omega) ?_
      refine c_tpart (X := X) hG hX0 (by omega) (by omega) hxx ?_
      rw [show (mset (mset M (Rf 51 (1 + g)) ri i) (Rf 43 3) (q : Int) (nxl (nMk t) (g + 1) : Int)) (X + 4 + nxl (nMk t) (g + 1)) (jw : Int) = M (X + 4 + nxl (nMk t) (g + 1)) (jw : Int) by rw [mset_i' (by omega), mset_i' (by omega)]]
      refine wp_aload_n d126_75 rfl ?_
      refine wp_getR (q := Rf 43 1) d126_76 rfl (hG.o (by decide) rfl) (by decide) rfl (hFr.1 1 (by decide)).1 ?_
      refine wp_iload_n d126_79 rfl ?_
      refine wz_iald (z := zf) (v := M (Rf 43 1) (q : Int)) d126_80 (hFr.1 1 (by decide)) (by omega) (by omega) (by omega) (by rw [mset_i' (by omega), mset_i' (by omega)]) ?_
      refine wp_virt (as := [.int (zI (M (Rf 43 1) (q : Int))), .int (zI (M (X + 4 + nxl (nMk t) (g + 1)) (jw : Int)))]) (rest := []) d126_81 rfl rfl rfl (hG.o (by decide) rfl) rfl rfl (Nat.le_of_ble_eq_true rfl) ?_
      refine wc_deep (show d + 2 + 1 ≤ d + 3 by omega) ?_
      refine c_goTo hG ?_
      refine wp_goto (t := 102) d126_84 (by decide) ?_
      have V1 : ∀ (p : Nat) (y : Int), LoP p → cvw (mset (mset (mset (mset (mset M (Rf 51 (1 + g)) ri i) (Rf 43 3) (q : Int) (nxl (nMk t) (g + 1) : Int)) 43 11 (M (X + 4 + nxl (nMk t) (g + 1)) (jw : Int))) 43 12 (M (Rf 43 1) (q : Int))) 43 13 (-1)) Rf p y = if p = 43 ∧ y = 13 then -1 else if p = 43 ∧ y = 12 then M (Rf 43 1) (q : Int) else if p = 43 ∧ y = 11 then M (X + 4 + nxl (nMk t) (g + 1)) (jw : Int) else if p = 94 + 3 ∧ y = q then (nxl (nMk t) (g + 1) : Int) else if p = 90 + (1 + g) ∧ y = ri then i else cvw M Rf p y := fun p y lo => by
        rw [cvw43 (Or.inl rfl) h lo, cvw43 (Or.inl rfl) h lo, cvw43 (Or.inl rfl) h lo, cvwF (g := 3) (by omega) h lo, cvwV (g := 1 + g) (by omega) h lo]
      have v43 : ∀ y : Int, y ≠ 11 → y ≠ 12 → y ≠ 13 → cvw (mset (mset (mset (mset (mset M (Rf 51 (1 + g)) ri i) (Rf 43 3) (q : Int) (nxl (nMk t) (g + 1) : Int)) 43 11 (M (X + 4 + nxl (nMk t) (g + 1)) (jw : Int))) 43 12 (M (Rf 43 1) (q : Int))) 43 13 (-1)) Rf 43 y = cvw M Rf 43 y := fun y y1 y2 y3 => by rw [V1 43 y l43, if_neg (by omega), if_neg (by omega), if_neg (by omega), if_neg (by omega), if_neg (by omega)]
      obtain ⟨b', ⟨F2, npk, hF2, F21⟩, ea⟩ := bk.next (V' := cvw (mset (mset (mset (mset (mset M (Rf 51 (1 + g)) ri i) (Rf 43 3) (q : Int) (nxl (nMk t) (g + 1) : Int)) 43 11 (M (X + 4 + nxl (nMk t) (g + 1)) (jw : Int))) 43 12 (M (Rf 43 1) (q : Int))) 43 13 (-1)) Rf) (i := i) (ri := ri) hk hX0 hv f2' hxx (fun p y lo q1 q2 q3 => by rw [V1 p y lo, if_neg (by omega), if_neg (by omega), if_neg (by omega), if_neg (by omega), if_neg (by omega)]) (by rw [V1 _ _ (by unfold LoP; omega), if_neg (by omega), if_neg (by omega), if_neg (by omega), if_neg (by omega), if_pos (by omega)]) (by rw [V1 97 _ (by unfold LoP; omega), if_neg (by omega), if_neg (by omega), if_neg (by omega), if_pos ⟨rfl, rfl⟩]) (v43 9 (by omega) (by omega) (by omega)) (v43 10 (by omega) (by omega) (by omega)) (v43 14 (by omega) (by omega) (by omega)) (v43 15 (by omega) (by omega) (by omega))
      rw [f0, show X + 4 + nxl (nMk t) (g + 1) = X + (4 + nxl (nMk t) (g + 1)) by omega, x1 (4 + nxl (nMk t) (g + 1)) (by omega)] at npk
      rw [f1'] at ea
      have em : mv (.inr (v, (t, ρ, w, g) :: k)) = some (false, .inl (nP t (nxl (nMk t) (g + 1)), ρ, (t, ρ, sP w g v, nxl (nMk t) (g + 1)) :: k)) := by
        rw [mvR_10 hk]
        unfold rGo
        rw [if_pos hxx]
      have mx1 : MX X M Rf K L n s zf zv zr (mset (mset M (Rf 51 (1 + g)) ri i) (Rf 43 3) (q : Int) (nxl (nMk t) (g + 1) : Int)) Rf K L n s zf zv := mx0.trans ⟨h, ⟨Nat.le_refl _, Nat.le_refl _, Nat.le_refl _, Nat.le_refl _, Nat.le_refl _⟩, fun p _ => ⟨rfl, rfl⟩, fun p _ g _ _ => rfl, fun g _ => ⟨Or.inl rfl, Or.inl rfl⟩, fun p _ hr y _ => mset_i' (fun e => (hr 3 (by omega)).1 e.1), mset_R32 mx0.2.2.2.2.2.2 ⟨by omega, by omega⟩⟩
      have mx : MX X M Rf K L n s zf zv zr (mset (mset (mset (mset (mset M (Rf 51 (1 + g)) ri i) (Rf 43 3) (q : Int) (nxl (nMk t) (g + 1) : Int)) 43 11 (M (X + 4 + nxl (nMk t) (g + 1)) (jw : Int))) 43 12 (M (Rf 43 1) (q : Int))) 43 13 (-1)) Rf K L n s zf zv := ((mx1.set (Or.inl ⟨rfl, by omega, by omega⟩) (hM _ _)).set (Or.inl ⟨rfl, by omega, by omega⟩) (hM _ _)).set (Or.inl ⟨rfl, by omega, by omega⟩) ⟨by omega, by omega⟩
      refine wp_ret d126_102 rfl ⟨rfl, ?_⟩
      exact wp_ret d122_206 rfl (hq.1 false _ _ Rf K L n s zf zv em mx (by rw [mset_i' (by omega), mset_i' (by omega), mset_i' (by omega), mset_i' (by omega), mset_i' (by omega)]) ⟨vs, sc, q + 1, H, b', by rw [V1 43 13 l43, if_pos ⟨rfl, rfl⟩], ⟨F2 - 1, by rw [V1 43 11 l43, if_neg (by omega), if_neg (by omega), if_pos ⟨rfl, rfl⟩, show X + 4 + nxl (nMk t) (g + 1) = X + (4 + nxl (nMk t) (g + 1)) by omega]; exact npk, by show q + 1 + (F2 - 1) ≤ 24 * (st + 0 + 1); omega⟩, by rw [V1 43 12 l43, if_neg (by omega), if_pos ⟨rfl, rfl⟩]; exact ea⟩)
  rcases hX with rfl | rfl
  · skip
    refine wc_in (ls0 := [some (.ref 43), some (.int (zI (q : Int))), none]) (by decide) (Nat.le_of_ble_eq_true rfl) rfl rfl ?_
    refine wp_aload_n d122_0 rfl ?_
    refine wp_getR (q := Rf 43 0) d122_1 rfl (hG.o (by decide) rfl) (by decide) rfl (hFr.1 0 (by decide)).1 ?_
    refine wp_iload_n d122_4 rfl ?_
    refine wz_iald (z := zf) (v := (jw : Int)) d122_5 (hFr.1 0 (by decide)) (by omega) (by omega) (by omega) (ej) ?_
    refine wp_istore_n d122_6 (Nat.le_of_ble_eq_true rfl) rfl ?_
    refine wp_aload_n d122_7 rfl ?_
    refine wp_getR (q := 16) d122_8 rfl (hG.o (by decide) rfl) (by decide) r8 (by decide) ?_
    refine wp_getR (q := 17) d122_11 rfl (hG.o (by decide) rfl) (by decide) (hG.r (by decide +kernel)) (by decide) ?_
    refine wp_iload_n d122_14 rfl ?_
    refine wz_iald (z := 60) (v := 5) d122_15 (hG.a (by decide) rfl rfl) (by omega) (by omega) (by decide) (by rw [k3, hk]; rfl) ?_
    refine wp_table (t := 201) d122_16 (by decide +kernel) ?_
    refine wp_aload_n d122_201 rfl ?_
    refine wp_iload_n d122_202 rfl ?_
    refine wp_virt (as := [.int (zI (q : Int))]) (rest := []) d122_203 rfl rfl rfl (hG.o (by decide) rfl) rfl rfl (Nat.le_of_ble_eq_true rfl) ?_
    refine wc_mono er (fun r σ hr => ?_)
    obtain ⟨rfl, hr⟩ := hr
    exact hr
  · skip
    refine wc_in (ls0 := [some (.ref 43), some (.int (zI (q : Int))), none]) (by decide) (Nat.le_of_ble_eq_true rfl) rfl rfl ?_
    refine wp_aload_n d122_0 rfl ?_
    refine wp_getR (q := Rf 43 0) d122_1 rfl (hG.o (by decide) rfl) (by decide) rfl (hFr.1 0 (by decide)).1 ?_
    refine wp_iload_n d122_4 rfl ?_
    refine wz_iald (z := zf) (v := (jw : Int)) d122_5 (hFr.1 0 (by decide)) (by omega) (by omega) (by omega) (ej) ?_
    refine wp_istore_n d122_6 (Nat.le_of_ble_eq_true rfl) rfl ?_
    refine wp_aload_n d122_7 rfl ?_
    refine wp_getR (q := 23) d122_8 rfl (hG.o (by decide) rfl) (by decide) r8 (by decide) ?_
    refine wp_getR (q := 24) d122_11 rfl (hG.o (by decide) rfl) (by decide) (hG.r (by decide +kernel)) (by decide) ?_
    refine wp_iload_n d122_14 rfl ?_
    refine wz_iald (z := 60) (v := 5) d122_15 (hG.a (by decide) rfl rfl) (by omega) (by omega) (by decide) (by rw [k3, hk]; rfl) ?_
    refine wp_table (t := 201) d122_16 (by decide +kernel) ?_
    refine wp_aload_n d122_201 rfl ?_
    refine wp_iload_n d122_202 rfl ?_
    refine wp_virt (as := [.int (zI (q : Int))]) (rest := []) d122_203 rfl rfl rfl (hG.o (by decide) rfl) rfl rfl (Nat.le_of_ble_eq_true rfl) ?_
    refine wc_mono er (fun r σ hr => ?_)
    obtain ⟨rfl, hr⟩ := hr
    exact hr
end PmH12
