theorem bit8h {c g : Nat} (hc : 8 ≤ c ∧ c < 16) (hg : g < 3) : bit c g = true ↔ bit (c - 8) g = true := by
  have : ∀ c, c < 16 → 8 ≤ c → ∀ g, g < 3 → (bit c g = true ↔ bit (c - 8) g = true) := by decide
  exact this c hc.2 hc.1 g hg
/-! THE CLASS: the other rules. -/
section PmE7
variable {d X cnt f : Nat} {Γ : List Ty} {Δ : List (Nat × Ty × Nat)} {t : Ty} {v : Int} {dp : Nat}
theorem ru_all (IH : FdC d X cnt f) (hk : nKd t = 8) (tw : TWf (f + 1) Γ.length (Δ.map (fun a => a.1)) t) (tl : TL (f + 1) t Γ Δ) (hΓ : Γ.length + (f + 1) ≤ 25) (hdp : dp + (f + 1) = 25) : RuC (d + 4 * f + 402) 107 X cnt Γ Δ f t v dp (TN f (nY t) (nX t :: Γ) Δ + 1) (rbd (tyF f (nY t) (nX t :: Γ) Δ) (fun B => .inr (some (tAll (nX t) B)))) [.ref 42, .int (zI v), .int (zI (Γ.length : Int)), .int (zI (dp : Int))] := by
  intro M Rf K L n s z cn Q hS hn hB h
  have hx := hS.hx
  have vr := hn.rng
  have c60 := hS.ct
  have c1 := hS.c1
  obtain ⟨w1, w2, w3⟩ := tw.2.2.2.2.1 hk
  have tl1 := tl.2.2.1 hk
  have nx : ndf M Rf cn 16 (nX t) (M (X + 4) v) := hn.p2 (g := 0) (by decide) (by rw [hk]; rfl) w1 w2
  have rx0 := ndf_rng nx
  have p3 : M (X + 1 + 3) v = M (X + 4) v := rfl
  refine wc_in (ls0 := [some (.ref 42), some (.int (zI v)), some (.int (zI (Γ.length : Int))), some (.int (zI (dp : Int))), none, none]) (by decide) (Nat.le_of_ble_eq_true rfl) rfl rfl ?_
  refine wp_aload_n d107_0 rfl ?_
  refine wp_getR (q := X) d107_1 rfl (hS.g.o (by decide) rfl) (by decide) hS.rx (by have := hS.hx; omega) ?_
  refine wp_getR (q := X + 1 + 3) d107_4 rfl (hS.g.tm hS.hx) (by decide) (hS.g.tr hS.hx (by decide)) (by omega) ?_
  refine wp_iload_n d107_7 rfl ?_
  refine wz_iald (z := 60) (v := M (X + 4) v) d107_8 (hS.g.ta hS.hx (by decide)) (by omega) (by omega) (by omega) (p3) ?_
  refine wp_istore d107_9 (Nat.le_of_ble_eq_true rfl) rfl ?_
  refine wp_aload_n d107_11 rfl ?_
  refine wp_getR (q := 6) d107_12 rfl (hS.g.o (by decide) rfl) (by decide) (hS.g.r (by decide +kernel)) (by decide) ?_
  refine wp_iload d107_15 rfl ?_
  refine wp_iload_n d107_17 rfl ?_
  refine wp_virt (as := [.int (zI (Γ.length : Int)), .int (zI (M (X + 4) v))]) (rest := []) d107_18 rfl rfl rfl (hS.g.o (by decide) rfl) rfl rfl (Nat.le_of_ble_eq_true rfl) ?_
  refine wc_deep (show 0 + 1 ≤ d + 4 * f + 401 by omega) ?_
  refine c_openOne (o := Γ.length) hS.g (by omega) ?_
  have far12 : ∀ g, g < 5 → 12 ≠ Rf 6 g := fun g hg => by have := hS.r.2.1 g hg; omega
  have cxa : CX (WFd Γ.length) M Rf K L n s z cn (mset M 12 (Γ.length : Int) (M (X + 4) v)) Rf K L n s z := (CX.refl hS.g hS.r hS.m).set far12 (by unfold WFd; omega) (hS.m _ _)
  have Sa : CFS X cnt Γ Δ (mset M 12 (Γ.length : Int) (M (X + 4) v)) Rf K L n z cn := hS.move cxa (by rw [mset_p _ _ _ _ (by decide)]; exact hS.m6) (Int.le_refl _) c1.2.1 (by rw [mset_p _ _ _ _ (by decide)]; exact hS.bp)
  have Na := hn.move hS cxa (Int.le_refl _)
  have nxa : ndf (mset M 12 (Γ.length : Int) (M (X + 4) v)) Rf cn 16 (nX t) (M (X + 4) v) := ndf_mono cxa.nodes (Int.le_refl _) (Nat.le_refl _) nx
  have Sb : CFS X cnt (nX t :: Γ) Δ (mset M 12 (Γ.length : Int) (M (X + 4) v)) Rf K L n z cn := ⟨Sa.g, Sa.r, Sa.m, Sa.m6, c1.1, c1.2.1, Sa.top, Sa.rx, Sa.hx, Sa.bp, Sa.pi, Sa.ct, Sa.bn.cons (by rw [mset_s]; exact nxa) w2, hS.te.all w1 w2, Sa.de⟩
  refine wz_if_ne (t := 26) d107_21 (by decide) ⟨by omega, by omega⟩ (fun _ => ?_) (fun hb => absurd hb (by decide))
  refine wp_aload_n d107_26 rfl ?_
  refine wp_aload_n d107_27 rfl ?_
  refine wp_getR (q := X) d107_28 rfl (Sa.g.o (by decide) rfl) (by decide) Sa.rx (by have := Sa.hx; omega) ?_
  refine wp_getR (q := X + 1 + 4) d107_31 rfl (Sa.g.tm Sa.hx) (by decide) (Sa.g.tr Sa.hx (by decide)) (by omega) ?_
  refine wp_iload_n d107_34 rfl ?_
  refine wz_iald (z := 60) (v := (mset M 12 (Γ.length : Int) (M (X + 4) v)) (X + 1 + 4) v) d107_35 (Sa.g.ta Sa.hx (by decide)) (by omega) (by omega) (by omega) (rfl) ?_
  refine wp_iload_n d107_36 rfl ?_
  refine wz_iconst d107_37 ?_
  refine wz_iadd d107_38 ?_
  refine wp_iload_n d107_39 rfl ?_
  refine wz_iconst d107_40 ?_
  refine wz_iadd d107_41 ?_
  rw [show (Γ.length : Int) + 1 = ((nX t :: Γ).length : Int) by rw [List.length_cons]; omega]
  refine wp_virt (as := [.int (zI ((dp : Int) + 1)), .int (zI (((nX t :: Γ).length : Int))), .int (zI ((mset M 12 (Γ.length : Int) (M (X + 4) v)) (X + 1 + 4) v))]) (rest := []) d107_42 rfl rfl rfl (Sa.g.o (by decide) rfl) rfl rfl (Nat.le_of_ble_eq_true rfl) ?_
  rw [show (dp : Int) + 1 = ((dp + 1 : Nat) : Int) by omega]
  refine wc_deep (show d + 4 * f + 400 ≤ d + 4 * f + 401 by omega) ?_
  refine IH (nY t) _ (nX t :: Γ) Δ (dp + 1) (mset M 12 (Γ.length : Int) (M (X + 4) v)) Rf K L n s z cn _ Sb (Na.p1 (g := 1) (by decide) (by rw [hk]; rfl)) w3 tl1 (by rw [List.length_cons]; omega) (by omega) (by omega) (fun M1 R1 K1 L1 n1 s1 z1 cn1 r1 zz1 u11 u21 u31 u41 fr1 => ?_)
  have xx1 : CX (WFd Γ.length) M Rf K L n s z cn M1 R1 K1 L1 n1 s1 z1 := cxa.trans (zz1.weak (WFd.mono (by rw [List.length_cons]; omega))) (Int.le_refl _)
  cases hy : tyF f (nY t) (nX t :: Γ) Δ with
  | inl q =>
    rw [hy] at fr1 h
    obtain ⟨e1, e2⟩ := fr1
    subst e1
    refine wp_istore d107_45 (Nat.le_of_ble_eq_true rfl) rfl ?_
    refine wp_iload d107_47 rfl ?_
    refine wz_iconst d107_49 ?_
    refine wz_icmp_ne (t := 57) d107_50 (by decide) ⟨by omega, by omega⟩ ⟨by omega, by omega⟩ (fun hb => absurd (rfl) hb) (fun _ => ?_)
    refine wz_iconst d107_53 ?_
    refine wp_goto (t := 71) d107_54 (by decide) ?_
    exact wp_ret d107_71 rfl (h M1 R1 K1 L1 n1 s1 z1 cn1 (-1) xx1 u11 (by omega) (by omega) u41 ⟨rfl, e2⟩)
  | inr B =>
  rw [hy] at fr1 h
  have S1 := hS.move xx1 u11 u21 u41 fr1.2
  have N1 := hn.move hS xx1 u21
  have cx1 := xx1
  have nd1 := fr1.1
  have rr1 := ndf_rng nd1
  have cz1 := S1.c1
  have oB := (tyF_ok f (nY t) (nX t :: Γ) Δ B w3 (hS.te.all w1 w2) hy)
  have nx1 : ndf M1 R1 cn1 16 (nX t) (M (X + 4) v) := ndf_mono xx1.nodes u21 (Nat.le_refl _) nx
  have rx1 := ndf_rng nx1
  have oR : ok Γ.length (tAll (nX t) B) = true := ok_all.mpr ⟨w1, oB.1⟩
  have ccR : cc (hd (tAll (nX t) B)) = 35 := rfl
  have X0f : XF M1 R1 cn1 16 (tAll (nX t) B) 0 (M (X + 4) v) := ⟨rx1.1, rx1.2, fun _ => nx1⟩
  have X1f : XF M1 R1 cn1 16 (tAll (nX t) B) 1 r1 := ⟨rr1.1, rr1.2, fun _ => nd1⟩
  have X2f : XF M1 R1 cn1 16 (tAll (nX t) B) 2 0 := ⟨Int.le_refl _, by omega, fun hb => by rw [(hp_all (nX t) B).2.2] at hb; cases hb⟩
  have q0 := X0f.size oR (by decide)
  have q1 := X1f.size oR (by decide)
  have q2 := X2f.size oR (by decide)
  have lp := len_pts oR
  have lR : (flat (tAll (nX t) B)).length ≤ 1000000 := by
    have := oB.2
    rw [flat_all, List.length_cons, List.length_append]; omega
  refine wp_istore d107_45 (Nat.le_of_ble_eq_true rfl) rfl ?_
  refine wp_iload d107_47 rfl ?_
  refine wz_iconst d107_49 ?_
  refine wz_icmp_ne (t := 57) d107_50 (by decide) ⟨by omega, by omega⟩ ⟨by omega, by omega⟩ (fun _ => ?_) (fun hb => absurd hb (by omega))
  refine wp_aload_n d107_57 rfl ?_
  refine wp_getR (q := 6) d107_58 rfl (S1.g.o (by decide) rfl) (by decide) (S1.g.r (by decide +kernel)) (by decide) ?_
  refine wz_bipush d107_61 (by decide) ?_
  rw [show (35 : Int) = ((cc (hd (tAll (nX t) B)) : Nat) : Int) by rw [ccR]; rfl]
  refine wp_iload d107_63 rfl ?_
  refine wp_iload d107_65 rfl ?_
  refine wz_iconst d107_67 ?_
  refine wp_virt (as := [.int (zI 0), .int (zI r1), .int (zI (M (X + 4) v)), .int (zI (((cc (hd (tAll (nX t) B)) : Nat) : Int)))]) (rest := []) d107_68 rfl rfl rfl (S1.g.o (by decide) rfl) rfl rfl (Nat.le_of_ble_eq_true rfl) ?_
  refine wc_deep (show 0 + 3 ≤ d + 4 * f + 401 by omega) ?_
  refine c_make (c := cc (hd (tAll (nX t) B))) S1.g S1.r S1.m S1.m6 cz1.2.1 (by omega) (cc_small oR (by omega)) X0f.1 X0f.2.1 X1f.1 X1f.2.1 X2f.1 X2f.2.1 (by rw [q0]; omega) (by rw [q1]; omega) (by rw [q2]; omega) (fun M9 R9 K9 L9 n9 s9 z9 mk => ?_)
  have nd9 := mk.ndf oR (by omega) X0f X1f X2f
  have mcx := mk.cx
  obtain ⟨-, m6, mz, -⟩ := mk
  have bp9 : M9 42 2 = -1 := (mcx.mem 42 (by have := S1.g.1; omega) (fun g hg => by have := S1.r.2.1 g hg; omega) 2 (by omega)).trans S1.bp
  exact wp_ret d107_71 rfl (h M9 R9 K9 L9 n9 s9 z9 (cn1 + 1) cn1 (cx1.trans (mcx.weak (fun p i w => Or.inl w)) (by omega)) m6 (by omega) (by omega) mz (RO.of bp9 oR lR nd9))
theorem ru_at (IH : FdC d X cnt f) (hk : nKd t = 9) (tw : TWf (f + 1) Γ.length (Δ.map (fun a => a.1)) t) (tl : TL (f + 1) t Γ Δ) (hΓ : Γ.length + (f + 1) ≤ 25) (hdp : dp + (f + 1) = 25) : RuC (d + 4 * f + 402) 108 X cnt Γ Δ f t v dp (TN f (nX t) Γ Δ + 16 * Γ.length + ci Γ (nY t) (tyF f (nX t) Γ Δ)) (rbd (tyF f (nX t) Γ Δ) (fun A => .inr (tyI Γ (expo Γ Γ.length A) (nY t)))) [.ref 42, .int (zI v), .int (zI (Γ.length : Int)), .int (zI (dp : Int))] := by
  intro M Rf K L n s z cn Q hS hn hB h
  have hx := hS.hx
  have vr := hn.rng
  have c60 := hS.ct
  have c1 := hS.c1
  obtain ⟨w1, w2, w3⟩ := tw.2.2.2.2.2.1 hk
  obtain ⟨t1, t3⟩ := tl.2.2.2.1 hk
  have ny : ndf M Rf cn 16 (nY t) (M (X + 5) v) := hn.p2 (g := 1) (by decide) (by rw [hk]; rfl) w2 w3
  refine wc_in (ls0 := [some (.ref 42), some (.int (zI v)), some (.int (zI (Γ.length : Int))), some (.int (zI (dp : Int))), none, none, none]) (by decide) (Nat.le_of_ble_eq_true rfl) rfl rfl ?_
  refine wp_aload_n d108_0 rfl ?_
  refine wp_aload_n d108_1 rfl ?_
  refine wp_getR (q := X) d108_2 rfl (hS.g.o (by decide) rfl) (by decide) hS.rx (by have := hS.hx; omega) ?_
  refine wp_getR (q := X + 1 + 3) d108_5 rfl (hS.g.tm hS.hx) (by decide) (hS.g.tr hS.hx (by decide)) (by omega) ?_
  refine wp_iload_n d108_8 rfl ?_
  refine wz_iald (z := 60) (v := M (X + 1 + 3) v) d108_9 (hS.g.ta hS.hx (by decide)) (by omega) (by omega) (by omega) (rfl) ?_
  refine wp_iload_n d108_10 rfl ?_
  refine wp_iload_n d108_11 rfl ?_
  refine wz_iconst d108_12 ?_
  refine wz_iadd d108_13 ?_
  refine wp_virt (as := [.int (zI ((dp : Int) + 1)), .int (zI (Γ.length : Int)), .int (zI (M (X + 1 + 3) v))]) (rest := []) d108_14 rfl rfl rfl (hS.g.o (by decide) rfl) rfl rfl (Nat.le_of_ble_eq_true rfl) ?_
  rw [show (dp : Int) + 1 = ((dp + 1 : Nat) : Int) by omega]
  refine wc_deep (show d + 4 * f + 400 ≤ d + 4 * f + 401 by omega) ?_
  refine IH (nX t) _ Γ Δ (dp + 1) M Rf K L n s z cn _ hS (hn.p1 (g := 0) (by decide) (by rw [hk]; rfl)) w1 t1 (by omega) (by omega) (by omega) (fun M1 R1 K1 L1 n1 s1 z1 cn1 r1 xx1 u11 u21 u31 u41 fr1 => ?_)
  cases hy1 : tyF f (nX t) Γ Δ with
  | inl q =>
    rw [hy1] at fr1 h
    obtain ⟨e1, e2⟩ := fr1
    subst e1
    refine wp_istore d108_17 (Nat.le_of_ble_eq_true rfl) rfl ?_
    refine wp_iload d108_19 rfl ?_
    refine wz_iconst d108_21 ?_
    refine wz_icmp_ne (t := 27) d108_22 (by decide) ⟨by omega, by omega⟩ ⟨by omega, by omega⟩ (fun hb => absurd (rfl) hb) (fun _ => ?_)
    refine wz_iconst d108_25 ?_
    exact wp_ret d108_26 rfl (h M1 R1 K1 L1 n1 s1 z1 cn1 (-1) xx1 u11 (by omega) (by omega) u41 ⟨rfl, e2⟩)
  | inr A =>
  rw [hy1] at fr1 h hB
  have S1 := hS.move xx1 u11 u21 u41 fr1.2
  have N1 := hn.move hS xx1 u21
  have cx1 := xx1
  have nd1 := fr1.1
  have rr1 := ndf_rng nd1
  have cz1 := S1.c1
  have oA := tyF_ok f _ _ _ _ w1 hS.te hy1
  have ny1 := ndf_mono xx1.nodes u21 (Nat.le_refl _) ny
  have tm1 := hS.tm xx1 (fun _ _ w => w)
  have p4 : M1 (X + 1 + 4) v = M (X + 5) v := tm1 _ (by omega) (by omega) v
  have hB : cn + ((TN f (nX t) Γ Δ + 16 * Γ.length + (flat (sbt Γ.length (nY t) 0 (k2 (expo Γ Γ.length A)))).length : Nat) : Int) + 1300 ≤ 16384 := hB
  have h : ∀ (M' : pm_M) (Rf' : Nat → Nat → Nat) (K' L' : Nat → Nat) (n' s' z' : Nat) (cn' r : Int), CX (WFd Γ.length) M Rf K L n s z cn M' Rf' K' L' n' s' z' → M' 6 6 = cn' → cn ≤ cn' → cn' ≤ cn + ((TN f (nX t) Γ Δ + 16 * Γ.length + (flat (sbt Γ.length (nY t) 0 (k2 (expo Γ Γ.length A)))).length : Nat) : Int) → cn' ≤ z' → RO M' Rf' cn' (.inr (tyI Γ (expo Γ Γ.length A) (nY t))) r → Q (some (.int (zI r))) (zM M', Rf', K', L', n', s') := h
  refine wp_istore d108_17 (Nat.le_of_ble_eq_true rfl) rfl ?_
  refine wp_iload d108_19 rfl ?_
  refine wz_iconst d108_21 ?_
  refine wz_icmp_ne (t := 27) d108_22 (by decide) ⟨by omega, by omega⟩ ⟨by omega, by omega⟩ (fun _ => ?_) (fun hb => absurd hb (by omega))
  refine wp_aload_n d108_27 rfl ?_
  refine wp_getR (q := X) d108_28 rfl (S1.g.o (by decide) rfl) (by decide) S1.rx (by have := S1.hx; omega) ?_
  refine wp_getR (q := X + 1 + 4) d108_31 rfl (S1.g.tm S1.hx) (by decide) (S1.g.tr S1.hx (by decide)) (by omega) ?_
  refine wp_iload_n d108_34 rfl ?_
  refine wz_iald (z := 60) (v := M (X + 5) v) d108_35 (S1.g.ta S1.hx (by decide)) (by omega) (by omega) (by omega) (p4) ?_
  refine wp_istore d108_36 (Nat.le_of_ble_eq_true rfl) rfl ?_
  refine wp_aload_n d108_38 rfl ?_
  refine wp_getR (q := 6) d108_39 rfl (S1.g.o (by decide) rfl) (by decide) (S1.g.r (by decide +kernel)) (by decide) ?_
  refine wp_iload d108_42 rfl ?_
  refine wp_iload_n d108_44 rfl ?_
  refine wp_virt (as := [.int (zI (Γ.length : Int)), .int (zI r1)]) (rest := []) d108_45 rfl rfl rfl (S1.g.o (by decide) rfl) rfl rfl (Nat.le_of_ble_eq_true rfl) ?_
  refine wc_deep (show 0 + 24 ≤ d + 4 * f + 401 by omega) ?_
  refine c_exposed S1.g S1.r S1.m S1.m6 cz1.1 cz1.2.1 (by omega) hS.te.1 hS.te.2.1 S1.bn (by omega) oA.1 oA.2 nd1 (fun M3 R3 K3 L3 n3 s3 z3 cn3 r3 yy3 u13 u23 u33 u43 nd3 => ?_)
  have xx3 := yy3.weak (W' := WFd Γ.length) (fun p i w => Or.inl w)
  have bp3 : M3 42 2 = -1 := (yy3.mem 42 (by have := S1.g.1; omega) (fun g hg => by have := S1.r.2.1 g hg; omega) 2 (by omega)).trans S1.bp
  have fr3 : FR M3 R3 cn3 (.inr (expo Γ Γ.length A)) r3 := ⟨nd3, bp3⟩
  have S3 := S1.move xx3 u13 u23 u43 fr3.2
  have N3 := N1.move S1 xx3 u23
  have cx3 := (cx1.trans xx3 (by omega))
  have nd3 := fr3.1
  have rr3 := ndf_rng nd3
  have cz3 := S3.c1
  have oE := expo_ok hS.te.1 hS.te.2.1 Γ.length A oA.1 oA.2
  generalize hE : expo Γ Γ.length A = E at *
  have cC := nd3.1.2.2.1
  have cSm := cc_small oE.1 (by omega)
  have ccC := cc_cases (hd E)
  have ny3 := ndf_mono xx3.nodes u23 (Nat.le_refl _) ny1
  refine wp_istore d108_48 (Nat.le_of_ble_eq_true rfl) rfl ?_
  refine wp_aload_n d108_50 rfl ?_
  refine wp_getR (q := 6) d108_51 rfl (S3.g.o (by decide) rfl) (by decide) (S3.g.r (by decide +kernel)) (by decide) ?_
  refine wp_getR (q := R3 6 0) d108_54 rfl (S3.g.o (by decide) rfl) (by decide) rfl (S3.r.1 0 (by decide)).1 ?_
  refine wp_iload d108_57 rfl ?_
  refine wz_iald (z := z3) (v := (cc (hd E) : Int)) d108_59 (S3.r.1 0 (by decide)) (rr3.1) (by omega) (by omega) (cC) ?_
  refine wz_bipush d108_60 (by decide) ?_
  refine wz_icmp_ne (t := 89) d108_62 (by decide) ⟨by omega, by omega⟩ ⟨by omega, by omega⟩ (fun hne => ?_) (fun heq => ?_)
  · skip
    have eo : tyI Γ E (nY t) = none := if_neg (fun q => hne (by rw [q.1]; rfl))
    rw [eo] at h
    refine wz_iconst d108_89 ?_
    exact wp_ret d108_90 rfl (h M3 R3 K3 L3 n3 s3 z3 cn3 (-1) cx3 u13 (by omega) (by omega) u43 ⟨rfl, bp3⟩)
  · skip
    have h1 : hd E = 2 := by omega
    obtain ⟨F1, F2, e2, o1, o2⟩ := hd_is_all oE.1 h1
    have lb := t3 A hy1 (by rw [hE]; exact h1)
    rw [hE, e2] at lb
    have lb : LB Γ (nY t) F1 := lb
    subst e2
    have lF := oE.2
    rw [flat_all, List.length_cons, List.length_append] at lF
    have f1 : ndf M3 R3 cn3 15 F1 (M3 (R3 6 1) r3) := nd3.2 0 (by decide) (hp_all F1 F2).1
    have f2 : ndf M3 R3 cn3 15 F2 (M3 (R3 6 2) r3) := nd3.2 1 (by decide) (hp_all F1 F2).2.1
    have rf1 := ndf_rng f1
    have rf2 := ndf_rng f2
    have hB : cn + ((TN f (nX t) Γ Δ + 16 * Γ.length + (flat (sbt Γ.length (nY t) 0 F2)).length : Nat) : Int) + 1300 ≤ 16384 := hB
    refine wp_aload_n d108_65 rfl ?_
    refine wp_getR (q := 6) d108_66 rfl (S3.g.o (by decide) rfl) (by decide) (S3.g.r (by decide +kernel)) (by decide) ?_
    refine wp_iload d108_69 rfl ?_
    refine wp_aload_n d108_71 rfl ?_
    refine wp_getR (q := 6) d108_72 rfl (S3.g.o (by decide) rfl) (by decide) (S3.g.r (by decide +kernel)) (by decide) ?_
    refine wp_getR (q := R3 6 1) d108_75 rfl (S3.g.o (by decide) rfl) (by decide) rfl (S3.r.1 1 (by decide)).1 ?_
    refine wp_iload d108_78 rfl ?_
    refine wz_iald (z := z3) (v := M3 (R3 6 1) r3) d108_80 (S3.r.1 1 (by decide)) (rr3.1) (by omega) (by omega) (rfl) ?_
    refine wp_iload_n d108_81 rfl ?_
    refine wz_iconst d108_82 ?_
    refine wp_virt (as := [.int (zI 0), .int (zI (Γ.length : Int)), .int (zI (M3 (R3 6 1) r3)), .int (zI (M (X + 5) v))]) (rest := []) d108_83 rfl rfl rfl (S3.g.o (by decide) rfl) rfl rfl (Nat.le_of_ble_eq_true rfl) ?_
    rw [show (0 : Int) = ((0 : Nat) : Int) by rfl]
    refine wc_deep (show 0 + 3 * 38 + 26 ≤ d + 4 * f + 401 by omega) ?_
    refine c_isBelow 38 0 Γ (nY t) F1 _ _ 0 M3 R3 K3 L3 n3 s3 z3 cn3 _ ⟨S3.g, S3.r, S3.m, S3.m6, cz3.1, cz3.2.1, ⟨hS.te.1, w2, o1⟩, S3.bn, ny3, (ndf_mono (fun _ _ _ _ _ => rfl) (Int.le_refl _) (by omega) f1), w3, (by omega)⟩ lb.1 (by have := lb.1; omega) (by omega) (by omega) (fun M4 R4 K4 L4 n4 s4 z4 yy4 u14 => ?_)
    have xx4 := yy4.weak (W' := WFd Γ.length) (fun p i w => by unfold WB at w; unfold WFd; omega)
    have bp4 : M4 42 2 = -1 := (yy4.mem 42 (by have := S3.g.1; omega) (fun g hg => by have := S3.r.2.1 g hg; omega) 2 (by unfold WB; omega)).trans S3.bp
    have cx4 := cx3.trans xx4 (by omega)
    have zz4 := yy4.zz
    have hz4 := yy4.r.2.2.2.2
    have nn4 := yy4.nodes
    by_cases hb : bel Γ (nY t) F1 = true
    · skip
      rw [if_pos hb]
      have eo : tyI Γ (tAll F1 F2) (nY t) = some (sbt Γ.length (nY t) 0 F2) := if_pos ⟨rfl, hb⟩
      rw [eo] at h
      refine wz_if_ne (t := 91) d108_86 (by decide) ⟨by omega, by omega⟩ (fun _ => ?_) (fun hb => absurd hb (by decide))
      refine wp_aload_n d108_91 rfl ?_
      refine wp_getR (q := 6) d108_92 rfl (yy4.g.o (by decide) rfl) (by decide) (yy4.g.r (by decide +kernel)) (by decide) ?_
      refine wp_aload_n d108_95 rfl ?_
      refine wp_getR (q := 6) d108_96 rfl (yy4.g.o (by decide) rfl) (by decide) (yy4.g.r (by decide +kernel)) (by decide) ?_
      refine wp_getR (q := R4 6 2) d108_99 rfl (yy4.g.o (by decide) rfl) (by decide) rfl (yy4.r.1 2 (by decide)).1 ?_
      refine wp_iload d108_102 rfl ?_
      refine wz_iald (z := z4) (v := M3 (R3 6 2) r3) d108_104 (yy4.r.1 2 (by decide)) (rr3.1) (by omega) (by omega) (nn4 2 (by decide) _ rr3.1 rr3.2) ?_
      refine wp_iload_n d108_105 rfl ?_
      refine wp_iload d108_106 rfl ?_
      refine wz_iconst d108_108 ?_
      refine wz_iconst d108_109 ?_
      refine wp_virt (as := [.int (zI 0), .int (zI 0), .int (zI (M (X + 5) v)), .int (zI (Γ.length : Int)), .int (zI (M3 (R3 6 2) r3))]) (rest := []) d108_110 rfl rfl rfl (yy4.g.o (by decide) rfl) rfl rfl (Nat.le_of_ble_eq_true rfl) ?_
      rw [show (0 : Int) = ((0 : Nat) : Int) by rfl]
      refine wc_deep (show 0 + 16 + 30 ≤ d + 4 * f + 401 by omega) ?_
      have hBk : cn3 + ((flat (sbt Γ.length (nY t) 0 F2)).length : Int) ≤ 16384 := by omega
      refine c_replace w2 w3 16 F2 _ _ 0 0 M4 R4 K4 L4 n4 s4 z4 cn3 _ yy4.g yy4.r yy4.r32 u14 cz3.1 (by omega) hBk o2 (by omega) (ndf_mono nn4 (Int.le_refl _) (by omega) f2) (ndf_mono nn4 (Int.le_refl _) (Nat.le_refl _) ny3) (by omega) (fun M5 R5 K5 L5 n5 s5 z5 cn5 r5 yy5 u15 u25 u35 u45 nd5 => ?_)
      have bp5 : M5 42 2 = -1 := (yy5.mem 42 (by have := yy4.g.1; omega) (fun g hg => by have := yy4.r.2.1 g hg; omega) 2 (by omega)).trans bp4
      have oR := ok_sbt w2 (flat F2).length F2 0 (Nat.le_refl _) o2
      exact wp_ret d108_113 rfl (h M5 R5 K5 L5 n5 s5 z5 cn5 r5 (cx4.trans (yy5.weak (fun p i w => Or.inl w)) (by omega)) u15 (by omega) (by show cn5 ≤ cn + ((TN f (nX t) Γ Δ + 16 * Γ.length + (flat (sbt Γ.length (nY t) 0 F2)).length : Nat) : Int); omega) u45 (RO.of (N := 31) bp5 oR (by omega) nd5))
    · skip
      rw [if_neg hb]
      have eo : tyI Γ (tAll F1 F2) (nY t) = none := if_neg (fun q => hb q.2)
      rw [eo] at h
      refine wz_if_ne (t := 91) d108_86 (by decide) ⟨by omega, by omega⟩ (fun hb => absurd (by decide) hb) (fun _ => ?_)
      refine wz_iconst d108_89 ?_
      exact wp_ret d108_90 rfl (h M4 R4 K4 L4 n4 s4 z4 cn3 (-1) cx4 u14 (by omega) (by omega) (by omega) ⟨rfl, bp4⟩)
theorem ru_dot (IH : FdC d X cnt f) (hk : nKd t = 11) (tw : TWf (f + 1) Γ.length (Δ.map (fun a => a.1)) t) (tl : TL (f + 1) t Γ Δ) (hΓ : Γ.length + (f + 1) ≤ 25) (hdp : dp + (f + 1) = 25) : RuC (d + 4 * f + 402) 111 X cnt Γ Δ f t v dp (TN f (nX t) Γ Δ + 16 * Γ.length) (rbd (tyF f (nX t) Γ Δ) (fun A => .inr (tyD (nMk t) (expo Γ Γ.length A)))) [.ref 42, .int (zI v), .int (zI (Γ.length : Int)), .int (zI (dp : Int))] := by
  intro M Rf K L n s z cn Q hS hn hB h
  have hx := hS.hx
  have vr := hn.rng
  have c60 := hS.ct
  have c1 := hS.c1
  obtain ⟨m3, w1⟩ := tw.2.2.2.2.2.2.2.1 hk
  have t1 := tl.2.2.2.2.2.1 hk
  have mk0 : M (X + 3) v = (nMk t : Int) := hn.2.2.2.2.1 (by omega)
  refine wc_in (ls0 := [some (.ref 42), some (.int (zI v)), some (.int (zI (Γ.length : Int))), some (.int (zI (dp : Int))), none, none, none, none]) (by decide) (Nat.le_of_ble_eq_true rfl) rfl rfl ?_
  refine wp_aload_n d111_0 rfl ?_
  refine wp_aload_n d111_1 rfl ?_
  refine wp_getR (q := X) d111_2 rfl (hS.g.o (by decide) rfl) (by decide) hS.rx (by have := hS.hx; omega) ?_
  refine wp_getR (q := X + 1 + 3) d111_5 rfl (hS.g.tm hS.hx) (by decide) (hS.g.tr hS.hx (by decide)) (by omega) ?_
  refine wp_iload_n d111_8 rfl ?_
  refine wz_iald (z := 60) (v := M (X + 1 + 3) v) d111_9 (hS.g.ta hS.hx (by decide)) (by omega) (by omega) (by omega) (rfl) ?_
  refine wp_iload_n d111_10 rfl ?_
  refine wp_iload_n d111_11 rfl ?_
  refine wz_iconst d111_12 ?_
  refine wz_iadd d111_13 ?_
  refine wp_virt (as := [.int (zI ((dp : Int) + 1)), .int (zI (Γ.length : Int)), .int (zI (M (X + 1 + 3) v))]) (rest := []) d111_14 rfl rfl rfl (hS.g.o (by decide) rfl) rfl rfl (Nat.le_of_ble_eq_true rfl) ?_
  rw [show (dp : Int) + 1 = ((dp + 1 : Nat) : Int) by omega]
  refine wc_deep (show d + 4 * f + 400 ≤ d + 4 * f + 401 by omega) ?_
  refine IH (nX t) _ Γ Δ (dp + 1) M Rf K L n s z cn _ hS (hn.p1 (g := 0) (by decide) (by rw [hk]; rfl)) w1 t1 (by omega) (by omega) (by omega) (fun M1 R1 K1 L1 n1 s1 z1 cn1 r1 xx1 u11 u21 u31 u41 fr1 => ?_)
  cases hy1 : tyF f (nX t) Γ Δ with
  | inl q =>
    rw [hy1] at fr1 h
    obtain ⟨e1, e2⟩ := fr1
    subst e1
    refine wp_istore d111_17 (Nat.le_of_ble_eq_true rfl) rfl ?_
    refine wp_iload d111_19 rfl ?_
    refine wz_iconst d111_21 ?_
    refine wz_icmp_ne (t := 27) d111_22 (by decide) ⟨by omega, by omega⟩ ⟨by omega, by omega⟩ (fun hb => absurd (rfl) hb) (fun _ => ?_)
    refine wz_iconst d111_25 ?_
    exact wp_ret d111_26 rfl (h M1 R1 K1 L1 n1 s1 z1 cn1 (-1) xx1 u11 (by omega) (by omega) u41 ⟨rfl, e2⟩)
  | inr A =>
  rw [hy1] at fr1 h
  have S1 := hS.move xx1 u11 u21 u41 fr1.2
  have N1 := hn.move hS xx1 u21
  have cx1 := xx1
  have nd1 := fr1.1
  have rr1 := ndf_rng nd1
  have cz1 := S1.c1
  have oA := tyF_ok f _ _ _ _ w1 hS.te hy1
  have h : ∀ (M' : pm_M) (Rf' : Nat → Nat → Nat) (K' L' : Nat → Nat) (n' s' z' : Nat) (cn' r : Int), CX (WFd Γ.length) M Rf K L n s z cn M' Rf' K' L' n' s' z' → M' 6 6 = cn' → cn ≤ cn' → cn' ≤ cn + ((TN f (nX t) Γ Δ + 16 * Γ.length : Nat) : Int) → cn' ≤ z' → RO M' Rf' cn' (.inr (tyD (nMk t) (expo Γ Γ.length A))) r → Q (some (.int (zI r))) (zM M', Rf', K', L', n', s') := h
  refine wp_istore d111_17 (Nat.le_of_ble_eq_true rfl) rfl ?_
  refine wp_iload d111_19 rfl ?_
  refine wz_iconst d111_21 ?_
  refine wz_icmp_ne (t := 27) d111_22 (by decide) ⟨by omega, by omega⟩ ⟨by omega, by omega⟩ (fun _ => ?_) (fun hb => absurd hb (by omega))
  refine wp_aload_n d111_27 rfl ?_
  refine wp_getR (q := 6) d111_28 rfl (S1.g.o (by decide) rfl) (by decide) (S1.g.r (by decide +kernel)) (by decide) ?_
  refine wp_iload d111_31 rfl ?_
  refine wp_iload_n d111_33 rfl ?_
  refine wp_virt (as := [.int (zI (Γ.length : Int)), .int (zI r1)]) (rest := []) d111_34 rfl rfl rfl (S1.g.o (by decide) rfl) rfl rfl (Nat.le_of_ble_eq_true rfl) ?_
  refine wc_deep (show 0 + 24 ≤ d + 4 * f + 401 by omega) ?_
  refine c_exposed S1.g S1.r S1.m S1.m6 cz1.1 cz1.2.1 (by omega) hS.te.1 hS.te.2.1 S1.bn (by omega) oA.1 oA.2 nd1 (fun M3 R3 K3 L3 n3 s3 z3 cn3 r3 yy3 u13 u23 u33 u43 nd3 => ?_)
  have xx3 := yy3.weak (W' := WFd Γ.length) (fun p i w => Or.inl w)
  have bp3 : M3 42 2 = -1 := (yy3.mem 42 (by have := S1.g.1; omega) (fun g hg => by have := S1.r.2.1 g hg; omega) 2 (by omega)).trans S1.bp
  have fr3 : FR M3 R3 cn3 (.inr (expo Γ Γ.length A)) r3 := ⟨nd3, bp3⟩
  have S3 := S1.move xx3 u13 u23 u43 fr3.2
  have N3 := N1.move S1 xx3 u23
  have cx3 := (cx1.trans xx3 (by omega))
  have nd3 := fr3.1
  have rr3 := ndf_rng nd3
  have cz3 := S3.c1
  have oE := expo_ok hS.te.1 hS.te.2.1 Γ.length A oA.1 oA.2
  generalize hE : expo Γ Γ.length A = E at *
  have cC := nd3.1.2.2.1
  have cSm := cc_small oE.1 (by omega)
  have ccC := cc_cases (hd E)
  have tm3 := hS.tm cx3 (fun _ _ w => w)
  have p2 : M3 (X + 1 + 2) v = (nMk t : Int) := (tm3 _ (by omega) (by omega) v).trans mk0
  refine wp_istore d111_37 (Nat.le_of_ble_eq_true rfl) rfl ?_
  refine wp_aload_n d111_39 rfl ?_
  refine wp_getR (q := X) d111_40 rfl (S3.g.o (by decide) rfl) (by decide) S3.rx (by have := S3.hx; omega) ?_
  refine wp_getR (q := X + 1 + 2) d111_43 rfl (S3.g.tm S3.hx) (by decide) (S3.g.tr S3.hx (by decide)) (by omega) ?_
  refine wp_iload_n d111_46 rfl ?_
  refine wz_iald (z := 60) (v := (nMk t : Int)) d111_47 (S3.g.ta S3.hx (by decide)) (by omega) (by omega) (by omega) (p2) ?_
  refine wp_istore d111_48 (Nat.le_of_ble_eq_true rfl) rfl ?_
  refine wp_aload_n d111_50 rfl ?_
  refine wp_getR (q := 6) d111_51 rfl (S3.g.o (by decide) rfl) (by decide) (S3.g.r (by decide +kernel)) (by decide) ?_
  refine wp_iload d111_54 rfl ?_
  refine wp_virt (as := [.int (zI r3)]) (rest := []) d111_56 rfl rfl rfl (S3.g.o (by decide) rfl) rfl rfl (Nat.le_of_ble_eq_true rfl) ?_
  refine wc_deep (show 0 + 1 ≤ d + 4 * f + 401 by omega) ?_
  refine c_isRec (c := hd E) S3.g S3.r rr3.1 (by omega) cC cSm (fun hr => ?_) (fun hr => ?_)
  rotate_left
  · skip
    have eo : tyD (nMk t) E = none := if_neg (fun q => hr q.1)
    rw [eo] at h
    refine wz_if_eq (t := 84) d111_59 (by decide) ⟨by omega, by omega⟩ (fun _ => ?_) (fun hb => absurd (by decide) hb)
    refine wz_iconst d111_84 ?_
    refine wp_istore d111_85 (Nat.le_of_ble_eq_true rfl) rfl ?_
    refine wp_iload d111_87 rfl ?_
    refine wz_if_eq (t := 106) d111_89 (by decide) ⟨by omega, by omega⟩ (fun _ => ?_) (fun hb => absurd (by decide) hb)
    refine wz_iconst d111_106 ?_
    exact wp_ret d111_107 rfl (h M3 R3 K3 L3 n3 s3 z3 cn3 (-1) cx3 u13 (by omega) (by omega) u43 ⟨rfl, bp3⟩)
  refine wz_if_eq (t := 84) d111_59 (by decide) ⟨by omega, by omega⟩ (fun hb => absurd hb (by decide)) (fun _ => ?_)
  refine wp_aload_n d111_62 rfl ?_
  refine wp_getR (q := 6) d111_63 rfl (S3.g.o (by decide) rfl) (by decide) (S3.g.r (by decide +kernel)) (by decide) ?_
  refine wp_getR (q := R3 6 0) d111_66 rfl (S3.g.o (by decide) rfl) (by decide) rfl (S3.r.1 0 (by decide)).1 ?_
  refine wp_iload d111_69 rfl ?_
  refine wz_iald (z := z3) (v := (cc (hd E) : Int)) d111_71 (S3.r.1 0 (by decide)) (rr3.1) (by omega) (by omega) (cC) ?_
  refine wp_iload d111_72 rfl ?_
  refine wp_stat (as := [.int (zI (nMk t : Int)), .int (zI ((cc (hd E) : Int)))]) (rest := []) d111_74 rfl rfl rfl rfl rfl (Nat.le_of_ble_eq_true rfl) ?_
  refine wc_deep (show 0 + 1 ≤ d + 4 * f + 401 by omega) ?_
  have ccE : cc (hd E) = hd E := by omega
  refine c_holds (c := cc (hd E)) (i := nMk t) cSm m3 (fun hb => ?_) (fun hb => ?_)
  rotate_left
  · skip
    have hb8 : ¬ bit (hd E - 8) (nMk t) = true := fun q => hb (by rw [ccE]; exact (bit8h hr m3).mpr q)
    have eo : tyD (nMk t) E = none := if_neg (fun q => hb8 q.2)
    rw [eo] at h
    refine wz_if_eq (t := 84) d111_77 (by decide) ⟨by omega, by omega⟩ (fun _ => ?_) (fun hb => absurd (by decide) hb)
    refine wz_iconst d111_84 ?_
    refine wp_istore d111_85 (Nat.le_of_ble_eq_true rfl) rfl ?_
    refine wp_iload d111_87 rfl ?_
    refine wz_if_eq (t := 106) d111_89 (by decide) ⟨by omega, by omega⟩ (fun _ => ?_) (fun hb => absurd (by decide) hb)
    refine wz_iconst d111_106 ?_
    exact wp_ret d111_107 rfl (h M3 R3 K3 L3 n3 s3 z3 cn3 (-1) cx3 u13 (by omega) (by omega) u43 ⟨rfl, bp3⟩)
  have hb8 : bit (hd E - 8) (nMk t) = true := (bit8h hr m3).mp (by rw [ccE] at hb; exact hb)
  have eo : tyD (nMk t) E = some (pt E (nMk t)) := if_pos ⟨hr, hb8⟩
  rw [eo] at h
  have hpE : hp E (nMk t) = true := by unfold hp; exact hb
  obtain ⟨D1, -, oP⟩ := pt_ok oE.1 m3 hpE
  have lp := len_pts oE.1
  have lP : (flat (pt E (nMk t))).length ≤ 16 := by
    rcases (show nMk t = 0 ∨ nMk t = 1 ∨ nMk t = 2 by omega) with e | e | e <;> (rw [e]; omega)
  refine wz_if_eq (t := 84) d111_77 (by decide) ⟨by omega, by omega⟩ (fun hb => absurd hb (by decide)) (fun _ => ?_)
  refine wz_iconst d111_80 ?_
  refine wp_goto (t := 85) d111_81 (by decide) ?_
  refine wp_istore d111_85 (Nat.le_of_ble_eq_true rfl) rfl ?_
  refine wp_iload d111_87 rfl ?_
  refine wz_if_eq (t := 106) d111_89 (by decide) ⟨by omega, by omega⟩ (fun hb => absurd hb (by decide)) (fun _ => ?_)
  refine wp_aload_n d111_92 rfl ?_
  refine wp_getR (q := 6) d111_93 rfl (S3.g.o (by decide) rfl) (by decide) (S3.g.r (by decide +kernel)) (by decide) ?_
  refine wp_iload d111_96 rfl ?_
  refine wp_iload d111_98 rfl ?_
  refine wp_virt (as := [.int (zI (nMk t : Int)), .int (zI r3)]) (rest := []) d111_100 rfl rfl rfl (S3.g.o (by decide) rfl) rfl rfl (Nat.le_of_ble_eq_true rfl) ?_
  refine wc_deep (show 0 + 1 ≤ d + 4 * f + 401 by omega) ?_
  refine c_part (g := nMk t) S3.g S3.r rr3.1 (by omega) m3 ?_
  refine wp_goto (t := 107) d111_103 (by decide) ?_
  exact wp_ret d111_107 rfl (h M3 R3 K3 L3 n3 s3 z3 cn3 _ cx3 u13 (by omega) (by omega) u43 (RO.of (N := 14) bp3 oP (by omega) (nd3.2 (nMk t) m3 hpE)))
theorem ru_either (IH : FdC d X cnt f) (hk : nKd t = 12) (tw : TWf (f + 1) Γ.length (Δ.map (fun a => a.1)) t) (tl : TL (f + 1) t Γ Δ) (hΓ : Γ.length + (f + 1) ≤ 25) (hdp : dp + (f + 1) = 25) : RuC (d + 4 * f + 402) 112 X cnt Γ Δ f t v dp (TN f (nX t) Γ Δ + TN f (nY t) Γ Δ + cj Γ (tyF f (nX t) Γ Δ) (tyF f (nY t) Γ Δ)) (rbd (tyF f (nX t) Γ Δ) (fun A => rbd (tyF f (nY t) Γ Δ) (fun B => .inr (cmu 0 Γ A B)))) [.ref 42, .int (zI v), .int (zI (Γ.length : Int)), .int (zI (dp : Int))] := by
  intro M Rf K L n s z cn Q hS hn hB h
  have hx := hS.hx
  have vr := hn.rng
  have c60 := hS.ct
  have c1 := hS.c1
  obtain ⟨w1, w2⟩ := tw.2.2.2.1 (Or.inr hk)
  obtain ⟨t1, t2, t3⟩ := tl.2.2.2.2.2.2 hk
  refine wc_in (ls0 := [some (.ref 42), some (.int (zI v)), some (.int (zI (Γ.length : Int))), some (.int (zI (dp : Int))), none, none]) (by decide) (Nat.le_of_ble_eq_true rfl) rfl rfl ?_
  refine wp_aload_n d112_0 rfl ?_
  refine wp_aload_n d112_1 rfl ?_
  refine wp_getR (q := X) d112_2 rfl (hS.g.o (by decide) rfl) (by decide) hS.rx (by have := hS.hx; omega) ?_
  refine wp_getR (q := X + 1 + 3) d112_5 rfl (hS.g.tm hS.hx) (by decide) (hS.g.tr hS.hx (by decide)) (by omega) ?_
  refine wp_iload_n d112_8 rfl ?_
  refine wz_iald (z := 60) (v := M (X + 1 + 3) v) d112_9 (hS.g.ta hS.hx (by decide)) (by omega) (by omega) (by omega) (rfl) ?_
  refine wp_iload_n d112_10 rfl ?_
  refine wp_iload_n d112_11 rfl ?_
  refine wz_iconst d112_12 ?_
  refine wz_iadd d112_13 ?_
  refine wp_virt (as := [.int (zI ((dp : Int) + 1)), .int (zI (Γ.length : Int)), .int (zI (M (X + 1 + 3) v))]) (rest := []) d112_14 rfl rfl rfl (hS.g.o (by decide) rfl) rfl rfl (Nat.le_of_ble_eq_true rfl) ?_
  rw [show (dp : Int) + 1 = ((dp + 1 : Nat) : Int) by omega]
  refine wc_deep (show d + 4 * f + 400 ≤ d + 4 * f + 401 by omega) ?_
  refine IH (nX t) _ Γ Δ (dp + 1) M Rf K L n s z cn _ hS (hn.p1 (g := 0) (by decide) (by rw [hk]; rfl)) w1 t1 (by omega) (by omega) (by omega) (fun M1 R1 K1 L1 n1 s1 z1 cn1 r1 xx1 u11 u21 u31 u41 fr1 => ?_)
  cases hy1 : tyF f (nX t) Γ Δ with
  | inl q =>
    rw [hy1] at fr1 h
    obtain ⟨e1, e2⟩ := fr1
    subst e1
    refine wp_istore d112_17 (Nat.le_of_ble_eq_true rfl) rfl ?_
    refine wp_iload d112_19 rfl ?_
    refine wz_iconst d112_21 ?_
    refine wz_icmp_ne (t := 29) d112_22 (by decide) ⟨by omega, by omega⟩ ⟨by omega, by omega⟩ (fun hb => absurd (rfl) hb) (fun _ => ?_)
    refine wz_iconst d112_25 ?_
    refine wp_goto (t := 46) d112_26 (by decide) ?_
    refine wp_istore d112_46 (Nat.le_of_ble_eq_true rfl) rfl ?_
    refine wp_iload d112_48 rfl ?_
    refine wz_iconst d112_50 ?_
    refine wz_icmp_ne (t := 58) d112_51 (by decide) ⟨by omega, by omega⟩ ⟨by omega, by omega⟩ (fun hb => absurd (rfl) hb) (fun _ => ?_)
    refine wz_iconst d112_54 ?_
    refine wp_goto (t := 71) d112_55 (by decide) ?_
    exact wp_ret d112_71 rfl (h M1 R1 K1 L1 n1 s1 z1 cn1 (-1) xx1 u11 (by omega) (by omega) u41 ⟨rfl, e2⟩)
  | inr A =>
  rw [hy1] at fr1 h hB
  have S1 := hS.move xx1 u11 u21 u41 fr1.2
  have N1 := hn.move hS xx1 u21
  have cx1 := xx1
  have nd1 := fr1.1
  have rr1 := ndf_rng nd1
  have cz1 := S1.c1
  have oA := tyF_ok f _ _ _ _ w1 hS.te hy1
  refine wp_istore d112_17 (Nat.le_of_ble_eq_true rfl) rfl ?_
  refine wp_iload d112_19 rfl ?_
  refine wz_iconst d112_21 ?_
  refine wz_icmp_ne (t := 29) d112_22 (by decide) ⟨by omega, by omega⟩ ⟨by omega, by omega⟩ (fun _ => ?_) (fun hb => absurd hb (by omega))
  refine wp_aload_n d112_29 rfl ?_
  refine wp_aload_n d112_30 rfl ?_
  refine wp_getR (q := X) d112_31 rfl (S1.g.o (by decide) rfl) (by decide) S1.rx (by have := S1.hx; omega) ?_
  refine wp_getR (q := X + 1 + 4) d112_34 rfl (S1.g.tm S1.hx) (by decide) (S1.g.tr S1.hx (by decide)) (by omega) ?_
  refine wp_iload_n d112_37 rfl ?_
  refine wz_iald (z := 60) (v := M1 (X + 1 + 4) v) d112_38 (S1.g.ta S1.hx (by decide)) (by omega) (by omega) (by omega) (rfl) ?_
  refine wp_iload_n d112_39 rfl ?_
  refine wp_iload_n d112_40 rfl ?_
  refine wz_iconst d112_41 ?_
  refine wz_iadd d112_42 ?_
  refine wp_virt (as := [.int (zI ((dp : Int) + 1)), .int (zI (Γ.length : Int)), .int (zI (M1 (X + 1 + 4) v))]) (rest := []) d112_43 rfl rfl rfl (S1.g.o (by decide) rfl) rfl rfl (Nat.le_of_ble_eq_true rfl) ?_
  rw [show (dp : Int) + 1 = ((dp + 1 : Nat) : Int) by omega]
  refine wc_deep (show d + 4 * f + 400 ≤ d + 4 * f + 401 by omega) ?_
  refine IH (nY t) _ Γ Δ (dp + 1) M1 R1 K1 L1 n1 s1 z1 cn1 _ S1 (N1.p1 (g := 1) (by decide) (by rw [hk]; rfl)) w2 t2 (by omega) (by omega) (by omega) (fun M2 R2 K2 L2 n2 s2 z2 cn2 r2 xx2 u12 u22 u32 u42 fr2 => ?_)
  cases hy2 : tyF f (nY t) Γ Δ with
  | inl q =>
    rw [hy2] at fr2 h
    obtain ⟨e1, e2⟩ := fr2
    subst e1
    refine wp_istore d112_46 (Nat.le_of_ble_eq_true rfl) rfl ?_
    refine wp_iload d112_48 rfl ?_
    refine wz_iconst d112_50 ?_
    refine wz_icmp_ne (t := 58) d112_51 (by decide) ⟨by omega, by omega⟩ ⟨by omega, by omega⟩ (fun hb => absurd (rfl) hb) (fun _ => ?_)
    refine wz_iconst d112_54 ?_
    refine wp_goto (t := 71) d112_55 (by decide) ?_
    exact wp_ret d112_71 rfl (h M2 R2 K2 L2 n2 s2 z2 cn2 (-1) (cx1.trans xx2 (by omega)) u12 (by omega) (by omega) u42 ⟨rfl, e2⟩)
  | inr B =>
  rw [hy2] at fr2 h hB
  have nd12 := ndf_mono xx2.nodes u22 (Nat.le_refl _) nd1
  have S2 := S1.move xx2 u12 u22 u42 fr2.2
  have N2 := N1.move S1 xx2 u22
  have cx2 := (cx1.trans xx2 (by omega))
  have nd2 := fr2.1
  have rr2 := ndf_rng nd2
  have cz2 := S2.c1
  have oB := tyF_ok f _ _ _ _ w2 hS.te hy2
  have lj := t3 A B hy1 hy2
  have hB : cn + ((TN f (nX t) Γ Δ + TN f (nY t) Γ Δ + nbm 0 Γ A B : Nat) : Int) + 1300 ≤ 16384 := hB
  obtain ⟨R, hR⟩ := cmu_zero (Γ := Γ) (S := A) (T := B) ⟨hS.te.1, oA.1, oB.1⟩
  have oR := cmu_ok ⟨⟨hS.te.1, oA.1, oB.1⟩, hS.te.2.1, oA.2, oB.2⟩ hR
  have h : ∀ (M' : pm_M) (Rf' : Nat → Nat → Nat) (K' L' : Nat → Nat) (n' s' z' : Nat) (cn' r : Int), CX (WFd Γ.length) M Rf K L n s z cn M' Rf' K' L' n' s' z' → M' 6 6 = cn' → cn ≤ cn' → cn' ≤ cn + ((TN f (nX t) Γ Δ + TN f (nY t) Γ Δ + nbm 0 Γ A B : Nat) : Int) → cn' ≤ z' → RO M' Rf' cn' (.inr (cmu 0 Γ A B)) r → Q (some (.int (zI r))) (zM M', Rf', K', L', n', s') := h
  rw [hR] at h
  refine wp_istore d112_46 (Nat.le_of_ble_eq_true rfl) rfl ?_
  refine wp_iload d112_48 rfl ?_
  refine wz_iconst d112_50 ?_
  refine wz_icmp_ne (t := 58) d112_51 (by decide) ⟨by omega, by omega⟩ ⟨by omega, by omega⟩ (fun _ => ?_) (fun hb => absurd hb (by omega))
  refine wp_aload_n d112_58 rfl ?_
  refine wp_getR (q := 6) d112_59 rfl (S2.g.o (by decide) rfl) (by decide) (S2.g.r (by decide +kernel)) (by decide) ?_
  refine wp_iload d112_62 rfl ?_
  refine wp_iload d112_64 rfl ?_
  refine wp_iload_n d112_66 rfl ?_
  refine wz_iconst d112_67 ?_
  refine wp_virt (as := [.int (zI 0), .int (zI (Γ.length : Int)), .int (zI r2), .int (zI r1)]) (rest := []) d112_68 rfl rfl rfl (S2.g.o (by decide) rfl) rfl rfl (Nat.le_of_ble_eq_true rfl) ?_
  rw [show (0 : Int) = ((0 : Nat) : Int) by rfl]
  refine wc_deep (show 0 + 8 * 38 + 90 ≤ d + 4 * f + 401 by omega) ?_
  have l1 := lj.1
  have l2 := lj.2.2
  refine (c_both 0 38).1 Γ A B _ _ 0 M2 R2 K2 L2 n2 s2 z2 cn2 _ ⟨S2.g, S2.r, S2.m, S2.m6, cz2.1, cz2.2.1, ⟨hS.te.1, oA.1, oB.1⟩, S2.bn, nd12, nd2, oA.2, oB.2⟩ S2.top (by omega) (by omega) (by omega) (by omega) (by omega) (fun M5 R5 K5 L5 n5 s5 z5 cn5 r5 yy5 u15 u25 u35 u45 jr => ?_)
  rw [hR] at jr
  have jr : ndf M5 R5 cn5 (53 + 1) R r5 := jr
  have xx5 := yy5.weak (W' := WFd Γ.length) (fun p i w => by unfold WB at w; unfold WFd; omega)
  have bp5 : M5 42 2 = -1 := (yy5.mem 42 (by have := S2.g.1; omega) (fun g hg => by have := S2.r.2.1 g hg; omega) 2 (by unfold WB; omega)).trans S2.bp
  exact wp_ret d112_71 rfl (h M5 R5 K5 L5 n5 s5 z5 cn5 r5 (cx2.trans xx5 (by omega)) u15 (by omega) (by omega) u45 (RO.of bp5 oR.1 (by omega) jr))
end PmE7
