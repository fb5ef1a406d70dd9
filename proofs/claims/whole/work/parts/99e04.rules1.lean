/-! THE CLASS: the rules. -/
section PmE6
variable {d X cnt f : Nat} {Γ : List Ty} {Δ : List (Nat × Ty × Nat)} {t : Ty} {v : Int} {dp : Nat}
theorem CNt.p1 {M : pm_M} {Rf : Nat → Nat → Nat} {cn : Int} {g : Nat} (hn : CNt M Rf cn X cnt (f + 1) t v) (hg : g < 3) (hs : sk (nKd t) (nMk t) g = 1) : CNt M Rf cn X cnt f (nP t g) (M (X + 4 + g) v) := (hn.2.2.2.2.2.2 g hg).1 hs
theorem CNt.p2 {M : pm_M} {Rf : Nat → Nat → Nat} {cn : Int} {g D : Nat} (hn : CNt M Rf cn X cnt (f + 1) t v) (hg : g < 3) (hs : sk (nKd t) (nMk t) g = 2) (ho : ok D (nP t g) = true) (hl : (flat (nP t g)).length ≤ 16) : ndf M Rf cn 16 (nP t g) (M (X + 4 + g) v) := ndf_dn 16 24 _ _ D ho hl ((hn.2.2.2.2.2.2 g hg).2 hs)
theorem WFd.mono {o o' : Nat} (h : o ≤ o') : ∀ p i, WFd o' p i → WFd o p i := fun p i w => by unfold WFd at *; omega
theorem RO.of {M : pm_M} {Rf : Nat → Nat → Nat} {cn : Int} {A : Ty} {r : Int} {N D : Nat} (hb : M 42 2 = -1) (ho : ok D A = true) (hl : (flat A).length ≤ 1000000) (h : ndf M Rf cn (N + 1) A r) : RO M Rf cn (.inr (some A)) r := ⟨hb, ⟨h.1.1, h.1.2.1⟩, h.1.2.2.2.1, fun l => ndf_dn 16 _ _ _ D ho l h, hl⟩
theorem ru_var (hk : nKd t = 5) (tw : TWf (f + 1) Γ.length (Δ.map (fun a => a.1)) t) (tl : TL (f + 1) t Γ Δ) (hΓ : Γ.length + (f + 1) ≤ 25) (hdp : dp + (f + 1) = 25) : RuC (d + 4 * f + 402) 104 X cnt Γ Δ f t v dp (16) (.inr ((dlk Δ (nMk t)).map (fun a => lft a.2 (Γ.length - a.2) a.1))) [.ref 42, .int (zI v), .int (zI (Γ.length : Int))] := by
  intro M Rf K L n s z cn Q hS hn hB h
  have hx := hS.hx
  have vr := hn.rng
  have c60 := hS.ct
  have c1 := hS.c1
  obtain ⟨a, ha⟩ := dlk_some (tw.2.1 hk)
  obtain ⟨b, b1, b2, b3, b4⟩ := hS.de _ (dlk_mem ha)
  obtain ⟨e1, e2, e3⟩ := hS.te.2.2 _ (dlk_mem ha)
  have e1 : a.2 ≤ Γ.length := e1
  have e2 : ok a.2 a.1 = true := e2
  have e3 : (flat a.1).length ≤ 16 := e3
  obtain ⟨v1, v2⟩ := hn.2.2.2.2.2.1 hk
  have eb : b = M (X + 4) v := hS.pi.inj b1.1 b1.2 v1.1 (by omega) (b2.trans v2.symm)
  rw [ha] at h
  have p1 : M (X + 1 + 3) v = b := eb.symm
  have p2 : M (X + 1 + 2) b = (a.2 : Int) := b3
  refine wc_in (ls0 := [some (.ref 42), some (.int (zI v)), some (.int (zI (Γ.length : Int))), none, none]) (by decide) (Nat.le_of_ble_eq_true rfl) rfl rfl ?_
  refine wp_aload_n d104_0 rfl ?_
  refine wp_getR (q := X) d104_1 rfl (hS.g.o (by decide) rfl) (by decide) hS.rx (by have := hS.hx; omega) ?_
  refine wp_getR (q := X + 1 + 3) d104_4 rfl (hS.g.tm hS.hx) (by decide) (hS.g.tr hS.hx (by decide)) (by omega) ?_
  refine wp_iload_n d104_7 rfl ?_
  refine wz_iald (z := 60) (v := b) d104_8 (hS.g.ta hS.hx (by decide)) (by omega) (by omega) (by omega) (p1) ?_
  refine wp_istore_n d104_9 (Nat.le_of_ble_eq_true rfl) rfl ?_
  refine wp_aload_n d104_10 rfl ?_
  refine wp_getR (q := X) d104_11 rfl (hS.g.o (by decide) rfl) (by decide) hS.rx (by have := hS.hx; omega) ?_
  refine wp_getR (q := X + 1 + 2) d104_14 rfl (hS.g.tm hS.hx) (by decide) (hS.g.tr hS.hx (by decide)) (by omega) ?_
  refine wp_iload_n d104_17 rfl ?_
  refine wz_iald (z := 60) (v := (a.2 : Int)) d104_18 (hS.g.ta hS.hx (by decide)) (by omega) (by omega) (by omega) (p2) ?_
  refine wp_istore d104_19 (Nat.le_of_ble_eq_true rfl) rfl ?_
  refine wp_aload_n d104_21 rfl ?_
  refine wp_getR (q := 6) d104_22 rfl (hS.g.o (by decide) rfl) (by decide) (hS.g.r (by decide +kernel)) (by decide) ?_
  refine wp_aload_n d104_25 rfl ?_
  refine wp_getR (q := X) d104_26 rfl (hS.g.o (by decide) rfl) (by decide) hS.rx (by have := hS.hx; omega) ?_
  refine wp_getR (q := X + 1 + 3) d104_29 rfl (hS.g.tm hS.hx) (by decide) (hS.g.tr hS.hx (by decide)) (by omega) ?_
  refine wp_iload_n d104_32 rfl ?_
  refine wz_iald (z := 60) (v := M (X + 1 + 3) b) d104_33 (hS.g.ta hS.hx (by decide)) (by omega) (by omega) (by omega) (rfl) ?_
  refine wp_iload d104_34 rfl ?_
  refine wp_iload_n d104_36 rfl ?_
  refine wp_iload d104_37 rfl ?_
  refine wz_isub d104_39 ?_
  rw [show (Γ.length : Int) - (a.2 : Int) = ((Γ.length - a.2 : Nat) : Int) by omega]
  refine wz_iconst d104_40 ?_
  refine wp_virt (as := [.int (zI 0), .int (zI (((Γ.length - a.2 : Nat) : Int))), .int (zI (a.2 : Int)), .int (zI (M (X + 1 + 3) b))]) (rest := []) d104_41 rfl rfl rfl (hS.g.o (by decide) rfl) rfl rfl (Nat.le_of_ble_eq_true rfl) ?_
  refine wc_deep (show 0 + 16 + 5 ≤ d + 4 * f + 401 by omega) ?_
  rw [show (0 : Int) = ((0 : Nat) : Int) by rfl]
  refine c_lift 16 a.1 _ a.2 (Γ.length - a.2) a.2 0 M Rf K L n s z cn _ hS.g hS.r hS.m hS.m6 c1.1 c1.2.1 (by omega) e2 (Nat.le_refl _) (by omega) b4 (by omega) (fun M1 R1 K1 L1 n1 s1 z1 cn1 r1 cx u1 u2 u3 u4 nd => ?_)
  have bp : M1 42 2 = -1 := (cx.mem 42 (by have := hS.g.1; omega) (fun g hg => by have := hS.r.2.1 g hg; omega) 2 (by omega)).trans hS.bp
  have oR : ok Γ.length (lft a.2 (Γ.length - a.2) a.1) = true := by
    have := ok_lft a.2 (Γ.length - a.2) a.1 0 e2
    rwa [show a.2 + (Γ.length - a.2) + 0 = Γ.length by omega] at this
  exact wp_ret d104_44 rfl (h M1 R1 K1 L1 n1 s1 z1 cn1 r1 (cx.weak (fun p i w => Or.inl w)) u1 u2 (by omega) u4 (RO.of bp oR (by rw [lft_len]; omega) nd))
theorem ru_fun (IH : FdC d X cnt f) (hk : nKd t = 6) (tw : TWf (f + 1) Γ.length (Δ.map (fun a => a.1)) t) (tl : TL (f + 1) t Γ Δ) (hΓ : Γ.length + (f + 1) ≤ 25) (hdp : dp + (f + 1) = 25) : RuC (d + 4 * f + 402) 105 X cnt Γ Δ f t v dp (TN f (nY t) Γ ((nPl t, nX t, Γ.length) :: Δ) + 1) (rbd (tyF f (nY t) Γ ((nPl t, nX t, Γ.length) :: Δ)) (fun B => .inr (some (tFun (nX t) B)))) [.ref 42, .int (zI v), .int (zI (Γ.length : Int)), .int (zI (dp : Int))] := by
  intro M Rf K L n s z cn Q hS hn hB h
  have hx := hS.hx
  have vr := hn.rng
  have c60 := hS.ct
  have c1 := hS.c1
  obtain ⟨w1, w2, w3, w4⟩ := tw.2.2.1 hk
  have tl1 := tl.1 hk
  have pl : M (X + 2) v = (nPl t : Int) := hn.2.2.2.1
  have mk0 : M (X + 3) v = (Γ.length : Int) := by rw [hn.2.2.2.2.1 (by omega), w1]
  have nx : ndf M Rf cn 16 (nX t) (M (X + 4) v) := hn.p2 (g := 0) (by decide) (by rw [hk]; rfl) w2 w3
  have hS' : CFS X cnt Γ ((nPl t, nX t, Γ.length) :: Δ) M Rf K L n z cn := ⟨hS.g, hS.r, hS.m, hS.m6, c1.1, c1.2.1, hS.top, hS.rx, hS.hx, hS.bp, hS.pi, hS.ct, hS.bn, hS.te.lam w2 w3, fun a ha => by
    rcases List.mem_cons.mp ha with e | e
    · rw [e]; exact ⟨v, ⟨vr.1, by omega⟩, pl, mk0, nx⟩
    · exact hS.de a e⟩
  refine wc_in (ls0 := [some (.ref 42), some (.int (zI v)), some (.int (zI (Γ.length : Int))), some (.int (zI (dp : Int))), none]) (by decide) (Nat.le_of_ble_eq_true rfl) rfl rfl ?_
  refine wp_aload_n d105_0 rfl ?_
  refine wp_aload_n d105_1 rfl ?_
  refine wp_getR (q := X) d105_2 rfl (hS.g.o (by decide) rfl) (by decide) hS.rx (by have := hS.hx; omega) ?_
  refine wp_getR (q := X + 1 + 4) d105_5 rfl (hS.g.tm hS.hx) (by decide) (hS.g.tr hS.hx (by decide)) (by omega) ?_
  refine wp_iload_n d105_8 rfl ?_
  refine wz_iald (z := 60) (v := M (X + 1 + 4) v) d105_9 (hS.g.ta hS.hx (by decide)) (by omega) (by omega) (by omega) (rfl) ?_
  refine wp_iload_n d105_10 rfl ?_
  refine wp_iload_n d105_11 rfl ?_
  refine wz_iconst d105_12 ?_
  refine wz_iadd d105_13 ?_
  refine wp_virt (as := [.int (zI ((dp : Int) + 1)), .int (zI (Γ.length : Int)), .int (zI (M (X + 1 + 4) v))]) (rest := []) d105_14 rfl rfl rfl (hS.g.o (by decide) rfl) rfl rfl (Nat.le_of_ble_eq_true rfl) ?_
  rw [show (dp : Int) + 1 = ((dp + 1 : Nat) : Int) by omega]
  refine wc_deep (show d + 4 * f + 400 ≤ d + 4 * f + 401 by omega) ?_
  refine IH (nY t) _ Γ ((nPl t, nX t, Γ.length) :: Δ) (dp + 1) M Rf K L n s z cn _ hS' (hn.p1 (g := 1) (by decide) (by rw [hk]; rfl)) w4 tl1 (by omega) (by omega) (by omega) (fun M1 R1 K1 L1 n1 s1 z1 cn1 r1 xx1 u11 u21 u31 u41 fr1 => ?_)
  cases hy : tyF f (nY t) Γ ((nPl t, nX t, Γ.length) :: Δ) with
  | inl q =>
    rw [hy] at fr1 h
    obtain ⟨e1, e2⟩ := fr1
    subst e1
    refine wp_istore d105_17 (Nat.le_of_ble_eq_true rfl) rfl ?_
    refine wp_iload d105_19 rfl ?_
    refine wz_iconst d105_21 ?_
    refine wz_icmp_ne (t := 27) d105_22 (by decide) ⟨by omega, by omega⟩ ⟨by omega, by omega⟩ (fun hb => absurd (rfl) hb) (fun _ => ?_)
    refine wz_iconst d105_25 ?_
    exact wp_ret d105_26 rfl (h M1 R1 K1 L1 n1 s1 z1 cn1 (-1) xx1 u11 (by omega) (by omega) u41 ⟨rfl, e2⟩)
  | inr B =>
  rw [hy] at fr1 h
  have S1 := hS.move xx1 u11 u21 u41 fr1.2
  have N1 := hn.move hS xx1 u21
  have cx1 := xx1
  have nd1 := fr1.1
  have rr1 := ndf_rng nd1
  have cz1 := S1.c1
  have oB := (tyF_ok f _ _ _ _ w4 (hS.te.lam w2 w3) hy)
  have tm1 := hS.tm xx1 (fun _ _ w => w)
  have p3 : M1 (X + 1 + 3) v = M (X + 4) v := tm1 _ (by omega) (by omega) v
  have nx1 : ndf M1 R1 cn1 16 (nX t) (M (X + 4) v) := ndf_mono xx1.nodes u21 (Nat.le_refl _) nx
  have rx1 := ndf_rng nx1
  have oR : ok Γ.length (tFun (nX t) B) = true := ok_fun.mpr ⟨w2, oB.1⟩
  have ccR : cc (hd (tFun (nX t) B)) = 19 := rfl
  have X0f : XF M1 R1 cn1 16 (tFun (nX t) B) 0 (M (X + 4) v) := ⟨rx1.1, rx1.2, fun _ => nx1⟩
  have X1f : XF M1 R1 cn1 16 (tFun (nX t) B) 1 r1 := ⟨rr1.1, rr1.2, fun _ => nd1⟩
  have X2f : XF M1 R1 cn1 16 (tFun (nX t) B) 2 0 := ⟨Int.le_refl _, by omega, fun hb => by rw [(hp_fun (nX t) B).2.2] at hb; cases hb⟩
  have q0 := X0f.size oR (by decide)
  have q1 := X1f.size oR (by decide)
  have q2 := X2f.size oR (by decide)
  have lp := len_pts oR
  have lR : (flat (tFun (nX t) B)).length ≤ 1000000 := by
    have := oB.2
    rw [flat_fun, List.length_cons, List.length_append]; omega
  refine wp_istore d105_17 (Nat.le_of_ble_eq_true rfl) rfl ?_
  refine wp_iload d105_19 rfl ?_
  refine wz_iconst d105_21 ?_
  refine wz_icmp_ne (t := 27) d105_22 (by decide) ⟨by omega, by omega⟩ ⟨by omega, by omega⟩ (fun _ => ?_) (fun hb => absurd hb (by omega))
  refine wp_aload_n d105_27 rfl ?_
  refine wp_getR (q := 6) d105_28 rfl (S1.g.o (by decide) rfl) (by decide) (S1.g.r (by decide +kernel)) (by decide) ?_
  refine wz_bipush d105_31 (by decide) ?_
  rw [show (19 : Int) = ((cc (hd (tFun (nX t) B)) : Nat) : Int) by rw [ccR]; rfl]
  refine wp_aload_n d105_33 rfl ?_
  refine wp_getR (q := X) d105_34 rfl (S1.g.o (by decide) rfl) (by decide) S1.rx (by have := S1.hx; omega) ?_
  refine wp_getR (q := X + 1 + 3) d105_37 rfl (S1.g.tm S1.hx) (by decide) (S1.g.tr S1.hx (by decide)) (by omega) ?_
  refine wp_iload_n d105_40 rfl ?_
  refine wz_iald (z := 60) (v := M (X + 4) v) d105_41 (S1.g.ta S1.hx (by decide)) (by omega) (by omega) (by omega) (p3) ?_
  refine wp_iload d105_42 rfl ?_
  refine wz_iconst d105_44 ?_
  refine wp_virt (as := [.int (zI 0), .int (zI r1), .int (zI (M (X + 4) v)), .int (zI (((cc (hd (tFun (nX t) B)) : Nat) : Int)))]) (rest := []) d105_45 rfl rfl rfl (S1.g.o (by decide) rfl) rfl rfl (Nat.le_of_ble_eq_true rfl) ?_
  refine wc_deep (show 0 + 3 ≤ d + 4 * f + 401 by omega) ?_
  refine c_make (c := cc (hd (tFun (nX t) B))) S1.g S1.r S1.m S1.m6 cz1.2.1 (by omega) (cc_small oR (by omega)) X0f.1 X0f.2.1 X1f.1 X1f.2.1 X2f.1 X2f.2.1 (by rw [q0]; omega) (by rw [q1]; omega) (by rw [q2]; omega) (fun M9 R9 K9 L9 n9 s9 z9 mk => ?_)
  have nd9 := mk.ndf oR (by omega) X0f X1f X2f
  have mcx := mk.cx
  obtain ⟨-, m6, mz, -⟩ := mk
  have bp9 : M9 42 2 = -1 := (mcx.mem 42 (by have := S1.g.1; omega) (fun g hg => by have := S1.r.2.1 g hg; omega) 2 (by omega)).trans S1.bp
  exact wp_ret d105_48 rfl (h M9 R9 K9 L9 n9 s9 z9 (cn1 + 1) cn1 (cx1.trans (mcx.weak (fun p i w => Or.inl w)) (by omega)) m6 (by omega) (by omega) mz (RO.of bp9 oR lR nd9))
theorem ru_app (IH : FdC d X cnt f) (hk : nKd t = 7) (tw : TWf (f + 1) Γ.length (Δ.map (fun a => a.1)) t) (tl : TL (f + 1) t Γ Δ) (hΓ : Γ.length + (f + 1) ≤ 25) (hdp : dp + (f + 1) = 25) : RuC (d + 4 * f + 402) 106 X cnt Γ Δ f t v dp (TN f (nX t) Γ Δ + TN f (nY t) Γ Δ + 16 * Γ.length) (rbd (tyF f (nX t) Γ Δ) (fun A => rbd (tyF f (nY t) Γ Δ) (fun B => .inr (tyA Γ (expo Γ Γ.length A) B)))) [.ref 42, .int (zI v), .int (zI (Γ.length : Int)), .int (zI (dp : Int))] := by
  intro M Rf K L n s z cn Q hS hn hB h
  have hx := hS.hx
  have vr := hn.rng
  have c60 := hS.ct
  have c1 := hS.c1
  obtain ⟨w1, w2⟩ := tw.2.2.2.1 (Or.inl hk)
  obtain ⟨t1, t2, t3⟩ := tl.2.1 hk
  refine wc_in (ls0 := [some (.ref 42), some (.int (zI v)), some (.int (zI (Γ.length : Int))), some (.int (zI (dp : Int))), none, none, none]) (by decide) (Nat.le_of_ble_eq_true rfl) rfl rfl ?_
  refine wp_aload_n d106_0 rfl ?_
  refine wp_aload_n d106_1 rfl ?_
  refine wp_getR (q := X) d106_2 rfl (hS.g.o (by decide) rfl) (by decide) hS.rx (by have := hS.hx; omega) ?_
  refine wp_getR (q := X + 1 + 3) d106_5 rfl (hS.g.tm hS.hx) (by decide) (hS.g.tr hS.hx (by decide)) (by omega) ?_
  refine wp_iload_n d106_8 rfl ?_
  refine wz_iald (z := 60) (v := M (X + 1 + 3) v) d106_9 (hS.g.ta hS.hx (by decide)) (by omega) (by omega) (by omega) (rfl) ?_
  refine wp_iload_n d106_10 rfl ?_
  refine wp_iload_n d106_11 rfl ?_
  refine wz_iconst d106_12 ?_
  refine wz_iadd d106_13 ?_
  refine wp_virt (as := [.int (zI ((dp : Int) + 1)), .int (zI (Γ.length : Int)), .int (zI (M (X + 1 + 3) v))]) (rest := []) d106_14 rfl rfl rfl (hS.g.o (by decide) rfl) rfl rfl (Nat.le_of_ble_eq_true rfl) ?_
  rw [show (dp : Int) + 1 = ((dp + 1 : Nat) : Int) by omega]
  refine wc_deep (show d + 4 * f + 400 ≤ d + 4 * f + 401 by omega) ?_
  refine IH (nX t) _ Γ Δ (dp + 1) M Rf K L n s z cn _ hS (hn.p1 (g := 0) (by decide) (by rw [hk]; rfl)) w1 t1 (by omega) (by omega) (by omega) (fun M1 R1 K1 L1 n1 s1 z1 cn1 r1 xx1 u11 u21 u31 u41 fr1 => ?_)
  cases hy1 : tyF f (nX t) Γ Δ with
  | inl q =>
    rw [hy1] at fr1 h
    obtain ⟨e1, e2⟩ := fr1
    subst e1
    refine wp_istore d106_17 (Nat.le_of_ble_eq_true rfl) rfl ?_
    refine wp_iload d106_19 rfl ?_
    refine wz_iconst d106_21 ?_
    refine wz_icmp_ne (t := 29) d106_22 (by decide) ⟨by omega, by omega⟩ ⟨by omega, by omega⟩ (fun hb => absurd (rfl) hb) (fun _ => ?_)
    refine wz_iconst d106_25 ?_
    refine wp_goto (t := 46) d106_26 (by decide) ?_
    refine wp_istore d106_46 (Nat.le_of_ble_eq_true rfl) rfl ?_
    refine wp_iload d106_48 rfl ?_
    refine wz_iconst d106_50 ?_
    refine wz_icmp_ne (t := 56) d106_51 (by decide) ⟨by omega, by omega⟩ ⟨by omega, by omega⟩ (fun hb => absurd (rfl) hb) (fun _ => ?_)
    refine wz_iconst d106_54 ?_
    exact wp_ret d106_55 rfl (h M1 R1 K1 L1 n1 s1 z1 cn1 (-1) xx1 u11 (by omega) (by omega) u41 ⟨rfl, e2⟩)
  | inr A =>
  rw [hy1] at fr1 h
  have S1 := hS.move xx1 u11 u21 u41 fr1.2
  have N1 := hn.move hS xx1 u21
  have cx1 := xx1
  have nd1 := fr1.1
  have rr1 := ndf_rng nd1
  have cz1 := S1.c1
  have oA := tyF_ok f _ _ _ _ w1 hS.te hy1
  refine wp_istore d106_17 (Nat.le_of_ble_eq_true rfl) rfl ?_
  refine wp_iload d106_19 rfl ?_
  refine wz_iconst d106_21 ?_
  refine wz_icmp_ne (t := 29) d106_22 (by decide) ⟨by omega, by omega⟩ ⟨by omega, by omega⟩ (fun _ => ?_) (fun hb => absurd hb (by omega))
  refine wp_aload_n d106_29 rfl ?_
  refine wp_aload_n d106_30 rfl ?_
  refine wp_getR (q := X) d106_31 rfl (S1.g.o (by decide) rfl) (by decide) S1.rx (by have := S1.hx; omega) ?_
  refine wp_getR (q := X + 1 + 4) d106_34 rfl (S1.g.tm S1.hx) (by decide) (S1.g.tr S1.hx (by decide)) (by omega) ?_
  refine wp_iload_n d106_37 rfl ?_
  refine wz_iald (z := 60) (v := M1 (X + 1 + 4) v) d106_38 (S1.g.ta S1.hx (by decide)) (by omega) (by omega) (by omega) (rfl) ?_
  refine wp_iload_n d106_39 rfl ?_
  refine wp_iload_n d106_40 rfl ?_
  refine wz_iconst d106_41 ?_
  refine wz_iadd d106_42 ?_
  refine wp_virt (as := [.int (zI ((dp : Int) + 1)), .int (zI (Γ.length : Int)), .int (zI (M1 (X + 1 + 4) v))]) (rest := []) d106_43 rfl rfl rfl (S1.g.o (by decide) rfl) rfl rfl (Nat.le_of_ble_eq_true rfl) ?_
  rw [show (dp : Int) + 1 = ((dp + 1 : Nat) : Int) by omega]
  refine wc_deep (show d + 4 * f + 400 ≤ d + 4 * f + 401 by omega) ?_
  refine IH (nY t) _ Γ Δ (dp + 1) M1 R1 K1 L1 n1 s1 z1 cn1 _ S1 (N1.p1 (g := 1) (by decide) (by rw [hk]; rfl)) w2 t2 (by omega) (by omega) (by omega) (fun M2 R2 K2 L2 n2 s2 z2 cn2 r2 xx2 u12 u22 u32 u42 fr2 => ?_)
  cases hy2 : tyF f (nY t) Γ Δ with
  | inl q =>
    rw [hy2] at fr2 h
    obtain ⟨e1, e2⟩ := fr2
    subst e1
    refine wp_istore d106_46 (Nat.le_of_ble_eq_true rfl) rfl ?_
    refine wp_iload d106_48 rfl ?_
    refine wz_iconst d106_50 ?_
    refine wz_icmp_ne (t := 56) d106_51 (by decide) ⟨by omega, by omega⟩ ⟨by omega, by omega⟩ (fun hb => absurd (rfl) hb) (fun _ => ?_)
    refine wz_iconst d106_54 ?_
    exact wp_ret d106_55 rfl (h M2 R2 K2 L2 n2 s2 z2 cn2 (-1) (cx1.trans xx2 (by omega)) u12 (by omega) (by omega) u42 ⟨rfl, e2⟩)
  | inr B =>
  rw [hy2] at fr2 h
  have nd12 := ndf_mono xx2.nodes u22 (Nat.le_refl _) nd1
  have S2 := S1.move xx2 u12 u22 u42 fr2.2
  have N2 := N1.move S1 xx2 u22
  have cx2 := (cx1.trans xx2 (by omega))
  have nd2 := fr2.1
  have rr2 := ndf_rng nd2
  have cz2 := S2.c1
  have oB := tyF_ok f _ _ _ _ w2 hS.te hy2
  refine wp_istore d106_46 (Nat.le_of_ble_eq_true rfl) rfl ?_
  refine wp_iload d106_48 rfl ?_
  refine wz_iconst d106_50 ?_
  refine wz_icmp_ne (t := 56) d106_51 (by decide) ⟨by omega, by omega⟩ ⟨by omega, by omega⟩ (fun _ => ?_) (fun hb => absurd hb (by omega))
  refine wp_aload_n d106_56 rfl ?_
  refine wp_getR (q := 6) d106_57 rfl (S2.g.o (by decide) rfl) (by decide) (S2.g.r (by decide +kernel)) (by decide) ?_
  refine wp_iload d106_60 rfl ?_
  refine wp_iload_n d106_62 rfl ?_
  refine wp_virt (as := [.int (zI (Γ.length : Int)), .int (zI r1)]) (rest := []) d106_63 rfl rfl rfl (S2.g.o (by decide) rfl) rfl rfl (Nat.le_of_ble_eq_true rfl) ?_
  have h : ∀ (M' : pm_M) (Rf' : Nat → Nat → Nat) (K' L' : Nat → Nat) (n' s' z' : Nat) (cn' r : Int), CX (WFd Γ.length) M Rf K L n s z cn M' Rf' K' L' n' s' z' → M' 6 6 = cn' → cn ≤ cn' → cn' ≤ cn + ((TN f (nX t) Γ Δ + TN f (nY t) Γ Δ + 16 * Γ.length : Nat) : Int) → cn' ≤ z' → RO M' Rf' cn' (.inr (tyA Γ (expo Γ Γ.length A) B)) r → Q (some (.int (zI r))) (zM M', Rf', K', L', n', s') := h
  refine wc_deep (show 0 + 24 ≤ d + 4 * f + 401 by omega) ?_
  refine c_exposed S2.g S2.r S2.m S2.m6 cz2.1 cz2.2.1 (by omega) hS.te.1 hS.te.2.1 S2.bn (by omega) oA.1 oA.2 nd12 (fun M3 R3 K3 L3 n3 s3 z3 cn3 r3 yy3 u13 u23 u33 u43 nd3 => ?_)
  have xx3 := yy3.weak (W' := WFd Γ.length) (fun p i w => Or.inl w)
  have bp3 : M3 42 2 = -1 := (yy3.mem 42 (by have := S2.g.1; omega) (fun g hg => by have := S2.r.2.1 g hg; omega) 2 (by omega)).trans S2.bp
  have fr3 : FR M3 R3 cn3 (.inr (expo Γ Γ.length A)) r3 := ⟨nd3, bp3⟩
  have S3 := S2.move xx3 u13 u23 u43 fr3.2
  have N3 := N2.move S2 xx3 u23
  have cx3 := (cx2.trans xx3 (by omega))
  have nd3 := fr3.1
  have rr3 := ndf_rng nd3
  have cz3 := S3.c1
  have oE := expo_ok hS.te.1 hS.te.2.1 Γ.length A oA.1 oA.2
  generalize hE : expo Γ Γ.length A = E at *
  have cC := nd3.1.2.2.1
  have cSm := cc_small oE.1 (by omega)
  have ccC := cc_cases (hd E)
  have nB3 := ndf_mono xx3.nodes u23 (Nat.le_refl _) nd2
  refine wp_istore d106_66 (Nat.le_of_ble_eq_true rfl) rfl ?_
  refine wp_aload_n d106_68 rfl ?_
  refine wp_getR (q := 6) d106_69 rfl (S3.g.o (by decide) rfl) (by decide) (S3.g.r (by decide +kernel)) (by decide) ?_
  refine wp_getR (q := R3 6 0) d106_72 rfl (S3.g.o (by decide) rfl) (by decide) rfl (S3.r.1 0 (by decide)).1 ?_
  refine wp_iload d106_75 rfl ?_
  refine wz_iald (z := z3) (v := (cc (hd E) : Int)) d106_77 (S3.r.1 0 (by decide)) (rr3.1) (by omega) (by omega) (cC) ?_
  refine wz_bipush d106_78 (by decide) ?_
  refine wz_icmp_ne (t := 107) d106_80 (by decide) ⟨by omega, by omega⟩ ⟨by omega, by omega⟩ (fun hne => ?_) (fun heq => ?_)
  · skip
    have eo : tyA Γ E B = none := if_neg (fun q => hne (by rw [q.1]; rfl))
    rw [eo] at h
    refine wz_iconst d106_107 ?_
    exact wp_ret d106_108 rfl (h M3 R3 K3 L3 n3 s3 z3 cn3 (-1) cx3 u13 (by omega) (by omega) u43 ⟨rfl, bp3⟩)
  · skip
    have h1 : hd E = 1 := by omega
    obtain ⟨F1, F2, e2, o1, o2⟩ := hd_is_fun oE.1 h1
    have lb := t3 A B hy1 hy2 (by rw [hE]; exact h1)
    rw [hE, e2] at lb
    have lb : LB Γ B F1 := lb
    subst e2
    have lF := oE.2
    rw [flat_fun, List.length_cons, List.length_append] at lF
    have f1 : ndf M3 R3 cn3 15 F1 (M3 (R3 6 1) r3) := nd3.2 0 (by decide) (hp_fun F1 F2).1
    have f2 : ndf M3 R3 cn3 15 F2 (M3 (R3 6 2) r3) := nd3.2 1 (by decide) (hp_fun F1 F2).2.1
    have rf1 := ndf_rng f1
    have rf2 := ndf_rng f2
    refine wp_aload_n d106_83 rfl ?_
    refine wp_getR (q := 6) d106_84 rfl (S3.g.o (by decide) rfl) (by decide) (S3.g.r (by decide +kernel)) (by decide) ?_
    refine wp_iload d106_87 rfl ?_
    refine wp_aload_n d106_89 rfl ?_
    refine wp_getR (q := 6) d106_90 rfl (S3.g.o (by decide) rfl) (by decide) (S3.g.r (by decide +kernel)) (by decide) ?_
    refine wp_getR (q := R3 6 1) d106_93 rfl (S3.g.o (by decide) rfl) (by decide) rfl (S3.r.1 1 (by decide)).1 ?_
    refine wp_iload d106_96 rfl ?_
    refine wz_iald (z := z3) (v := M3 (R3 6 1) r3) d106_98 (S3.r.1 1 (by decide)) (rr3.1) (by omega) (by omega) (rfl) ?_
    refine wp_iload_n d106_99 rfl ?_
    refine wz_iconst d106_100 ?_
    refine wp_virt (as := [.int (zI 0), .int (zI (Γ.length : Int)), .int (zI (M3 (R3 6 1) r3)), .int (zI r2)]) (rest := []) d106_101 rfl rfl rfl (S3.g.o (by decide) rfl) rfl rfl (Nat.le_of_ble_eq_true rfl) ?_
    rw [show (0 : Int) = ((0 : Nat) : Int) by rfl]
    refine wc_deep (show 0 + 3 * 38 + 26 ≤ d + 4 * f + 401 by omega) ?_
    refine c_isBelow 38 0 Γ B F1 _ _ 0 M3 R3 K3 L3 n3 s3 z3 cn3 _ ⟨S3.g, S3.r, S3.m, S3.m6, cz3.1, cz3.2.1, ⟨hS.te.1, oB.1, o1⟩, S3.bn, nB3, (ndf_mono (fun _ _ _ _ _ => rfl) (Int.le_refl _) (by omega) f1), oB.2, (by omega)⟩ lb.1 (by have := lb.1; omega) (by omega) (by omega) (fun M4 R4 K4 L4 n4 s4 z4 yy4 u14 => ?_)
    have xx4 := yy4.weak (W' := WFd Γ.length) (fun p i w => by unfold WB at w; unfold WFd; omega)
    have bp4 : M4 42 2 = -1 := (yy4.mem 42 (by have := S3.g.1; omega) (fun g hg => by have := S3.r.2.1 g hg; omega) 2 (by unfold WB; omega)).trans S3.bp
    have cx4 := cx3.trans xx4 (by omega)
    have zz4 := yy4.zz
    have hz4 := yy4.r.2.2.2.2
    have nn4 := yy4.nodes
    by_cases hb : bel Γ B F1 = true
    · skip
      rw [if_pos hb]
      have eo : tyA Γ (tFun F1 F2) B = some F2 := if_pos ⟨rfl, hb⟩
      rw [eo] at h
      refine wz_if_ne (t := 109) d106_104 (by decide) ⟨by omega, by omega⟩ (fun _ => ?_) (fun hb => absurd hb (by decide))
      refine wp_aload_n d106_109 rfl ?_
      refine wp_getR (q := 6) d106_110 rfl (yy4.g.o (by decide) rfl) (by decide) (yy4.g.r (by decide +kernel)) (by decide) ?_
      refine wp_getR (q := R4 6 2) d106_113 rfl (yy4.g.o (by decide) rfl) (by decide) rfl (yy4.r.1 2 (by decide)).1 ?_
      refine wp_iload d106_116 rfl ?_
      refine wz_iald (z := z4) (v := M3 (R3 6 2) r3) d106_118 (yy4.r.1 2 (by decide)) (rr3.1) (by omega) (by omega) (nn4 2 (by decide) _ rr3.1 rr3.2) ?_
      exact wp_ret d106_119 rfl (h M4 R4 K4 L4 n4 s4 z4 cn3 _ cx4 u14 (by omega) (by omega) (by omega) (RO.of (N := 14) bp4 o2 (by omega) (ndf_mono nn4 (Int.le_refl _) (Nat.le_refl _) f2)))
    · skip
      rw [if_neg hb]
      have eo : tyA Γ (tFun F1 F2) B = none := if_neg (fun q => hb q.2)
      rw [eo] at h
      refine wz_if_ne (t := 109) d106_104 (by decide) ⟨by omega, by omega⟩ (fun hb => absurd (by decide) hb) (fun _ => ?_)
      refine wz_iconst d106_107 ?_
      exact wp_ret d106_108 rfl (h M4 R4 K4 L4 n4 s4 z4 cn3 (-1) cx4 u14 (by omega) (by omega) (by omega) ⟨rfl, bp4⟩)
end PmE6
