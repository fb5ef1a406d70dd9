/-! THE CLASS: the rule of records; find. -/
section PmE8
variable {d X cnt f : Nat} {Γ : List Ty} {Δ : List (Nat × Ty × Nat)} {t : Ty} {v : Int} {dp : Nat}
theorem c_tholds {Q : Option Value → pm_S → Prop} {M : pm_M} {Rf : Nat → Nat → Nat} {K L : Nat → Nat} {n s m g w : Nat} (hG : pm_G Rf K L n) (hX : X = 16 ∨ X = 23) (hw : w < 60) (hm : M (X + 3) (w : Int) = (m : Int)) (m8 : m < 8) (hg : g < 3) (h1 : bit m g = true → Q (some (.int (zI 1))) (zM M, Rf, K, L, n, s)) (h0 : ¬ bit m g = true → Q (some (.int (zI 0))) (zM M, Rf, K, L, n, s)) : pm_Wc (d + 1) 70 [.ref X, .int (zI (w : Int)), .int (zI (g : Int))] (zM M, Rf, K, L, n, s) Q := by
  have key : (m / 2 ^ g % 2 = 1) ↔ bit m g = true := bit_iff.symm
  have hm' : M (X + 1 + 2) (w : Int) = (m : Int) := hm
  refine wc_in (ls0 := [some (.ref X), some (.int (zI (w : Int))), some (.int (zI (g : Int)))]) (by decide) (Nat.le_of_ble_eq_true rfl) rfl rfl ?_
  refine wp_aload_n d70_0 rfl ?_
  refine wp_getR (q := X + 1 + 2) d70_1 rfl (hG.tm hX) (by decide) (hG.tr hX (by decide)) (by omega) ?_
  refine wp_iload_n d70_4 rfl ?_
  refine wz_iald (z := 60) (v := (m : Int)) d70_5 (hG.ta hX (by decide)) (by omega) (by omega) (by omega) (hm') ?_
  refine wp_iload_n d70_6 rfl ?_
  refine wz_ishr d70_7 (by omega) (by omega) (by omega) (by omega) ?_
  refine wz_iconst d70_8 ?_
  refine wz_and1 d70_9 (by first | omega | exact Int.natCast_nonneg _) ?_
  refine wz_iconst d70_10 ?_
  have ev : (((((m : Int).toNat / 2 ^ ((g : Int).toNat) : Nat) : Int)) % 2) = ((m / 2 ^ g % 2 : Nat) : Int) := by
    rw [Int.toNat_natCast, Int.toNat_natCast]; omega
  refine wz_icmp_ne (t := 18) d70_11 (by decide) ⟨by omega, by omega⟩ ⟨by omega, by omega⟩ (fun hb => ?_) (fun hb => ?_)
  · skip
    refine wz_iconst d70_18 ?_
    exact wp_ret d70_19 rfl (h0 (fun q => by have := key.mpr q; rw [Int.toNat_natCast, Int.toNat_natCast] at hb; omega))
  · skip
    refine wz_iconst d70_14 ?_
    refine wp_goto (t := 19) d70_15 (by decide) ?_
    exact wp_ret d70_19 rfl (h1 (key.mp (by rw [Int.toNat_natCast, Int.toNat_natCast] at hb; omega)))
theorem c_tpart {Q : Option Value → pm_S → Prop} {M : pm_M} {Rf : Nat → Nat → Nat} {K L : Nat → Nat} {n s g : Nat} {w : Int} (hG : pm_G Rf K L n) (hX : X = 16 ∨ X = 23) (hw0 : 0 ≤ w) (hw : w < 60) (hg : g < 3) (h : Q (some (.int (zI (M (X + 4 + g) w)))) (zM M, Rf, K, L, n, s)) : pm_Wc (d + 1) 71 [.ref X, .int (zI w), .int (zI (g : Int))] (zM M, Rf, K, L, n, s) Q := by
  refine wc_in (ls0 := [some (.ref X), some (.int (zI w)), some (.int (zI (g : Int)))]) (by decide) (Nat.le_of_ble_eq_true rfl) rfl rfl ?_
  refine wp_iload_n d71_0 rfl ?_
  refine wz_if_ne (t := 13) d71_1 (by decide) ⟨by omega, by omega⟩ (fun g0 => ?_) (fun g0 => ?_)
  · skip
    refine wp_iload_n d71_13 rfl ?_
    refine wz_iconst d71_14 ?_
    refine wz_icmp_ne (t := 27) d71_15 (by decide) ⟨by omega, by omega⟩ ⟨by omega, by omega⟩ (fun g1 => ?_) (fun g1 => ?_)
    · skip
      have e : g = 2 := by omega
      subst e
      refine wp_aload_n d71_27 rfl ?_
      refine wp_getR (q := X + 1 + 5) d71_28 rfl (hG.tm hX) (by decide) (hG.tr hX (by decide)) (by omega) ?_
      refine wp_iload_n d71_31 rfl ?_
      refine wz_iald (z := 60) (v := M (X + 1 + 5) w) d71_32 (hG.ta hX (by decide)) (by omega) (by omega) (by omega) (rfl) ?_
      exact wp_ret d71_33 rfl (h)
    · skip
      have e : g = 1 := by omega
      subst e
      refine wp_aload_n d71_18 rfl ?_
      refine wp_getR (q := X + 1 + 4) d71_19 rfl (hG.tm hX) (by decide) (hG.tr hX (by decide)) (by omega) ?_
      refine wp_iload_n d71_22 rfl ?_
      refine wz_iald (z := 60) (v := M (X + 1 + 4) w) d71_23 (hG.ta hX (by decide)) (by omega) (by omega) (by omega) (rfl) ?_
      refine wp_goto (t := 33) d71_24 (by decide) ?_
      exact wp_ret d71_33 rfl (h)
  · skip
    have e : g = 0 := by omega
    subst e
    refine wp_aload_n d71_4 rfl ?_
    refine wp_getR (q := X + 1 + 3) d71_5 rfl (hG.tm hX) (by decide) (hG.tr hX (by decide)) (by omega) ?_
    refine wp_iload_n d71_8 rfl ?_
    refine wz_iald (z := 60) (v := M (X + 1 + 3) w) d71_9 (hG.ta hX (by decide)) (by omega) (by omega) (by omega) (rfl) ?_
    refine wp_goto (t := 33) d71_10 (by decide) ?_
    exact wp_ret d71_33 rfl (h)
/-- a record's part: its node, or the node of T -/
theorem c_ofPart {g : Nat} (IH : FdC d X cnt f) (hk : nKd t = 10) (tw : TWf (f + 1) Γ.length (Δ.map (fun a => a.1)) t) (tl : TL (f + 1) t Γ Δ) (hΓ : Γ.length + (f + 1) ≤ 25) (hdp : dp + (f + 1) = 25) (hg : g < 3) {M : pm_M} {Rf : Nat → Nat → Nat} {K L : Nat → Nat} {n s z : Nat} {cn : Int} {Q : Option Value → pm_S → Prop} (hS : CFS X cnt Γ Δ M Rf K L n z cn) (hn : CNt M Rf cn X cnt (f + 1) t v) (hB : cn + (((if bit (nMk t) g = true then TN f (nP t g) Γ Δ else 0) : Nat) : Int) + 1300 ≤ 16384) (h : ∀ (M' : pm_M) (Rf' : Nat → Nat → Nat) (K' L' : Nat → Nat) (n' s' z' : Nat) (cn' r : Int), CX (WFd Γ.length) M Rf K L n s z cn M' Rf' K' L' n' s' z' → M' 6 6 = cn' → cn ≤ cn' → cn' ≤ cn + (((if bit (nMk t) g = true then TN f (nP t g) Γ Δ else 0) : Nat) : Int) → cn' ≤ z' → (∀ q, (if bit (nMk t) g = true then tyF f (nP t g) Γ Δ else .inr .nil) = .inl q → r = -1 ∧ M' 42 2 = (q : Int)) → (∀ A, (if bit (nMk t) g = true then tyF f (nP t g) Γ Δ else .inr .nil) = .inr A → CFS X cnt Γ Δ M' Rf' K' L' n' z' cn' ∧ CNt M' Rf' cn' X cnt (f + 1) t v ∧ (0 ≤ r ∧ r < cn') ∧ (bit (nMk t) g = true → ndf M' Rf' cn' 16 A r)) → Q (some (.int (zI r))) (zM M', Rf', K', L', n', s')) : pm_Wc (d + 4 * f + 401) 110 [.ref 42, .int (zI v), .int (zI (g : Int)), .int (zI (Γ.length : Int)), .int (zI (dp : Int))] (zM M, Rf, K, L, n, s) Q := by
  have hx := hS.hx
  have vr := hn.rng
  have c60 := hS.ct
  have c1 := hS.c1
  obtain ⟨m8, w1⟩ := tw.2.2.2.2.2.2.1 hk
  have tl1 := tl.2.2.2.2.1 hk
  obtain ⟨w, rfl⟩ : ∃ w : Nat, v = (w : Int) := ⟨v.toNat, by omega⟩
  have mk0 : M (X + 3) (w : Int) = (nMk t : Int) := hn.2.2.2.2.1 (by omega)
  refine wc_in (ls0 := [some (.ref 42), some (.int (zI (w : Int))), some (.int (zI (g : Int))), some (.int (zI (Γ.length : Int))), some (.int (zI (dp : Int)))]) (by decide) (Nat.le_of_ble_eq_true rfl) rfl rfl ?_
  refine wp_aload_n d110_0 rfl ?_
  refine wp_getR (q := X) d110_1 rfl (hS.g.o (by decide) rfl) (by decide) hS.rx (by have := hS.hx; omega) ?_
  refine wp_iload_n d110_4 rfl ?_
  refine wp_iload_n d110_5 rfl ?_
  refine wp_virt (as := [.int (zI (g : Int)), .int (zI (w : Int))]) (rest := []) d110_6 rfl rfl rfl (hS.g.tm hS.hx) rfl rfl (Nat.le_of_ble_eq_true rfl) ?_
  refine wc_deep (show 0 + 1 ≤ d + 4 * f + 400 by omega) ?_
  refine c_tholds hS.g hx (by omega) mk0 m8 hg (fun hb => ?_) (fun hb => ?_)
  rotate_left
  · skip
    rw [show (if bit (nMk t) g = true then TN f (nP t g) Γ Δ else 0) = 0 from if_neg hb] at h hB
    rw [show (if bit (nMk t) g = true then tyF f (nP t g) Γ Δ else .inr .nil) = .inr .nil from if_neg hb] at h
    refine wz_if_ne (t := 14) d110_9 (by decide) ⟨by omega, by omega⟩ (fun hb => absurd (by decide) hb) (fun _ => ?_)
    refine wz_iconst d110_12 ?_
    exact wp_ret d110_13 rfl (h M Rf K L n s z cn 0 (CX.refl hS.g hS.r hS.m) hS.m6 (Int.le_refl _) (by omega) c1.2.1 (fun q hq => by cases hq) (fun A hA => ⟨hS, hn, ⟨Int.le_refl _, by omega⟩, fun q => absurd q hb⟩))
  rw [show (if bit (nMk t) g = true then TN f (nP t g) Γ Δ else 0) = TN f (nP t g) Γ Δ from if_pos hb] at h hB
  rw [show (if bit (nMk t) g = true then tyF f (nP t g) Γ Δ else .inr .nil) = tyF f (nP t g) Γ Δ from if_pos hb] at h
  refine wz_if_ne (t := 14) d110_9 (by decide) ⟨by omega, by omega⟩ (fun _ => ?_) (fun hb => absurd hb (by decide))
  refine wp_aload_n d110_14 rfl ?_
  refine wp_aload_n d110_15 rfl ?_
  refine wp_getR (q := X) d110_16 rfl (hS.g.o (by decide) rfl) (by decide) hS.rx (by have := hS.hx; omega) ?_
  refine wp_iload_n d110_19 rfl ?_
  refine wp_iload_n d110_20 rfl ?_
  refine wp_virt (as := [.int (zI (g : Int)), .int (zI (w : Int))]) (rest := [.ref 42]) d110_21 rfl rfl rfl (hS.g.tm hS.hx) rfl rfl (Nat.le_of_ble_eq_true rfl) ?_
  refine wc_deep (show 0 + 1 ≤ d + 4 * f + 400 by omega) ?_
  refine c_tpart hS.g hx vr.1 (by omega) hg ?_
  refine wp_iload_n d110_24 rfl ?_
  refine wp_iload d110_25 rfl ?_
  refine wz_iconst d110_27 ?_
  refine wz_iadd d110_28 ?_
  refine wp_virt (as := [.int (zI ((dp : Int) + 1)), .int (zI (Γ.length : Int)), .int (zI (M (X + 4 + g) (w : Int)))]) (rest := []) d110_29 rfl rfl rfl (hS.g.o (by decide) rfl) rfl rfl (Nat.le_of_ble_eq_true rfl) ?_
  rw [show (dp : Int) + 1 = ((dp + 1 : Nat) : Int) by omega]
  refine wc_deep (show d + 4 * f + 400 ≤ d + 4 * f + 400 by omega) ?_
  refine IH (nP t g) _ Γ Δ (dp + 1) M Rf K L n s z cn _ hS (hn.p1 hg (by rw [hk]; exact sk_rec.1.mpr hb)) (w1 g hg hb) (tl1 g hg hb) (by omega) (by omega) hB (fun M1 R1 K1 L1 n1 s1 z1 cn1 r1 xx u1 u2 u3 u4 fr => ?_)
  refine wp_ret d110_32 rfl (h M1 R1 K1 L1 n1 s1 z1 cn1 r1 xx u1 u2 u3 u4 (fun q hq => ?_) (fun A hA => ?_))
  · rw [hq] at fr; exact fr
  · rw [hA] at fr
    exact ⟨hS.move xx u1 u2 u4 fr.2, hn.move hS xx u2, ndf_rng fr.1, fun _ => fr.1⟩
theorem ru_rec (IH : FdC d X cnt f) (hk : nKd t = 10) (tw : TWf (f + 1) Γ.length (Δ.map (fun a => a.1)) t) (tl : TL (f + 1) t Γ Δ) (hΓ : Γ.length + (f + 1) ≤ 25) (hdp : dp + (f + 1) = 25) : RuC (d + 4 * f + 402) 109 X cnt Γ Δ f t v dp ((if bit (nMk t) 0 = true then TN f (nX t) Γ Δ else 0) + (if bit (nMk t) 1 = true then TN f (nY t) Γ Δ else 0) + (if bit (nMk t) 2 = true then TN f (nZ t) Γ Δ else 0) + 1) (rbd (if bit (nMk t) 0 = true then tyF f (nX t) Γ Δ else .inr .nil) (fun A => rbd (if bit (nMk t) 1 = true then tyF f (nY t) Γ Δ else .inr .nil) (fun B => rbd (if bit (nMk t) 2 = true then tyF f (nZ t) Γ Δ else .inr .nil) (fun C => .inr (some (tRec (nMk t) A B C)))))) [.ref 42, .int (zI v), .int (zI (Γ.length : Int)), .int (zI (dp : Int))] := by
  intro M Rf K L n s z cn Q hS hn hB h
  have hx := hS.hx
  have vr := hn.rng
  have c60 := hS.ct
  have c1 := hS.c1
  obtain ⟨m8, wp⟩ := tw.2.2.2.2.2.2.1 hk
  have key : ∀ (g : Nat) (B : Ty), g < 3 → (if bit (nMk t) g = true then tyF f (nP t g) Γ Δ else .inr .nil) = .inr B → okl Γ.length (nMk t) g B ∧ (flat B).length ≤ 16 := by
    intro g B hg hB
    unfold okl
    by_cases c : bit (nMk t) g = true
    · rw [if_pos c] at hB ⊢
      exact tyF_ok f _ _ _ _ (wp g hg c) hS.te hB
    · rw [if_neg c] at hB ⊢
      injection hB with hB
      subst hB
      exact ⟨rfl, by decide⟩
  have cc0 := hS.c1
  have tp0 : 0 ≤ (((if bit (nMk t) 0 = true then TN f (nX t) Γ Δ else 0) : Nat) : Int) := by omega
  have tp1 : 0 ≤ (((if bit (nMk t) 1 = true then TN f (nY t) Γ Δ else 0) : Nat) : Int) := by omega
  have tp2 : 0 ≤ (((if bit (nMk t) 2 = true then TN f (nZ t) Γ Δ else 0) : Nat) : Int) := by omega
  refine wc_in (ls0 := [some (.ref 42), some (.int (zI v)), some (.int (zI (Γ.length : Int))), some (.int (zI (dp : Int))), none, none, none]) (by decide) (Nat.le_of_ble_eq_true rfl) rfl rfl ?_
  refine wp_aload_n d109_0 rfl ?_
  refine wp_iload_n d109_1 rfl ?_
  refine wz_iconst d109_2 ?_
  refine wp_iload_n d109_3 rfl ?_
  refine wp_iload_n d109_4 rfl ?_
  refine wp_virt (as := [.int (zI (dp : Int)), .int (zI (Γ.length : Int)), .int (zI 0), .int (zI v)]) (rest := []) d109_5 rfl rfl rfl (hS.g.o (by decide) rfl) rfl rfl (Nat.le_of_ble_eq_true rfl) ?_
  rw [show (0 : Int) = ((0 : Nat) : Int) by rfl]
  refine wc_deep (show d + 4 * f + 401 ≤ d + 4 * f + 401 by omega) ?_
  refine c_ofPart (g := 0) IH hk tw tl hΓ hdp (by decide) hS hn (by show _ + (((if bit (nMk t) 0 = true then TN f (nX t) Γ Δ else 0) : Nat) : Int) + 1300 ≤ 16384; omega) (fun M1 R1 K1 L1 n1 s1 z1 cn1 r1 xx1 u11 u21 u31 u41 ql1 qr1 => ?_)
  have u31 : cn1 ≤ cn + (((if bit (nMk t) 0 = true then TN f (nX t) Γ Δ else 0) : Nat) : Int) := u31
  have ql1 : ∀ q, (if bit (nMk t) 0 = true then tyF f (nX t) Γ Δ else .inr .nil) = .inl q → r1 = -1 ∧ M1 42 2 = (q : Int) := ql1
  have qr1 : ∀ A, (if bit (nMk t) 0 = true then tyF f (nX t) Γ Δ else .inr .nil) = .inr A → _ := qr1
  have cx1 := xx1
  cases hy1 : (if bit (nMk t) 0 = true then tyF f (nX t) Γ Δ else .inr .nil) with
  | inl q =>
    rw [hy1] at h
    obtain ⟨e1, e2⟩ := ql1 q hy1
    subst e1
    refine wp_istore d109_8 (Nat.le_of_ble_eq_true rfl) rfl ?_
    refine wp_iload d109_10 rfl ?_
    refine wz_iconst d109_12 ?_
    refine wz_icmp_ne (t := 20) d109_13 (by decide) ⟨by omega, by omega⟩ ⟨by omega, by omega⟩ (fun hb => absurd (rfl) hb) (fun _ => ?_)
    refine wz_iconst d109_16 ?_
    refine wp_goto (t := 28) d109_17 (by decide) ?_
    refine wp_istore d109_28 (Nat.le_of_ble_eq_true rfl) rfl ?_
    refine wp_iload d109_30 rfl ?_
    refine wz_iconst d109_32 ?_
    refine wz_icmp_ne (t := 40) d109_33 (by decide) ⟨by omega, by omega⟩ ⟨by omega, by omega⟩ (fun hb => absurd (rfl) hb) (fun _ => ?_)
    refine wz_iconst d109_36 ?_
    refine wp_goto (t := 48) d109_37 (by decide) ?_
    refine wp_istore d109_48 (Nat.le_of_ble_eq_true rfl) rfl ?_
    refine wp_iload d109_50 rfl ?_
    refine wz_iconst d109_52 ?_
    refine wz_icmp_ne (t := 60) d109_53 (by decide) ⟨by omega, by omega⟩ ⟨by omega, by omega⟩ (fun hb => absurd (rfl) hb) (fun _ => ?_)
    refine wz_iconst d109_56 ?_
    refine wp_goto (t := 85) d109_57 (by decide) ?_
    exact wp_ret d109_85 rfl (h M1 R1 K1 L1 n1 s1 z1 cn1 (-1) cx1 u11 (by omega) (by omega) u41 ⟨rfl, e2⟩)
  | inr A1 =>
  rw [hy1] at h
  obtain ⟨S1, N1, rr1, nn1⟩ := qr1 A1 hy1
  have cz1 := S1.c1
  have ky1 := key 0 A1 (by decide) hy1
  refine wp_istore d109_8 (Nat.le_of_ble_eq_true rfl) rfl ?_
  refine wp_iload d109_10 rfl ?_
  refine wz_iconst d109_12 ?_
  refine wz_icmp_ne (t := 20) d109_13 (by decide) ⟨by omega, by omega⟩ ⟨by omega, by omega⟩ (fun _ => ?_) (fun hb => absurd hb (by omega))
  refine wp_aload_n d109_20 rfl ?_
  refine wp_iload_n d109_21 rfl ?_
  refine wz_iconst d109_22 ?_
  refine wp_iload_n d109_23 rfl ?_
  refine wp_iload_n d109_24 rfl ?_
  refine wp_virt (as := [.int (zI (dp : Int)), .int (zI (Γ.length : Int)), .int (zI 1), .int (zI v)]) (rest := []) d109_25 rfl rfl rfl (S1.g.o (by decide) rfl) rfl rfl (Nat.le_of_ble_eq_true rfl) ?_
  rw [show (1 : Int) = ((1 : Nat) : Int) by rfl]
  refine wc_deep (show d + 4 * f + 401 ≤ d + 4 * f + 401 by omega) ?_
  refine c_ofPart (g := 1) IH hk tw tl hΓ hdp (by decide) S1 N1 (by show _ + (((if bit (nMk t) 1 = true then TN f (nY t) Γ Δ else 0) : Nat) : Int) + 1300 ≤ 16384; omega) (fun M2 R2 K2 L2 n2 s2 z2 cn2 r2 xx2 u12 u22 u32 u42 ql2 qr2 => ?_)
  have u32 : cn2 ≤ cn1 + (((if bit (nMk t) 1 = true then TN f (nY t) Γ Δ else 0) : Nat) : Int) := u32
  have ql2 : ∀ q, (if bit (nMk t) 1 = true then tyF f (nY t) Γ Δ else .inr .nil) = .inl q → r2 = -1 ∧ M2 42 2 = (q : Int) := ql2
  have qr2 : ∀ A, (if bit (nMk t) 1 = true then tyF f (nY t) Γ Δ else .inr .nil) = .inr A → _ := qr2
  have cx2 := cx1.trans xx2 (by omega)
  cases hy2 : (if bit (nMk t) 1 = true then tyF f (nY t) Γ Δ else .inr .nil) with
  | inl q =>
    rw [hy2] at h
    obtain ⟨e1, e2⟩ := ql2 q hy2
    subst e1
    refine wp_istore d109_28 (Nat.le_of_ble_eq_true rfl) rfl ?_
    refine wp_iload d109_30 rfl ?_
    refine wz_iconst d109_32 ?_
    refine wz_icmp_ne (t := 40) d109_33 (by decide) ⟨by omega, by omega⟩ ⟨by omega, by omega⟩ (fun hb => absurd (rfl) hb) (fun _ => ?_)
    refine wz_iconst d109_36 ?_
    refine wp_goto (t := 48) d109_37 (by decide) ?_
    refine wp_istore d109_48 (Nat.le_of_ble_eq_true rfl) rfl ?_
    refine wp_iload d109_50 rfl ?_
    refine wz_iconst d109_52 ?_
    refine wz_icmp_ne (t := 60) d109_53 (by decide) ⟨by omega, by omega⟩ ⟨by omega, by omega⟩ (fun hb => absurd (rfl) hb) (fun _ => ?_)
    refine wz_iconst d109_56 ?_
    refine wp_goto (t := 85) d109_57 (by decide) ?_
    exact wp_ret d109_85 rfl (h M2 R2 K2 L2 n2 s2 z2 cn2 (-1) cx2 u12 (by omega) (by omega) u42 ⟨rfl, e2⟩)
  | inr A2 =>
  rw [hy2] at h
  obtain ⟨S2, N2, rr2, nn2⟩ := qr2 A2 hy2
  have cz2 := S2.c1
  have ky2 := key 1 A2 (by decide) hy2
  refine wp_istore d109_28 (Nat.le_of_ble_eq_true rfl) rfl ?_
  refine wp_iload d109_30 rfl ?_
  refine wz_iconst d109_32 ?_
  refine wz_icmp_ne (t := 40) d109_33 (by decide) ⟨by omega, by omega⟩ ⟨by omega, by omega⟩ (fun _ => ?_) (fun hb => absurd hb (by omega))
  refine wp_aload_n d109_40 rfl ?_
  refine wp_iload_n d109_41 rfl ?_
  refine wz_iconst d109_42 ?_
  refine wp_iload_n d109_43 rfl ?_
  refine wp_iload_n d109_44 rfl ?_
  refine wp_virt (as := [.int (zI (dp : Int)), .int (zI (Γ.length : Int)), .int (zI 2), .int (zI v)]) (rest := []) d109_45 rfl rfl rfl (S2.g.o (by decide) rfl) rfl rfl (Nat.le_of_ble_eq_true rfl) ?_
  rw [show (2 : Int) = ((2 : Nat) : Int) by rfl]
  refine wc_deep (show d + 4 * f + 401 ≤ d + 4 * f + 401 by omega) ?_
  refine c_ofPart (g := 2) IH hk tw tl hΓ hdp (by decide) S2 N2 (by show _ + (((if bit (nMk t) 2 = true then TN f (nZ t) Γ Δ else 0) : Nat) : Int) + 1300 ≤ 16384; omega) (fun M3 R3 K3 L3 n3 s3 z3 cn3 r3 xx3 u13 u23 u33 u43 ql3 qr3 => ?_)
  have u33 : cn3 ≤ cn2 + (((if bit (nMk t) 2 = true then TN f (nZ t) Γ Δ else 0) : Nat) : Int) := u33
  have ql3 : ∀ q, (if bit (nMk t) 2 = true then tyF f (nZ t) Γ Δ else .inr .nil) = .inl q → r3 = -1 ∧ M3 42 2 = (q : Int) := ql3
  have qr3 : ∀ A, (if bit (nMk t) 2 = true then tyF f (nZ t) Γ Δ else .inr .nil) = .inr A → _ := qr3
  have cx3 := cx2.trans xx3 (by omega)
  cases hy3 : (if bit (nMk t) 2 = true then tyF f (nZ t) Γ Δ else .inr .nil) with
  | inl q =>
    rw [hy3] at h
    obtain ⟨e1, e2⟩ := ql3 q hy3
    subst e1
    refine wp_istore d109_48 (Nat.le_of_ble_eq_true rfl) rfl ?_
    refine wp_iload d109_50 rfl ?_
    refine wz_iconst d109_52 ?_
    refine wz_icmp_ne (t := 60) d109_53 (by decide) ⟨by omega, by omega⟩ ⟨by omega, by omega⟩ (fun hb => absurd (rfl) hb) (fun _ => ?_)
    refine wz_iconst d109_56 ?_
    refine wp_goto (t := 85) d109_57 (by decide) ?_
    exact wp_ret d109_85 rfl (h M3 R3 K3 L3 n3 s3 z3 cn3 (-1) cx3 u13 (by omega) (by omega) u43 ⟨rfl, e2⟩)
  | inr A3 =>
  rw [hy3] at h
  obtain ⟨S3, N3, rr3, nn3⟩ := qr3 A3 hy3
  have cz3 := S3.c1
  have ky3 := key 2 A3 (by decide) hy3
  refine wp_istore d109_48 (Nat.le_of_ble_eq_true rfl) rfl ?_
  refine wp_iload d109_50 rfl ?_
  refine wz_iconst d109_52 ?_
  refine wz_icmp_ne (t := 60) d109_53 (by decide) ⟨by omega, by omega⟩ ⟨by omega, by omega⟩ (fun _ => ?_) (fun hb => absurd hb (by omega))
  have tm3 := hS.tm cx3 (fun _ _ w => w)
  have p2 : M3 (X + 1 + 2) v = (nMk t : Int) := (tm3 _ (by omega) (by omega) v).trans (hn.2.2.2.2.1 (by omega))
  have hpr := hp_rec m8 A1 A2 A3
  obtain ⟨pr0, pr1, pr2⟩ := pt_rec m8 A1 A2 A3
  have n13 : bit (nMk t) 0 = true → ndf M3 R3 cn3 16 A1 r1 := fun q => ndf_mono xx3.nodes u23 (Nat.le_refl _) (ndf_mono xx2.nodes u22 (Nat.le_refl _) (nn1 q))
  have n23 : bit (nMk t) 1 = true → ndf M3 R3 cn3 16 A2 r2 := fun q => ndf_mono xx3.nodes u23 (Nat.le_refl _) (nn2 q)
  have oR : ok Γ.length (tRec (nMk t) A1 A2 A3) = true := (ok_rec m8).mpr ⟨ky1.1, ky2.1, ky3.1⟩
  have ccR : cc (hd (tRec (nMk t) A1 A2 A3)) = 8 + nMk t := by rw [hd_rec, cc_rec m8]
  have X0f : XF M3 R3 cn3 16 (tRec (nMk t) A1 A2 A3) 0 r1 := ⟨rr1.1, by omega, fun hb => by rw [hpr 0 (by decide)] at hb; rw [pr0]; exact n13 hb⟩
  have X1f : XF M3 R3 cn3 16 (tRec (nMk t) A1 A2 A3) 1 r2 := ⟨rr2.1, by omega, fun hb => by rw [hpr 1 (by decide)] at hb; rw [pr1]; exact n23 hb⟩
  have X2f : XF M3 R3 cn3 16 (tRec (nMk t) A1 A2 A3) 2 r3 := ⟨rr3.1, by omega, fun hb => by rw [hpr 2 (by decide)] at hb; rw [pr2]; exact nn3 hb⟩
  have q0 := X0f.size oR (by decide)
  have q1 := X1f.size oR (by decide)
  have q2 := X2f.size oR (by decide)
  have lp := len_pts oR
  rw [pr0, pr1, pr2] at lp
  rw [pr0] at q0
  rw [pr1] at q1
  rw [pr2] at q2
  have lR : (flat (tRec (nMk t) A1 A2 A3)).length ≤ 1000000 := by
    have := ky1.2
    have := ky2.2
    have := ky3.2
    omega
  have kl1 := ky1.2
  have kl2 := ky2.2
  have kl3 := ky3.2
  refine wp_aload_n d109_60 rfl ?_
  refine wp_getR (q := 6) d109_61 rfl (S3.g.o (by decide) rfl) (by decide) (S3.g.r (by decide +kernel)) (by decide) ?_
  refine wz_bipush d109_64 (by decide) ?_
  refine wp_aload_n d109_66 rfl ?_
  refine wp_getR (q := X) d109_67 rfl (S3.g.o (by decide) rfl) (by decide) S3.rx (by have := S3.hx; omega) ?_
  refine wp_getR (q := X + 1 + 2) d109_70 rfl (S3.g.tm S3.hx) (by decide) (S3.g.tr S3.hx (by decide)) (by omega) ?_
  refine wp_iload_n d109_73 rfl ?_
  refine wz_iald (z := 60) (v := (nMk t : Int)) d109_74 (S3.g.ta S3.hx (by decide)) (by omega) (by omega) (by omega) (p2) ?_
  refine wz_iadd d109_75 ?_
  rw [show (8 : Int) + (nMk t : Int) = ((cc (hd (tRec (nMk t) A1 A2 A3)) : Nat) : Int) by rw [ccR]; omega]
  refine wp_iload d109_76 rfl ?_
  refine wp_iload d109_78 rfl ?_
  refine wp_iload d109_80 rfl ?_
  refine wp_virt (as := [.int (zI r3), .int (zI r2), .int (zI r1), .int (zI (((cc (hd (tRec (nMk t) A1 A2 A3)) : Nat) : Int)))]) (rest := []) d109_82 rfl rfl rfl (S3.g.o (by decide) rfl) rfl rfl (Nat.le_of_ble_eq_true rfl) ?_
  refine wc_deep (show 0 + 3 ≤ d + 4 * f + 401 by omega) ?_
  refine c_make (c := cc (hd (tRec (nMk t) A1 A2 A3))) S3.g S3.r S3.m S3.m6 cz3.2.1 (by omega) (cc_small oR (by omega)) X0f.1 X0f.2.1 X1f.1 X1f.2.1 X2f.1 X2f.2.1 (by rw [q0]; omega) (by rw [q1]; omega) (by rw [q2]; omega) (fun M9 R9 K9 L9 n9 s9 z9 mk => ?_)
  have nd9 := mk.ndf oR (by omega) X0f X1f X2f
  have mcx := mk.cx
  obtain ⟨-, m6, mz, -⟩ := mk
  have bp9 : M9 42 2 = -1 := (mcx.mem 42 (by have := S3.g.1; omega) (fun g hg => by have := S3.r.2.1 g hg; omega) 2 (by omega)).trans S3.bp
  exact wp_ret d109_85 rfl (h M9 R9 K9 L9 n9 s9 z9 (cn3 + 1) cn3 (cx3.trans (mcx.weak (fun p i w => Or.inl w)) (by omega)) m6 (by omega) (by omega) mz (RO.of bp9 oR lR nd9))
/-- places of terms -/
def PLk : Nat → Ty → Prop
  | 0, _ => True
  | f + 1, t => nPl t ≤ 100 ∧ ∀ g, g < 3 → sk (nKd t) (nMk t) g = 1 → PLk f (nP t g)
theorem tyF_pl : ∀ (f : Nat) (t : Ty) (Γ : List Ty) (Δ : List (Nat × Ty × Nat)) (q : Nat), TWf f Γ.length (Δ.map (fun a => a.1)) t → PLk f t → tyF f t Γ Δ = .inl q → q ≤ 100
  | 0, _, _, _, _, h, _, _ => h.elim
  | f + 1, t, Γ, Δ, q, tw, hp, h => by
    have ih := fun t' Γ' Δ' => tyF_pl f t' Γ' Δ' q
    obtain ⟨w0, w5, w6, w7, w8, w9, w10, w11, w12⟩ := tw
    obtain ⟨p0, pp⟩ := hp
    have hO : ∀ o, tyO (nPl t) o = .inl q → q ≤ 100 := by
      intro o ho
      cases o with
      | none => injection ho with ho; omega
      | some A =>
        have ho : szt (nPl t) A = .inl q := ho
        unfold szt at ho
        by_cases c : (flat A).length ≤ 16
        · rw [if_pos c] at ho; cases ho
        · rw [if_neg c] at ho; injection ho with ho; omega
    have hT : ∀ (a : Sum Nat Ty) (g : Ty → Sum Nat Ty), tbd a g = .inl q → a = .inl q ∨ ∃ A, a = .inr A ∧ g A = .inl q := by
      intro a g hg
      cases a with
      | inl x => left; exact hg
      | inr A => right; exact ⟨A, rfl, hg⟩
    unfold tyF at h
    by_cases c5 : nKd t = 5
    · rw [if_pos c5] at h; exact hO _ h
    rw [if_neg c5] at h
    by_cases c6 : nKd t = 6
    · rw [if_pos c6] at h
      rcases hT _ _ h with e | ⟨A, -, e⟩
      · exact ih _ Γ ((nPl t, nX t, Γ.length) :: Δ) (w6 c6).2.2.2 (pp 1 (by decide) (by rw [c6]; rfl)) e
      · exact hO (some (tFun (nX t) A)) e
    rw [if_neg c6] at h
    by_cases c7 : nKd t = 7
    · rw [if_pos c7] at h
      rcases hT _ _ h with e | ⟨A, -, e⟩
      · exact ih _ Γ Δ (w7 (Or.inl c7)).1 (pp 0 (by decide) (by rw [c7]; rfl)) e
      · rcases hT _ _ e with e | ⟨B, -, e⟩
        · exact ih _ Γ Δ (w7 (Or.inl c7)).2 (pp 1 (by decide) (by rw [c7]; rfl)) e
        · exact hO _ e
    rw [if_neg c7] at h
    by_cases c8 : nKd t = 8
    · rw [if_pos c8] at h
      rcases hT _ _ h with e | ⟨A, -, e⟩
      · exact ih _ (nX t :: Γ) Δ (w8 c8).2.2 (pp 1 (by decide) (by rw [c8]; rfl)) e
      · exact hO (some (tAll (nX t) A)) e
    rw [if_neg c8] at h
    by_cases c9 : nKd t = 9
    · rw [if_pos c9] at h
      rcases hT _ _ h with e | ⟨A, -, e⟩
      · exact ih _ Γ Δ (w9 c9).1 (pp 0 (by decide) (by rw [c9]; rfl)) e
      · exact hO _ e
    rw [if_neg c9] at h
    by_cases c10 : nKd t = 10
    · rw [if_pos c10] at h
      have part : ∀ (g : Nat), g < 3 → (if bit (nMk t) g = true then tyF f (nP t g) Γ Δ else .inr .nil) = .inl q → q ≤ 100 := by
        intro g hg e
        by_cases c : bit (nMk t) g = true
        · rw [if_pos c] at e
          exact ih _ Γ Δ ((w10 c10).2 g hg c) (pp g hg (by rw [c10]; exact sk_rec.1.mpr c)) e
        · rw [if_neg c] at e; cases e
      rcases hT _ _ h with e | ⟨A, -, e⟩
      · exact part 0 (by decide) e
      · rcases hT _ _ e with e | ⟨B, -, e⟩
        · exact part 1 (by decide) e
        · rcases hT _ _ e with e | ⟨C, -, e⟩
          · exact part 2 (by decide) e
          · exact hO (some (tRec (nMk t) A B C)) e
    rw [if_neg c10] at h
    by_cases c11 : nKd t = 11
    · rw [if_pos c11] at h
      rcases hT _ _ h with e | ⟨A, -, e⟩
      · exact ih _ Γ Δ (w11 c11).2 (pp 0 (by decide) (by rw [c11]; rfl)) e
      · exact hO _ e
    rw [if_neg c11] at h
    have c12 : nKd t = 12 := by omega
    rcases hT _ _ h with e | ⟨A, -, e⟩
    · exact ih _ Γ Δ (w7 (Or.inr c12)).1 (pp 0 (by decide) (by rw [c12]; rfl)) e
    · rcases hT _ _ e with e | ⟨B, -, e⟩
      · exact ih _ Γ Δ (w7 (Or.inr c12)).2 (pp 1 (by decide) (by rw [c12]; rfl)) e
      · exact hO _ e
theorem CNd.plk {M : pm_M} {lo cnt : Int} {P : Ty → Int → Prop} (hM : ∀ i : Int, lo ≤ i → i < cnt → M (X + 2) i ≤ 100) : ∀ {f : Nat} {t : Ty} {v : Int}, CNd M X lo cnt P f t v → PLk f t
  | 0, _, _, _ => trivial
  | f + 1, t, v, h => ⟨by have := hM v h.1.1 h.1.2; rw [h.2.2.2.1] at this; omega, fun g hg hs => CNd.plk hM ((h.2.2.2.2.2.2 g hg).1 hs)⟩
end PmE8
section PmE9
theorem c_findAll (d X cnt : Nat) : ∀ f, FdC d X cnt f
  | 0 => fun t v Γ Δ dp M Rf K L n s z cn Q hS hn => hn.elim
  | f + 1 => fun t v Γ Δ dp M Rf K L n s z cn Q hS hn tw tl hΓ hdp hB h => by
    have IH := c_findAll d X cnt f
    have w0 := tw.1
    have pl : PLk (f + 1) t := CNd.plk (fun i i0 i1 => by have := hS.pi.1 i i0 i1; omega) hn
    have lv : d + 4 * (f + 1) + 400 = d + 4 * f + 402 + 2 := by omega
    rw [lv]
    have hpl := pl.1
    have fin : ∀ (o : Sum Nat (Option Ty)), fnl (nPl t) o = tyF (f + 1) t Γ Δ → ∀ q, o = .inl q → q ≤ 100 := by
      intro o ho q hq
      rw [hq] at ho
      exact tyF_pl (f + 1) t Γ Δ q tw pl ho.symm
    by_cases hk0 : nKd t = 5
    · have hk := hk0
      have e1 := (show tyF (f + 1) t Γ Δ = _ from if_pos hk)
      have e2 := (show TN (f + 1) t Γ Δ = _ from if_pos hk)
      have eo : fnl (nPl t) (.inr ((dlk Δ (nMk t)).map (fun a => lft a.2 (Γ.length - a.2) a.1))) = tyF (f + 1) t Γ Δ := by
        rw [e1]
        rfl
      rw [e2] at hB h
      rw [← eo] at h
      exact c_find0 hS hn hk (by omega) hpl (fin _ eo) (by omega) hB (ru_var hk tw tl hΓ hdp) h
    by_cases hk1 : nKd t = 6
    · have hk := hk1
      have e1 := (show tyF (f + 1) t Γ Δ = _ from (if_neg (show ¬ nKd t = 5 by omega)).trans (if_pos hk))
      have e2 := (show TN (f + 1) t Γ Δ = _ from (if_neg (show ¬ nKd t = 5 by omega)).trans (if_pos hk))
      have eo : fnl (nPl t) (rbd (tyF f (nY t) Γ ((nPl t, nX t, Γ.length) :: Δ)) (fun B => .inr (some (tFun (nX t) B)))) = tyF (f + 1) t Γ Δ := by
        rw [e1]
        simp only [fnl_rbd]; rfl
      rw [e2] at hB h
      rw [← eo] at h
      exact c_find1 hS hn hk (by omega) hpl (fin _ eo) (by omega) hB (ru_fun IH hk tw tl hΓ hdp) h
    by_cases hk2 : nKd t = 7
    · have hk := hk2
      have e1 := (show tyF (f + 1) t Γ Δ = _ from (if_neg (show ¬ nKd t = 5 by omega)).trans ((if_neg (show ¬ nKd t = 6 by omega)).trans (if_pos hk)))
      have e2 := (show TN (f + 1) t Γ Δ = _ from (if_neg (show ¬ nKd t = 5 by omega)).trans ((if_neg (show ¬ nKd t = 6 by omega)).trans (if_pos hk)))
      have eo : fnl (nPl t) (rbd (tyF f (nX t) Γ Δ) (fun A => rbd (tyF f (nY t) Γ Δ) (fun B => .inr (tyA Γ (expo Γ Γ.length A) B)))) = tyF (f + 1) t Γ Δ := by
        rw [e1]
        simp only [fnl_rbd]; rfl
      rw [e2] at hB h
      rw [← eo] at h
      exact c_find2 hS hn hk (by omega) hpl (fin _ eo) (by omega) hB (ru_app IH hk tw tl hΓ hdp) h
    by_cases hk3 : nKd t = 8
    · have hk := hk3
      have e1 := (show tyF (f + 1) t Γ Δ = _ from (if_neg (show ¬ nKd t = 5 by omega)).trans ((if_neg (show ¬ nKd t = 6 by omega)).trans ((if_neg (show ¬ nKd t = 7 by omega)).trans (if_pos hk))))
      have e2 := (show TN (f + 1) t Γ Δ = _ from (if_neg (show ¬ nKd t = 5 by omega)).trans ((if_neg (show ¬ nKd t = 6 by omega)).trans ((if_neg (show ¬ nKd t = 7 by omega)).trans (if_pos hk))))
      have eo : fnl (nPl t) (rbd (tyF f (nY t) (nX t :: Γ) Δ) (fun B => .inr (some (tAll (nX t) B)))) = tyF (f + 1) t Γ Δ := by
        rw [e1]
        simp only [fnl_rbd]; rfl
      rw [e2] at hB h
      rw [← eo] at h
      exact c_find3 hS hn hk (by omega) hpl (fin _ eo) (by omega) hB (ru_all IH hk tw tl hΓ hdp) h
    by_cases hk4 : nKd t = 9
    · have hk := hk4
      have e1 := (show tyF (f + 1) t Γ Δ = _ from (if_neg (show ¬ nKd t = 5 by omega)).trans ((if_neg (show ¬ nKd t = 6 by omega)).trans ((if_neg (show ¬ nKd t = 7 by omega)).trans ((if_neg (show ¬ nKd t = 8 by omega)).trans (if_pos hk)))))
      have e2 := (show TN (f + 1) t Γ Δ = _ from (if_neg (show ¬ nKd t = 5 by omega)).trans ((if_neg (show ¬ nKd t = 6 by omega)).trans ((if_neg (show ¬ nKd t = 7 by omega)).trans ((if_neg (show ¬ nKd t = 8 by omega)).trans (if_pos hk)))))
      have eo : fnl (nPl t) (rbd (tyF f (nX t) Γ Δ) (fun A => .inr (tyI Γ (expo Γ Γ.length A) (nY t)))) = tyF (f + 1) t Γ Δ := by
        rw [e1]
        simp only [fnl_rbd]; rfl
      rw [e2] at hB h
      rw [← eo] at h
      exact c_find4 hS hn hk (by omega) hpl (fin _ eo) (by omega) hB (ru_at IH hk tw tl hΓ hdp) h
    by_cases hk5 : nKd t = 10
    · have hk := hk5
      have e1 := (show tyF (f + 1) t Γ Δ = _ from (if_neg (show ¬ nKd t = 5 by omega)).trans ((if_neg (show ¬ nKd t = 6 by omega)).trans ((if_neg (show ¬ nKd t = 7 by omega)).trans ((if_neg (show ¬ nKd t = 8 by omega)).trans ((if_neg (show ¬ nKd t = 9 by omega)).trans (if_pos hk))))))
      have e2 := (show TN (f + 1) t Γ Δ = _ from (if_neg (show ¬ nKd t = 5 by omega)).trans ((if_neg (show ¬ nKd t = 6 by omega)).trans ((if_neg (show ¬ nKd t = 7 by omega)).trans ((if_neg (show ¬ nKd t = 8 by omega)).trans ((if_neg (show ¬ nKd t = 9 by omega)).trans (if_pos hk))))))
      have eo : fnl (nPl t) (rbd (if bit (nMk t) 0 = true then tyF f (nX t) Γ Δ else .inr .nil) (fun A => rbd (if bit (nMk t) 1 = true then tyF f (nY t) Γ Δ else .inr .nil) (fun B => rbd (if bit (nMk t) 2 = true then tyF f (nZ t) Γ Δ else .inr .nil) (fun C => .inr (some (tRec (nMk t) A B C)))))) = tyF (f + 1) t Γ Δ := by
        rw [e1]
        simp only [fnl_rbd]; rfl
      rw [e2] at hB h
      rw [← eo] at h
      exact c_find5 hS hn hk (by omega) hpl (fin _ eo) (by omega) hB (ru_rec IH hk tw tl hΓ hdp) h
    by_cases hk6 : nKd t = 11
    · have hk := hk6
      have e1 := (show tyF (f + 1) t Γ Δ = _ from (if_neg (show ¬ nKd t = 5 by omega)).trans ((if_neg (show ¬ nKd t = 6 by omega)).trans ((if_neg (show ¬ nKd t = 7 by omega)).trans ((if_neg (show ¬ nKd t = 8 by omega)).trans ((if_neg (show ¬ nKd t = 9 by omega)).trans ((if_neg (show ¬ nKd t = 10 by omega)).trans (if_pos hk)))))))
      have e2 := (show TN (f + 1) t Γ Δ = _ from (if_neg (show ¬ nKd t = 5 by omega)).trans ((if_neg (show ¬ nKd t = 6 by omega)).trans ((if_neg (show ¬ nKd t = 7 by omega)).trans ((if_neg (show ¬ nKd t = 8 by omega)).trans ((if_neg (show ¬ nKd t = 9 by omega)).trans ((if_neg (show ¬ nKd t = 10 by omega)).trans (if_pos hk)))))))
      have eo : fnl (nPl t) (rbd (tyF f (nX t) Γ Δ) (fun A => .inr (tyD (nMk t) (expo Γ Γ.length A)))) = tyF (f + 1) t Γ Δ := by
        rw [e1]
        simp only [fnl_rbd]; rfl
      rw [e2] at hB h
      rw [← eo] at h
      exact c_find6 hS hn hk (by omega) hpl (fin _ eo) (by omega) hB (ru_dot IH hk tw tl hΓ hdp) h
    by_cases hk7 : nKd t = 12
    · have hk := hk7
      have e1 := (show tyF (f + 1) t Γ Δ = _ from (if_neg (show ¬ nKd t = 5 by omega)).trans ((if_neg (show ¬ nKd t = 6 by omega)).trans ((if_neg (show ¬ nKd t = 7 by omega)).trans ((if_neg (show ¬ nKd t = 8 by omega)).trans ((if_neg (show ¬ nKd t = 9 by omega)).trans ((if_neg (show ¬ nKd t = 10 by omega)).trans ((if_neg (show ¬ nKd t = 11 by omega)).trans (rfl))))))))
      have e2 := (show TN (f + 1) t Γ Δ = _ from (if_neg (show ¬ nKd t = 5 by omega)).trans ((if_neg (show ¬ nKd t = 6 by omega)).trans ((if_neg (show ¬ nKd t = 7 by omega)).trans ((if_neg (show ¬ nKd t = 8 by omega)).trans ((if_neg (show ¬ nKd t = 9 by omega)).trans ((if_neg (show ¬ nKd t = 10 by omega)).trans ((if_neg (show ¬ nKd t = 11 by omega)).trans (rfl))))))))
      have eo : fnl (nPl t) (rbd (tyF f (nX t) Γ Δ) (fun A => rbd (tyF f (nY t) Γ Δ) (fun B => .inr (cmu 0 Γ A B)))) = tyF (f + 1) t Γ Δ := by
        rw [e1]
        simp only [fnl_rbd]; rfl
      rw [e2] at hB h
      rw [← eo] at h
      exact c_find7 hS hn hk (by omega) hpl (fin _ eo) (by omega) hB (ru_either IH hk tw tl hΓ hdp) h
    omega
end PmE9
