/-! THE MODEL: a value comes back. -/
theorem mvR_7c {t ρ w v : Ty} {g : Nat} {k : List Fr} (h : nKd t = 7) (hg : g ≠ 0) : mv (.inr (v, (t, ρ, w, g) :: k)) = if isC w 6 = true then some (true, .inl (nY (cT w), eN (nPl (cT w)) v (cE w), k)) else none := by
  show mvR v ((t, ρ, w, g) :: k) = _
  rw [mvR, if_pos h, if_neg hg]
theorem mvR_9c {t ρ w v : Ty} {g : Nat} {k : List Fr} (h : nKd t = 9) : mv (.inr (v, (t, ρ, w, g) :: k)) = if isC v 8 = true then some (true, .inl (nY (cT v), cE v, k)) else none := by
  show mvR v ((t, ρ, w, g) :: k) = _
  rw [mvR, if_neg (by omega), if_pos h]
theorem mvR_11c {t ρ w v : Ty} {g : Nat} {k : List Fr} (h : nKd t = 11) : mv (.inr (v, (t, ρ, w, g) :: k)) = if isR v (nMk t) = true then some (true, .inr (rP v (nMk t), k)) else none := by
  show mvR v ((t, ρ, w, g) :: k) = _
  rw [mvR, if_neg (by omega), if_neg (by omega), if_pos h]
theorem mvR_7d {t ρ w v : Ty} {k : List Fr} {g : Nat} (h : nKd t = 7) (hg : g = 0) : mv (.inr (v, (t, ρ, w, g) :: k)) = some (false, .inl (nY t, ρ, (t, ρ, v, 1) :: k)) := by
  subst hg
  exact mvR_7a h
section PmG16
variable {d : Nat} {Q : Option Value → pm_S → Prop} {N : pm_M} {Rf : Nat → Nat → Nat} {K L : Nat → Nat} {n s0 : Nat} {a b st : Nat} {t ρ w v : Ty} {k : List Fr} {mb : Int} {vs es q g pc : Nat} {H : Int → Option Ty}
theorem m_back10 (hG : pm_G Rf K L n) (hM : ∀ p i, R32 (N p i)) (a6 : a ≤ 60) (b6 : b ≤ 60) (st6 : st ≤ 60) (mb1 : mb = 0 ∨ mb = 1) (br : BR N a b st vs es (q + 1) H ((t, ρ, w, g) :: k) (pdF (t, ρ, w, g) + pdK k)) (e49 : N 56 49 = 1) (hv : H (N 56 48) = some v) (hk : nKd t = 10) (h : ∀ c' N', mv (.inr (v, (t, ρ, w, g) :: k)) = some (false, c') → (∀ p i, R32 (N' p i)) → MKr N N' → CR N' a b st c' → Q (some (.int (zI 1))) (zM N', Rf, K, L, n, s0)) : pm_Wc (d + 4) 205 [.ref 56, .int (zI mb)] (zM N, Rf, K, L, n, s0) Q := by
  obtain ⟨q', eq', fm⟩ := br.top
  have eq' : q' = q := by omega
  subst eq'
  obtain ⟨f1, f2, j, s, ch, nv, ea, f5, f6, f7⟩ := fm
  have f1 : N 94 (q' : Int) = (nKd t : Int) := f1
  have nv : NV N a b t j s ch := nv
  have ea : EA N es H ch ρ (N 96 (q' : Int)) s := ea
  have brc := br
  obtain ⟨⟨c1, c2, c3⟩, hh, ⟨b1, b2, b3⟩, -⟩ := brc
  have pt1 := pnd_is nv.sp
  have jl := nv.lt
  have ln := nv.len
  have r48 := hM 56 48
  have hr := (hh _ _ hv).1
  have q4 : (q' : Int) < 4000 := by omega
  have e59 : N 56 59 = (q' : Int) + 1 := by rw [c3]; rfl
  have r97 := hM 97 (q' : Int)
  refine wc_in (ls0 := [some (.ref 56), some (.int (zI mb)), none, none, none, none]) (by decide) (Nat.le_of_ble_eq_true rfl) rfl rfl ?_
  refine wp_aload_n d205_0 rfl ?_
  refine wz_getI (v := (q' : Int) + 1) d205_1 rfl (hG.o (by decide) rfl) (by decide) (e59) ?_
  refine wz_iconst d205_4 ?_
  refine wz_isub d205_5 ?_
  refine wp_istore_n d205_6 (Nat.le_of_ble_eq_true rfl) rfl ?_
  refine wp_iload_n d205_7 rfl ?_
  refine wz_if_ge (t := 18) d205_8 (by decide) ⟨by omega, by omega⟩ (fun _ => ?_) (fun hb => absurd (by omega) hb)
  rw [show (q' : Int) + 1 - 1 = q' by omega]
  refine wp_aload_n d205_18 rfl ?_
  refine wp_getR (q := 94) d205_19 rfl (hG.o (by decide) rfl) (by decide) (hG.r (by decide +kernel)) (by decide) ?_
  refine wp_iload_n d205_22 rfl ?_
  refine wz_iald (z := 4000) (v := 10) d205_23 (hG.a (by decide) rfl rfl) (by omega) (by omega) (by decide) (by rw [f1, hk]; rfl) ?_
  refine wp_istore_n d205_24 (Nat.le_of_ble_eq_true rfl) rfl ?_
  refine wp_iload_n d205_25 rfl ?_
  refine wz_bipush d205_26 (by decide) ?_
  refine wz_icmp_ne (t := 38) d205_28 (by decide) ⟨by omega, by omega⟩ ⟨by omega, by omega⟩ (fun hb => absurd (by omega) hb) (fun _ => ?_)
  refine wp_aload_n d205_31 rfl ?_
  refine wp_iload_n d205_32 rfl ?_
  refine wp_virt (as := [.int (zI (q' : Int))]) (rest := []) d205_33 rfl rfl rfl (hG.o (by decide) rfl) rfl rfl (Nat.le_of_ble_eq_true rfl) ?_
  refine m_fillP (d := d) hG hM a6 b6 st6 hk br hv (fun N' hM' mk' cr' => ?_)
  refine wz_iconst d205_36 ?_
  exact wp_ret d205_37 rfl (h _ N' (mvR_10 hk) hM' mk' cr')
theorem m_back7a (hG : pm_G Rf K L n) (hM : ∀ p i, R32 (N p i)) (a6 : a ≤ 60) (b6 : b ≤ 60) (st6 : st ≤ 60) (mb1 : mb = 0 ∨ mb = 1) (br : BR N a b st vs es (q + 1) H ((t, ρ, w, g) :: k) (pdF (t, ρ, w, g) + pdK k)) (e49 : N 56 49 = 1) (hv : H (N 56 48) = some v) (hk : nKd t = 7) (hg : g = 0) (h : ∀ c' N', mv (.inr (v, (t, ρ, w, g) :: k)) = some (false, c') → (∀ p i, R32 (N' p i)) → MKr N N' → CR N' a b st c' → Q (some (.int (zI 1))) (zM N', Rf, K, L, n, s0)) : pm_Wc (d + 4) 205 [.ref 56, .int (zI mb)] (zM N, Rf, K, L, n, s0) Q := by
  obtain ⟨q', eq', fm⟩ := br.top
  have eq' : q' = q := by omega
  subst eq'
  obtain ⟨f1, f2, j, s, ch, nv, ea, f5, f6, f7⟩ := fm
  have f1 : N 94 (q' : Int) = (nKd t : Int) := f1
  have nv : NV N a b t j s ch := nv
  have ea : EA N es H ch ρ (N 96 (q' : Int)) s := ea
  have brc := br
  obtain ⟨⟨c1, c2, c3⟩, hh, ⟨b1, b2, b3⟩, -⟩ := brc
  have pt1 := pnd_is nv.sp
  have jl := nv.lt
  have ln := nv.len
  have r48 := hM 56 48
  have hr := (hh _ _ hv).1
  have q4 : (q' : Int) < 4000 := by omega
  have e59 : N 56 59 = (q' : Int) + 1 := by rw [c3]; rfl
  have r97 := hM 97 (q' : Int)
  have e95 : N 95 (q' : Int) = (j : Int) := f5 (by show nKd t ≠ 10; omega)
  have e97 : N 97 (q' : Int) = -1 := (f6 hk).1 hg
  have nx := nv.x (Or.inl hk)
  have ny := nv.y (Or.inl hk)
  refine wc_in (ls0 := [some (.ref 56), some (.int (zI mb)), none, none, none, none]) (by decide) (Nat.le_of_ble_eq_true rfl) rfl rfl ?_
  refine wp_aload_n d205_0 rfl ?_
  refine wz_getI (v := (q' : Int) + 1) d205_1 rfl (hG.o (by decide) rfl) (by decide) (e59) ?_
  refine wz_iconst d205_4 ?_
  refine wz_isub d205_5 ?_
  refine wp_istore_n d205_6 (Nat.le_of_ble_eq_true rfl) rfl ?_
  refine wp_iload_n d205_7 rfl ?_
  refine wz_if_ge (t := 18) d205_8 (by decide) ⟨by omega, by omega⟩ (fun _ => ?_) (fun hb => absurd (by omega) hb)
  rw [show (q' : Int) + 1 - 1 = q' by omega]
  refine wp_aload_n d205_18 rfl ?_
  refine wp_getR (q := 94) d205_19 rfl (hG.o (by decide) rfl) (by decide) (hG.r (by decide +kernel)) (by decide) ?_
  refine wp_iload_n d205_22 rfl ?_
  refine wz_iald (z := 4000) (v := 7) d205_23 (hG.a (by decide) rfl rfl) (by omega) (by omega) (by decide) (by rw [f1, hk]; rfl) ?_
  refine wp_istore_n d205_24 (Nat.le_of_ble_eq_true rfl) rfl ?_
  refine wp_iload_n d205_25 rfl ?_
  refine wz_bipush d205_26 (by decide) ?_
  refine wz_icmp_ne (t := 38) d205_28 (by decide) ⟨by omega, by omega⟩ ⟨by omega, by omega⟩ (fun _ => ?_) (fun hb => absurd hb (by omega))
  refine wp_iload_n d205_38 rfl ?_
  refine wz_bipush d205_39 (by decide) ?_
  refine wz_icmp_ne (t := 87) d205_41 (by decide) ⟨by omega, by omega⟩ ⟨by omega, by omega⟩ (fun hb => absurd (by omega) hb) (fun _ => ?_)
  refine wp_aload_n d205_44 rfl ?_
  refine wp_getR (q := 97) d205_45 rfl (hG.o (by decide) rfl) (by decide) (hG.r (by decide +kernel)) (by decide) ?_
  refine wp_iload_n d205_48 rfl ?_
  refine wz_iald (z := 4000) (v := (-1)) d205_49 (hG.a (by decide) rfl rfl) (by omega) (by omega) (by decide) (e97) ?_
  refine wz_if_ge (t := 87) d205_50 (by decide) ⟨by omega, by omega⟩ (fun hb => absurd hb (by omega)) (fun _ => ?_)
  refine wp_aload_n d205_53 rfl ?_
  refine wp_getR (q := 97) d205_54 rfl (hG.o (by decide) rfl) (by decide) (hG.r (by decide +kernel)) (by decide) ?_
  refine wp_iload_n d205_57 rfl ?_
  refine wp_aload_n d205_58 rfl ?_
  refine wz_getI (v := N 56 48) d205_59 rfl (hG.o (by decide) rfl) (by decide) (rfl) ?_
  refine wz_iast (z := 4000) d205_62 (hG.a (by decide) rfl rfl) (by omega) (by omega) (by decide) ?_
  refine wp_aload_n d205_63 rfl ?_
  refine wp_aload_n d205_64 rfl ?_
  refine wp_aload_n d205_65 rfl ?_
  refine wp_getR (q := 95) d205_66 rfl (hG.o (by decide) rfl) (by decide) (hG.r (by decide +kernel)) (by decide) ?_
  refine wp_iload_n d205_69 rfl ?_
  refine wz_iald (z := 4000) (v := (j : Int)) d205_70 (hG.a (by decide) rfl rfl) (by omega) (by omega) (by decide) (by rw [mset_i' (by omega)]; exact e95) ?_
  refine wz_iconst d205_71 ?_
  refine wz_iadd d205_72 ?_
  refine wp_virt (as := [.int (zI ((j : Int) + 1))]) (rest := [.ref 56]) d205_73 rfl rfl rfl (hG.o (by decide) rfl) rfl rfl (Nat.le_of_ble_eq_true rfl) ?_
  have nx1 := nx.keep (N' := (mset N 97 (q' : Int) (N 56 48))) (fun p i p1 p2 => mset_i' (by omega))
  refine wc_deep (show d + 2 ≤ d + 3 by omega) ?_
  refine m_behind (lo := 0) (nd := a) (sc := b) (b := true) (i := j + 1) (l := tfl (nX t)) hG (by have := nx.len; unfold pnd at this; omega) nx1.nx.1 nx1.nx.2 ?_
  show pm_Wp none (d + 3) 205 76 [some (.ref 56), some (.int (zI mb)), some (.int (zI (q' : Int))), some (.int (zI 7)), none, none] [.int (zI (((j + 1 + pnd (nX t) : Nat) : Int))), .ref 56] (zM (mset N 97 (q' : Int) (N 56 48)), Rf, K, L, n, s0) Q
  refine wp_aload_n d205_76 rfl ?_
  refine wp_getR (q := 96) d205_77 rfl (hG.o (by decide) rfl) (by decide) (hG.r (by decide +kernel)) (by decide) ?_
  refine wp_iload_n d205_80 rfl ?_
  refine wz_iald (z := 4000) (v := N 96 (q' : Int)) d205_81 (hG.a (by decide) rfl rfl) (by omega) (by omega) (by decide) (mset_i' (by omega)) ?_
  refine wp_virt (as := [.int (zI (N 96 (q' : Int))), .int (zI (((j + 1 + pnd (nX t) : Nat) : Int)))]) (rest := []) d205_82 rfl rfl rfl (hG.o (by decide) rfl) rfl rfl (Nat.le_of_ble_eq_true rfl) ?_
  refine wc_deep (show d + 2 + 1 ≤ d + 3 by omega) ?_
  refine m_go hG ?_
  show pm_Wp none (d + 3) 205 85 [some (.ref 56), some (.int (zI mb)), some (.int (zI (q' : Int))), some (.int (zI 7)), none, none] [] (zM (mGo (mset N 97 (q' : Int) (N 56 48)) ((j + 1 + pnd (nX t) : Nat) : Int) (N 96 (q' : Int))), Rf, K, L, n, s0) Q
  refine wz_iconst d205_85 ?_
  have kp : Kpm N (mset N 97 (q' : Int) (N 56 48)) vs es H := ⟨fun p r p1 p2 => mset_i' (by omega), fun p r p1 p2 _ _ => mset_i' (by omega), fun p r p1 p2 _ _ => mset_i' (by omega), fun r g' _ _ => mset_i' (by omega)⟩
  have fm1 : FrM (mset N 97 (q' : Int) (N 56 48)) a b es H (t, ρ, v, 1) (q' : Int) vs := ⟨by rw [mset_i' (by omega)]; exact f1, f2, j, s, ch, nv.keep kp.1, by rw [mset_i' (by omega)]; exact ea.keep kp.1 kp.2.1 (fun _ _ x => x) (Nat.le_refl _), fun _ => by rw [mset_i' (by omega)]; exact e95, fun _ => ⟨fun e => absurd (show (1 : Nat) = 0 from e) (by omega), fun _ => by rw [mset_s]; exact hv⟩, fun e => absurd (show nKd t = 10 from e) (by omega)⟩
  have fb := br.2.2.2.below.2
  have fb : FRs N a b es H k q' (if nKd t = 10 then N 97 (q' : Int) else (vs : Int)) := fb
  rw [if_neg (by omega)] at fb
  have pf : pdF (t, ρ, w, g) = pnd (nY t) := by
    unfold pdF
    show (if nKd t = 7 then (if g = 0 then pnd (nY t) else 0) else _) = _
    rw [if_pos hk, if_pos hg]
  have pf2 : pdF (t, ρ, v, 1) = 0 := by
    unfold pdF
    show (if nKd t = 7 then (if 1 = 0 then pnd (nY t) else 0) else _) = _
    rw [if_pos hk, if_neg (by omega)]
  have b5 : BR (mset N 97 (q' : Int) (N 56 48)) a b st vs es (q' + 1) H ((t, ρ, v, 1) :: k) (pnd (nY t) + (pdF (t, ρ, v, 1) + pdK k)) := ⟨⟨by rw [mset_i' (by omega)]; exact c1, by rw [mset_i' (by omega)]; exact c2, by rw [mset_i' (by omega)]; exact c3⟩, hh.keep kp (Nat.le_refl _), ⟨b1, by omega, by omega⟩, ⟨q', rfl, fm1, by show FRs _ a b es H k q' (if nKd t = 10 then _ else _); rw [if_neg (by omega)]; exact fb.keep kp (fun _ _ x => x) (Nat.le_refl _) (Int.le_refl _) (Int.le_refl _) (fun p r p1 p2 r0 r1 => mset_i' (by omega)) (fun r _ _ hn => ⟨hn, fun g' _ => mset_i' (by omega)⟩)⟩⟩
  have b6 := b5.same (N' := (mGo (mset N 97 (q' : Int) (N 56 48)) ((j + 1 + pnd (nX t) : Nat) : Int) (N 96 (q' : Int)))) (st' := st) (pc' := pnd (nY t) + (pdF (t, ρ, v, 1) + pdK k)) (fun p r hp => mGo_o hp) (by omega) (Nat.le_refl _)
  have kg : ∀ (p : Nat) (r : Int), p ≠ 56 → (mGo (mset N 97 (q' : Int) (N 56 48)) ((j + 1 + pnd (nX t) : Nat) : Int) (N 96 (q' : Int))) p r = (mset N 97 (q' : Int) (N 56 48)) p r := fun p r hp => mGo_o (by omega)
  exact wp_ret d205_86 rfl (h _ _ (mvR_7d hk hg) (mGo_R32 (mset_R32 hM r48) ⟨by omega, by omega⟩ (hM _ _)) ((MKr.refl N).set (Or.inr (by omega))).go ⟨vs, es, q' + 1, H, b6.1, b6.2.1, b6.2.2.1, b6.2.2.2, by show mset _ 56 49 0 56 49 = 0; rw [mset_s], j + 1 + pnd (nX t), s, ch, by show mset (mset (mset _ 56 46 _) 56 47 _) 56 49 0 56 46 = _; rw [mset_i' (by omega), mset_i' (by omega), mset_s], (ny.keep kp.1).keep (fun p r p1 p2 => kg p r (by omega)), by show EA _ es H ch ρ (mset (mset (mset _ 56 46 _) 56 47 _) 56 49 0 56 47) s; rw [mset_i' (by omega), mset_s]; exact (ea.keep kp.1 kp.2.1 (fun _ _ x => x) (Nat.le_refl _)).keep (fun p r p1 p2 => kg p r (by omega)) (fun p r p1 p2 _ _ => kg p r (by omega)) (fun _ _ x => x) (Nat.le_refl _)⟩)
theorem m_back11 (hG : pm_G Rf K L n) (hM : ∀ p i, R32 (N p i)) (a6 : a ≤ 60) (b6 : b ≤ 60) (st6 : st ≤ 60) (mb1 : mb = 0 ∨ mb = 1) (br : BR N a b st vs es (q + 1) H ((t, ρ, w, g) :: k) (pdF (t, ρ, w, g) + pdK k)) (e49 : N 56 49 = 1) (hv : H (N 56 48) = some v) (hk : nKd t = 11) (hs : isR v (nMk t) = true) (h2 : ∀ c' N', mv (.inr (v, (t, ρ, w, g) :: k)) = some (true, c') → mb = 1 → (∀ p i, R32 (N' p i)) → MKr N N' → CR N' a b (st + 1) c' → Q (some (.int (zI 2))) (zM N', Rf, K, L, n, s0)) (h0 : ∀ c', mv (.inr (v, (t, ρ, w, g) :: k)) = some (true, c') → mb = 0 → Q (some (.int (zI 0))) (zM N, Rf, K, L, n, s0)) : pm_Wc (d + 4) 205 [.ref 56, .int (zI mb)] (zM N, Rf, K, L, n, s0) Q := by
  obtain ⟨q', eq', fm⟩ := br.top
  have eq' : q' = q := by omega
  subst eq'
  obtain ⟨f1, f2, j, s, ch, nv, ea, f5, f6, f7⟩ := fm
  have f1 : N 94 (q' : Int) = (nKd t : Int) := f1
  have nv : NV N a b t j s ch := nv
  have ea : EA N es H ch ρ (N 96 (q' : Int)) s := ea
  have brc := br
  obtain ⟨⟨c1, c2, c3⟩, hh, ⟨b1, b2, b3⟩, -⟩ := brc
  have pt1 := pnd_is nv.sp
  have jl := nv.lt
  have ln := nv.len
  have r48 := hM 56 48
  have hr := (hh _ _ hv).1
  have q4 : (q' : Int) < 4000 := by omega
  have e59 : N 56 59 = (q' : Int) + 1 := by rw [c3]; rfl
  have r97 := hM 97 (q' : Int)
  have e95 : N 95 (q' : Int) = (j : Int) := f5 (by show nKd t ≠ 10; omega)
  have m3 := nv.mk.2.2.2.1 hk
  have a60 : N 60 (j : Int) = (nMk t : Int) := nv.mk.2.1 (by omega)
  obtain ⟨m, x, ev, hb⟩ := isR_is hs
  have hp : H (N 93 (3 * N 56 48 + nMk t)) = some (rP v (nMk t)) := by rw [ev] at hv ⊢; exact (hh.rec hv).2 _ m3 hb
  have em : mv (.inr (v, (t, ρ, w, g) :: k)) = some (true, .inr (rP v (nMk t), k)) := by rw [mvR_11c hk, if_pos hs]
  refine wc_in (ls0 := [some (.ref 56), some (.int (zI mb)), none, none, none, none]) (by decide) (Nat.le_of_ble_eq_true rfl) rfl rfl ?_
  refine wp_aload_n d205_0 rfl ?_
  refine wz_getI (v := (q' : Int) + 1) d205_1 rfl (hG.o (by decide) rfl) (by decide) (e59) ?_
  refine wz_iconst d205_4 ?_
  refine wz_isub d205_5 ?_
  refine wp_istore_n d205_6 (Nat.le_of_ble_eq_true rfl) rfl ?_
  refine wp_iload_n d205_7 rfl ?_
  refine wz_if_ge (t := 18) d205_8 (by decide) ⟨by omega, by omega⟩ (fun _ => ?_) (fun hb => absurd (by omega) hb)
  rw [show (q' : Int) + 1 - 1 = q' by omega]
  refine wp_aload_n d205_18 rfl ?_
  refine wp_getR (q := 94) d205_19 rfl (hG.o (by decide) rfl) (by decide) (hG.r (by decide +kernel)) (by decide) ?_
  refine wp_iload_n d205_22 rfl ?_
  refine wz_iald (z := 4000) (v := 11) d205_23 (hG.a (by decide) rfl rfl) (by omega) (by omega) (by decide) (by rw [f1, hk]; rfl) ?_
  refine wp_istore_n d205_24 (Nat.le_of_ble_eq_true rfl) rfl ?_
  refine wp_iload_n d205_25 rfl ?_
  refine wz_bipush d205_26 (by decide) ?_
  refine wz_icmp_ne (t := 38) d205_28 (by decide) ⟨by omega, by omega⟩ ⟨by omega, by omega⟩ (fun _ => ?_) (fun hb => absurd hb (by omega))
  refine wp_iload_n d205_38 rfl ?_
  refine wz_bipush d205_39 (by decide) ?_
  refine wz_icmp_ne (t := 87) d205_41 (by decide) ⟨by omega, by omega⟩ ⟨by omega, by omega⟩ (fun _ => ?_) (fun hb => absurd hb (by omega))
  refine wp_iload_n d205_87 rfl ?_
  refine wz_if_ne (t := 93) d205_88 (by decide) ⟨by omega, by omega⟩ (fun hb2 => ?_) (fun hb2 => ?_)
  · skip
    refine wp_aload_n d205_93 rfl ?_
    refine wp_dupr d205_94 ?_
    refine wz_getI (v := (q' : Int) + 1) d205_95 rfl (hG.o (by decide) rfl) (by decide) (e59) ?_
    refine wz_iconst d205_98 ?_
    refine wz_isub d205_99 ?_
    refine wz_putI (i := 59) d205_100 rfl (hG.o (by decide) rfl) rfl (by decide) rfl ?_
    rw [show (q' : Int) + 1 - 1 = q' by omega]
    refine wp_iload_n d205_103 rfl ?_
    refine wz_bipush d205_104 (by decide) ?_
    refine wz_icmp_ne (t := 138) d205_106 (by decide) ⟨by omega, by omega⟩ ⟨by omega, by omega⟩ (fun hb => absurd (by omega) hb) (fun _ => ?_)
    refine wp_aload_n d205_109 rfl ?_
    refine wp_aload_n d205_110 rfl ?_
    refine wp_getR (q := 93) d205_111 rfl (hG.o (by decide) rfl) (by decide) (hG.r (by decide +kernel)) (by decide) ?_
    refine wz_iconst d205_114 ?_
    refine wp_aload_n d205_115 rfl ?_
    refine wz_getI (v := N 56 48) d205_116 rfl (hG.o (by decide) rfl) (by decide) (mset_i' (by omega)) ?_
    refine wz_imul d205_119 ?_
    refine wp_aload_n d205_120 rfl ?_
    refine wp_getR (q := 60) d205_121 rfl (hG.o (by decide) rfl) (by decide) (hG.r (by decide +kernel)) (by decide) ?_
    refine wp_aload_n d205_124 rfl ?_
    refine wp_getR (q := 95) d205_125 rfl (hG.o (by decide) rfl) (by decide) (hG.r (by decide +kernel)) (by decide) ?_
    refine wp_iload_n d205_128 rfl ?_
    refine wz_iald (z := 4000) (v := (j : Int)) d205_129 (hG.a (by decide) rfl rfl) (by omega) (by omega) (by decide) (by rw [mset_i' (by omega)]; exact e95) ?_
    refine wz_iald (z := 128) (v := (nMk t : Int)) d205_130 (hG.a (by decide) rfl rfl) (by omega) (by omega) (by decide) (by rw [mset_i' (by omega)]; exact a60) ?_
    refine wz_iadd d205_131 ?_
    refine wz_iald (z := 12000) (v := (mset N 56 59 (q' : Int)) 93 ((3 * (N 56 48)) + (nMk t : Int))) d205_132 (hG.a (by decide) rfl rfl) (by omega) (by omega) (by decide) (rfl) ?_
    refine wp_virt (as := [.int (zI ((mset N 56 59 (q' : Int)) 93 ((3 * (N 56 48)) + (nMk t : Int))))]) (rest := []) d205_133 rfl rfl rfl (hG.o (by decide) rfl) rfl rfl (Nat.le_of_ble_eq_true rfl) ?_
    refine wc_deep (show d + 2 + 1 ≤ d + 3 by omega) ?_
    refine m_answer hG ?_
    show pm_Wp none (d + 3) 205 136 [some (.ref 56), some (.int (zI mb)), some (.int (zI (q' : Int))), some (.int (zI 11)), none, none] [] (zM (mAns (mset N 56 59 (q' : Int)) (N 93 (3 * N 56 48 + nMk t))), Rf, K, L, n, s0) Q
    refine wz_iconst d205_136 ?_
    have b5 := br.pop (st' := st + 1) (pc' := pdK k) (by omega) (by omega)
    have b6 := b5.same (N' := (mAns (mset N 56 59 (q' : Int)) (N 93 (3 * N 56 48 + nMk t)))) (st' := st + 1) (pc' := pdK k) (fun p r hp => mAns_o hp) (by omega) (Nat.le_refl _)
    exact wp_ret d205_137 rfl (h2 _ _ em (by omega) (mAns_R32 (mset_R32 hM ⟨by omega, by omega⟩) (hM _ _)) ((MKr.refl N).set (Or.inl ⟨rfl, by omega⟩)).ans ⟨vs, es, q', H, b6.1, b6.2.1, b6.2.2.1, b6.2.2.2, by show mset (mset _ 56 48 _) 56 49 1 56 49 = 1; rw [mset_s], by show H (mset (mset _ 56 48 _) 56 49 1 56 48) = _; rw [mset_i' (by omega), mset_s]; exact hp⟩)
  · skip
    refine wz_iconst d205_91 ?_
    exact wp_ret d205_92 rfl (h0 _ em (by omega))
theorem m_back7b (hG : pm_G Rf K L n) (hM : ∀ p i, R32 (N p i)) (a6 : a ≤ 60) (b6 : b ≤ 60) (st6 : st ≤ 60) (mb1 : mb = 0 ∨ mb = 1) (br : BR N a b st vs es (q + 1) H ((t, ρ, w, g) :: k) (pdF (t, ρ, w, g) + pdK k)) (e49 : N 56 49 = 1) (hv : H (N 56 48) = some v) (hk : nKd t = 7) (hg : g ≠ 0) (hs : isC w 6 = true) (h2 : ∀ c' N', mv (.inr (v, (t, ρ, w, g) :: k)) = some (true, c') → mb = 1 → (∀ p i, R32 (N' p i)) → MKr N N' → CR N' a b (st + 1) c' → Q (some (.int (zI 2))) (zM N', Rf, K, L, n, s0)) (h0 : ∀ c', mv (.inr (v, (t, ρ, w, g) :: k)) = some (true, c') → mb = 0 → Q (some (.int (zI 0))) (zM N, Rf, K, L, n, s0)) : pm_Wc (d + 4) 205 [.ref 56, .int (zI mb)] (zM N, Rf, K, L, n, s0) Q := by
  obtain ⟨q', eq', fm⟩ := br.top
  have eq' : q' = q := by omega
  subst eq'
  obtain ⟨f1, f2, j, s, ch, nv, ea, f5, f6, f7⟩ := fm
  have f1 : N 94 (q' : Int) = (nKd t : Int) := f1
  have nv : NV N a b t j s ch := nv
  have ea : EA N es H ch ρ (N 96 (q' : Int)) s := ea
  have brc := br
  obtain ⟨⟨c1, c2, c3⟩, hh, ⟨b1, b2, b3⟩, -⟩ := brc
  have pt1 := pnd_is nv.sp
  have jl := nv.lt
  have ln := nv.len
  have r48 := hM 56 48
  have hr := (hh _ _ hv).1
  have q4 : (q' : Int) < 4000 := by omega
  have e59 : N 56 59 = (q' : Int) + 1 := by rw [c3]; rfl
  have r97 := hM 97 (q' : Int)
  obtain ⟨t', ρ', ew, k6⟩ := isC_is hs
  have hw : H (N 97 (q' : Int)) = some w := (f6 hk).2 hg
  have hcl : H (N 97 (q' : Int)) = some (vC t' ρ') := by rw [hw, ew]
  have em : mv (.inr (v, (t, ρ, w, g) :: k)) = some (true, .inl (nY t', eN (nPl t') v ρ', k)) := by rw [mvR_7c hk hg, if_pos hs, ew]; rfl
  have r0 := (hh _ _ hw).1
  generalize ecl : N 97 (q' : Int) = cl at *
  obtain ⟨-, j', s', ch', g90, g91, nv', ea'⟩ := hh.clo hcl
  have k68 : nKd t' = 6 ∨ nKd t' = 8 := by omega
  obtain ⟨nm, e64, nb⟩ := nv'.body k68
  obtain ⟨ty1, ty2, ty3⟩ := nv'.ty k68
  have ln' := nv'.len
  have lb' := nb.len
  have jl' := nv'.lt
  have r92 := hM 92 cl
  refine wc_in (ls0 := [some (.ref 56), some (.int (zI mb)), none, none, none, none]) (by decide) (Nat.le_of_ble_eq_true rfl) rfl rfl ?_
  refine wp_aload_n d205_0 rfl ?_
  refine wz_getI (v := (q' : Int) + 1) d205_1 rfl (hG.o (by decide) rfl) (by decide) (e59) ?_
  refine wz_iconst d205_4 ?_
  refine wz_isub d205_5 ?_
  refine wp_istore_n d205_6 (Nat.le_of_ble_eq_true rfl) rfl ?_
  refine wp_iload_n d205_7 rfl ?_
  refine wz_if_ge (t := 18) d205_8 (by decide) ⟨by omega, by omega⟩ (fun _ => ?_) (fun hb => absurd (by omega) hb)
  rw [show (q' : Int) + 1 - 1 = q' by omega]
  refine wp_aload_n d205_18 rfl ?_
  refine wp_getR (q := 94) d205_19 rfl (hG.o (by decide) rfl) (by decide) (hG.r (by decide +kernel)) (by decide) ?_
  refine wp_iload_n d205_22 rfl ?_
  refine wz_iald (z := 4000) (v := 7) d205_23 (hG.a (by decide) rfl rfl) (by omega) (by omega) (by decide) (by rw [f1, hk]; rfl) ?_
  refine wp_istore_n d205_24 (Nat.le_of_ble_eq_true rfl) rfl ?_
  refine wp_iload_n d205_25 rfl ?_
  refine wz_bipush d205_26 (by decide) ?_
  refine wz_icmp_ne (t := 38) d205_28 (by decide) ⟨by omega, by omega⟩ ⟨by omega, by omega⟩ (fun _ => ?_) (fun hb => absurd hb (by omega))
  refine wp_iload_n d205_38 rfl ?_
  refine wz_bipush d205_39 (by decide) ?_
  refine wz_icmp_ne (t := 87) d205_41 (by decide) ⟨by omega, by omega⟩ ⟨by omega, by omega⟩ (fun hb => absurd (by omega) hb) (fun _ => ?_)
  refine wp_aload_n d205_44 rfl ?_
  refine wp_getR (q := 97) d205_45 rfl (hG.o (by decide) rfl) (by decide) (hG.r (by decide +kernel)) (by decide) ?_
  refine wp_iload_n d205_48 rfl ?_
  refine wz_iald (z := 4000) (v := N 97 (q' : Int)) d205_49 (hG.a (by decide) rfl rfl) (by omega) (by omega) (by decide) (rfl) ?_
  refine wz_if_ge (t := 87) d205_50 (by decide) ⟨by omega, by omega⟩ (fun _ => ?_) (fun hb => absurd (by omega) hb)
  refine wp_iload_n d205_87 rfl ?_
  refine wz_if_ne (t := 93) d205_88 (by decide) ⟨by omega, by omega⟩ (fun hb2 => ?_) (fun hb2 => ?_)
  · skip
    refine wp_aload_n d205_93 rfl ?_
    refine wp_dupr d205_94 ?_
    refine wz_getI (v := (q' : Int) + 1) d205_95 rfl (hG.o (by decide) rfl) (by decide) (e59) ?_
    refine wz_iconst d205_98 ?_
    refine wz_isub d205_99 ?_
    refine wz_putI (i := 59) d205_100 rfl (hG.o (by decide) rfl) rfl (by decide) rfl ?_
    rw [show (q' : Int) + 1 - 1 = q' by omega]
    refine wp_iload_n d205_103 rfl ?_
    refine wz_bipush d205_104 (by decide) ?_
    refine wz_icmp_ne (t := 138) d205_106 (by decide) ⟨by omega, by omega⟩ ⟨by omega, by omega⟩ (fun _ => ?_) (fun hb => absurd hb (by omega))
    refine wp_iload_n d205_138 rfl ?_
    refine wz_bipush d205_139 (by decide) ?_
    refine wz_icmp_ne (t := 153) d205_141 (by decide) ⟨by omega, by omega⟩ ⟨by omega, by omega⟩ (fun hb => absurd (by omega) hb) (fun _ => ?_)
    refine wp_aload_n d205_144 rfl ?_
    refine wp_getR (q := 97) d205_145 rfl (hG.o (by decide) rfl) (by decide) (hG.r (by decide +kernel)) (by decide) ?_
    refine wp_iload_n d205_148 rfl ?_
    refine wz_iald (z := 4000) (v := cl) d205_149 (hG.a (by decide) rfl rfl) (by omega) (by omega) (by decide) (by rw [mset_i' (by omega)]; exact ecl) ?_
    refine wp_goto (t := 157) d205_150 (by decide) ?_
    refine wp_istore d205_157 (Nat.le_of_ble_eq_true rfl) rfl ?_
    refine wp_aload_n d205_159 rfl ?_
    refine wp_getR (q := 92) d205_160 rfl (hG.o (by decide) rfl) (by decide) (hG.r (by decide +kernel)) (by decide) ?_
    refine wp_iload d205_163 rfl ?_
    refine wz_iald (z := 4000) (v := N 92 cl) d205_165 (hG.a (by decide) rfl rfl) (by omega) (by omega) (by decide) (mset_i' (by omega)) ?_
    refine wp_istore d205_166 (Nat.le_of_ble_eq_true rfl) rfl ?_
    refine wp_iload_n d205_168 rfl ?_
    refine wz_bipush d205_169 (by decide) ?_
    refine wz_icmp_ne (t := 235) d205_171 (by decide) ⟨by omega, by omega⟩ ⟨by omega, by omega⟩ (fun hb => absurd (by omega) hb) (fun _ => ?_)
    refine wp_aload_n d205_174 rfl ?_
    refine wp_getR (q := 87) d205_175 rfl (hG.o (by decide) rfl) (by decide) (hG.r (by decide +kernel)) (by decide) ?_
    refine wp_aload_n d205_178 rfl ?_
    refine wz_getI (v := (es : Int)) d205_179 rfl (hG.o (by decide) rfl) (by decide) (by rw [mset_i' (by omega)]; exact c2) ?_
    refine wp_aload_n d205_182 rfl ?_
    refine wp_getR (q := 63) d205_183 rfl (hG.o (by decide) rfl) (by decide) (hG.r (by decide +kernel)) (by decide) ?_
    refine wp_aload_n d205_186 rfl ?_
    refine wp_getR (q := 91) d205_187 rfl (hG.o (by decide) rfl) (by decide) (hG.r (by decide +kernel)) (by decide) ?_
    refine wp_iload d205_190 rfl ?_
    refine wz_iald (z := 4000) (v := (j' : Int)) d205_192 (hG.a (by decide) rfl rfl) (by omega) (by omega) (by decide) (by rw [mset_i' (by omega)]; exact g91) ?_
    refine wz_iald (z := 128) (v := N 63 (j' : Int)) d205_193 (hG.a (by decide) rfl rfl) (by omega) (by omega) (by decide) (mset_i' (by omega)) ?_
    refine wz_iast (z := 4000) d205_194 (hG.a (by decide) rfl rfl) (by omega) (by omega) (by decide) ?_
    refine wp_aload_n d205_195 rfl ?_
    refine wp_getR (q := 88) d205_196 rfl (hG.o (by decide) rfl) (by decide) (hG.r (by decide +kernel)) (by decide) ?_
    refine wp_aload_n d205_199 rfl ?_
    refine wz_getI (v := (es : Int)) d205_200 rfl (hG.o (by decide) rfl) (by decide) (by rw [mset_i' (by omega), mset_i' (by omega)]; exact c2) ?_
    refine wp_aload_n d205_203 rfl ?_
    refine wz_getI (v := N 56 48) d205_204 rfl (hG.o (by decide) rfl) (by decide) (by rw [mset_i' (by omega), mset_i' (by omega)]; rfl) ?_
    refine wz_iast (z := 4000) d205_207 (hG.a (by decide) rfl rfl) (by omega) (by omega) (by decide) ?_
    refine wp_aload_n d205_208 rfl ?_
    refine wp_getR (q := 89) d205_209 rfl (hG.o (by decide) rfl) (by decide) (hG.r (by decide +kernel)) (by decide) ?_
    refine wp_aload_n d205_212 rfl ?_
    refine wz_getI (v := (es : Int)) d205_213 rfl (hG.o (by decide) rfl) (by decide) (by rw [mset_i' (by omega), mset_i' (by omega), mset_i' (by omega)]; exact c2) ?_
    refine wp_iload d205_216 rfl ?_
    refine wz_iast (z := 4000) d205_218 (hG.a (by decide) rfl rfl) (by omega) (by omega) (by decide) ?_
    refine wp_aload_n d205_219 rfl ?_
    refine wz_getI (v := (es : Int)) d205_220 rfl (hG.o (by decide) rfl) (by decide) (by rw [mset_i' (by omega), mset_i' (by omega), mset_i' (by omega), mset_i' (by omega)]; exact c2) ?_
    refine wp_istore d205_223 (Nat.le_of_ble_eq_true rfl) rfl ?_
    refine wp_aload_n d205_225 rfl ?_
    refine wp_dupr d205_226 ?_
    refine wz_getI (v := (es : Int)) d205_227 rfl (hG.o (by decide) rfl) (by decide) (by rw [mset_i' (by omega), mset_i' (by omega), mset_i' (by omega), mset_i' (by omega)]; exact c2) ?_
    refine wz_iconst d205_230 ?_
    refine wz_iadd d205_231 ?_
    refine wz_putI (i := 50) d205_232 rfl (hG.o (by decide) rfl) rfl (by decide) rfl ?_
    show pm_Wp none (d + 3) 205 235 [some (.ref 56), some (.int (zI mb)), some (.int (zI (q' : Int))), some (.int (zI 7)), some (.int (zI cl)), some (.int (zI (es : Int)))] [] (zM (mEnv (mset N 56 59 (q' : Int)) es (N 63 (j' : Int)) (N 56 48) (N 92 cl)), Rf, K, L, n, s0) Q
    refine wp_aload_n d205_235 rfl ?_
    refine wp_aload_n d205_236 rfl ?_
    refine wp_aload_n d205_237 rfl ?_
    refine wp_getR (q := 91) d205_238 rfl (hG.o (by decide) rfl) (by decide) (hG.r (by decide +kernel)) (by decide) ?_
    refine wp_iload d205_241 rfl ?_
    refine wz_iald (z := 4000) (v := (j' : Int)) d205_243 (hG.a (by decide) rfl rfl) (by omega) (by omega) (by decide) (by rw [mEnv_o (by omega) (by omega), mset_i' (by omega)]; exact g91) ?_
    refine wz_iconst d205_244 ?_
    refine wz_iadd d205_245 ?_
    refine wp_virt (as := [.int (zI ((j' : Int) + 1))]) (rest := [.ref 56]) d205_246 rfl rfl rfl (hG.o (by decide) rfl) rfl rfl (Nat.le_of_ble_eq_true rfl) ?_
    have kx : ∀ (p : Nat) (r : Int), 59 ≤ p → p ≤ 67 → (mEnv (mset N 56 59 (q' : Int)) es (N 63 (j' : Int)) (N 56 48) (N 92 cl)) p r = N p r := (fun p r p1 p2 => (mEnv_o (by omega) (by omega)).trans (mset_i' (by omega)))
    have ty1' := nv'.keep kx
    obtain ⟨ty4, ty5, ty6⟩ := ty1'.ty k68
    refine wc_deep (show d + 2 ≤ d + 3 by omega) ?_
    refine m_behind (lo := 0) (nd := a) (sc := b) (b := true) (i := j' + 1) (l := flat (nX t')) hG (by rw [ty6]; omega) ty4 ty5 ?_
    rw [ty6]
    show pm_Wp none (d + 3) 205 249 [some (.ref 56), some (.int (zI mb)), some (.int (zI (q' : Int))), some (.int (zI 7)), some (.int (zI cl)), some (.int (zI (es : Int)))] [.int (zI (((j' + 1 + pnd (nX t') : Nat) : Int))), .ref 56] (zM (mEnv (mset N 56 59 (q' : Int)) es (N 63 (j' : Int)) (N 56 48) (N 92 cl)), Rf, K, L, n, s0) Q
    refine wp_iload d205_249 rfl ?_
    refine wp_virt (as := [.int (zI (es : Int)), .int (zI (((j' + 1 + pnd (nX t') : Nat) : Int)))]) (rest := []) d205_251 rfl rfl rfl (hG.o (by decide) rfl) rfl rfl (Nat.le_of_ble_eq_true rfl) ?_
    refine wc_deep (show d + 2 + 1 ≤ d + 3 by omega) ?_
    refine m_go hG ?_
    show pm_Wp none (d + 3) 205 254 [some (.ref 56), some (.int (zI mb)), some (.int (zI (q' : Int))), some (.int (zI 7)), some (.int (zI cl)), some (.int (zI (es : Int)))] [] (zM (mGo (mEnv (mset N 56 59 (q' : Int)) es (N 63 (j' : Int)) (N 56 48) (N 92 cl)) ((j' + 1 + pnd (nX t') : Nat) : Int) (es : Int)), Rf, K, L, n, s0) Q
    refine wz_iconst d205_254 ?_
    have b5 := br.pop (st' := st + 1) (pc' := pnd (nY t') + pdK k) (by omega) (by omega)
    have b5' := b5.env (x := N 63 (j' : Int)) (y := N 56 48) (z := N 92 cl) (by omega)
    have b6 := b5'.same (N' := (mGo (mEnv (mset N 56 59 (q' : Int)) es (N 63 (j' : Int)) (N 56 48) (N 92 cl)) ((j' + 1 + pnd (nX t') : Nat) : Int) (es : Int))) (st' := st + 1) (pc' := pnd (nY t') + pdK k) (fun p r hp => mGo_o hp) (by omega) (Nat.le_refl _)
    have kp : Kpm N (mset N 56 59 (q' : Int)) vs es H := ⟨fun p r p1 p2 => mset_i' (by omega), fun p r p1 p2 _ _ => mset_i' (by omega), fun p r p1 p2 _ _ => mset_i' (by omega), fun r g' _ _ => mset_i' (by omega)⟩
    have ke : Kpm (mset N 56 59 (q' : Int)) (mEnv (mset N 56 59 (q' : Int)) es (N 63 (j' : Int)) (N 56 48) (N 92 cl)) vs es H := Kpm.env
    have ea2 := (ea'.keep kp.1 kp.2.1 (fun _ _ x => x) (Nat.le_refl _)).keep (es' := es + 1) ke.1 ke.2.1 (fun _ _ x => x) (by omega)
    have ex : EA (mEnv (mset N 56 59 (q' : Int)) es (N 63 (j' : Int)) (N 56 48) (N 92 cl)) (es + 1) H ((if nKd t' = 6 then 1 else 0, nm, nPl t') :: ch') (eN (nPl t') v ρ') (es : Int) (N 63 (j' : Int)) := by
      show if (if nKd t' = 6 then 1 else 0) = 1 then (0 ≤ (es : Int) ∧ (es : Int) < ((es + 1 : Nat) : Int)) ∧ (mEnv (mset N 56 59 (q' : Int)) es (N 63 (j' : Int)) (N 56 48) (N 92 cl)) 87 (es : Int) = N 63 (j' : Int) ∧ ∃ v2 ρ2, eN (nPl t') v ρ' = eN (nPl t') v2 ρ2 ∧ H ((mEnv (mset N 56 59 (q' : Int)) es (N 63 (j' : Int)) (N 56 48) (N 92 cl)) 88 (es : Int)) = some v2 ∧ EA (mEnv (mset N 56 59 (q' : Int)) es (N 63 (j' : Int)) (N 56 48) (N 92 cl)) (es + 1) H ch' ρ2 ((mEnv (mset N 56 59 (q' : Int)) es (N 63 (j' : Int)) (N 56 48) (N 92 cl)) 89 (es : Int)) ((mEnv (mset N 56 59 (q' : Int)) es (N 63 (j' : Int)) (N 56 48) (N 92 cl)) 64 (N 63 (j' : Int))) else _
      rw [if_pos (by rw [if_pos k6]), mEnv_87, mEnv_88, mEnv_89, kx 64 _ (by omega) (by omega), e64]
      exact ⟨⟨by omega, by omega⟩, rfl, v, ρ', rfl, hv, ea2⟩
    have kg : ∀ (p : Nat) (r : Int), p ≠ 56 → (mGo (mEnv (mset N 56 59 (q' : Int)) es (N 63 (j' : Int)) (N 56 48) (N 92 cl)) ((j' + 1 + pnd (nX t') : Nat) : Int) (es : Int)) p r = (mEnv (mset N 56 59 (q' : Int)) es (N 63 (j' : Int)) (N 56 48) (N 92 cl)) p r := fun p r hp => mGo_o (by omega)
    exact wp_ret d205_255 rfl (h2 _ _ em (by omega) (mGo_R32 (mEnv_R32 (mset_R32 hM ⟨by omega, by omega⟩) ⟨by omega, by omega⟩ (hM _ _) (hM _ _) (hM _ _)) ⟨by omega, by omega⟩ ⟨by omega, by omega⟩) ((MKr.refl N).set (Or.inl ⟨rfl, by omega⟩)).env.go ⟨vs, es + 1, q', H, b6.1, b6.2.1, b6.2.2.1, b6.2.2.2, by show mset _ 56 49 0 56 49 = 0; rw [mset_s], j' + 1 + pnd (nX t'), N 63 (j' : Int), (if nKd t' = 6 then 1 else 0, nm, nPl t') :: ch', by show mset (mset (mset _ 56 46 _) 56 47 _) 56 49 0 56 46 = _; rw [mset_i' (by omega), mset_i' (by omega), mset_s], (nb.keep kx).keep (fun p r p1 p2 => kg p r (by omega)), by show EA _ (es + 1) H _ _ (mset (mset (mset _ 56 46 _) 56 47 _) 56 49 0 56 47) _; rw [mset_i' (by omega), mset_s]; exact ex.keep (fun p r p1 p2 => kg p r (by omega)) (fun p r p1 p2 _ _ => kg p r (by omega)) (fun _ _ x => x) (Nat.le_refl _)⟩)
  · skip
    refine wz_iconst d205_91 ?_
    exact wp_ret d205_92 rfl (h0 _ em (by omega))
theorem m_back9 (hG : pm_G Rf K L n) (hM : ∀ p i, R32 (N p i)) (a6 : a ≤ 60) (b6 : b ≤ 60) (st6 : st ≤ 60) (mb1 : mb = 0 ∨ mb = 1) (br : BR N a b st vs es (q + 1) H ((t, ρ, w, g) :: k) (pdF (t, ρ, w, g) + pdK k)) (e49 : N 56 49 = 1) (hv : H (N 56 48) = some v) (hk : nKd t = 9) (hs : isC v 8 = true) (h2 : ∀ c' N', mv (.inr (v, (t, ρ, w, g) :: k)) = some (true, c') → mb = 1 → (∀ p i, R32 (N' p i)) → MKr N N' → CR N' a b (st + 1) c' → Q (some (.int (zI 2))) (zM N', Rf, K, L, n, s0)) (h0 : ∀ c', mv (.inr (v, (t, ρ, w, g) :: k)) = some (true, c') → mb = 0 → Q (some (.int (zI 0))) (zM N, Rf, K, L, n, s0)) : pm_Wc (d + 4) 205 [.ref 56, .int (zI mb)] (zM N, Rf, K, L, n, s0) Q := by
  obtain ⟨q', eq', fm⟩ := br.top
  have eq' : q' = q := by omega
  subst eq'
  obtain ⟨f1, f2, j, s, ch, nv, ea, f5, f6, f7⟩ := fm
  have f1 : N 94 (q' : Int) = (nKd t : Int) := f1
  have nv : NV N a b t j s ch := nv
  have ea : EA N es H ch ρ (N 96 (q' : Int)) s := ea
  have brc := br
  obtain ⟨⟨c1, c2, c3⟩, hh, ⟨b1, b2, b3⟩, -⟩ := brc
  have pt1 := pnd_is nv.sp
  have jl := nv.lt
  have ln := nv.len
  have r48 := hM 56 48
  have hr := (hh _ _ hv).1
  have q4 : (q' : Int) < 4000 := by omega
  have e59 : N 56 59 = (q' : Int) + 1 := by rw [c3]; rfl
  have r97 := hM 97 (q' : Int)
  obtain ⟨t', ρ', ew, k6⟩ := isC_is hs
  have hcl : H (N 56 48) = some (vC t' ρ') := by rw [hv, ew]
  have em : mv (.inr (v, (t, ρ, w, g) :: k)) = some (true, .inl (nY t', ρ', k)) := by rw [mvR_9c hk, if_pos hs, ew]; rfl
  have r0 := hr
  generalize ecl : N 56 48 = cl at *
  obtain ⟨-, j', s', ch', g90, g91, nv', ea'⟩ := hh.clo hcl
  have k68 : nKd t' = 6 ∨ nKd t' = 8 := by omega
  obtain ⟨nm, e64, nb⟩ := nv'.body k68
  obtain ⟨ty1, ty2, ty3⟩ := nv'.ty k68
  have ln' := nv'.len
  have lb' := nb.len
  have jl' := nv'.lt
  have r92 := hM 92 cl
  refine wc_in (ls0 := [some (.ref 56), some (.int (zI mb)), none, none, none, none]) (by decide) (Nat.le_of_ble_eq_true rfl) rfl rfl ?_
  refine wp_aload_n d205_0 rfl ?_
  refine wz_getI (v := (q' : Int) + 1) d205_1 rfl (hG.o (by decide) rfl) (by decide) (e59) ?_
  refine wz_iconst d205_4 ?_
  refine wz_isub d205_5 ?_
  refine wp_istore_n d205_6 (Nat.le_of_ble_eq_true rfl) rfl ?_
  refine wp_iload_n d205_7 rfl ?_
  refine wz_if_ge (t := 18) d205_8 (by decide) ⟨by omega, by omega⟩ (fun _ => ?_) (fun hb => absurd (by omega) hb)
  rw [show (q' : Int) + 1 - 1 = q' by omega]
  refine wp_aload_n d205_18 rfl ?_
  refine wp_getR (q := 94) d205_19 rfl (hG.o (by decide) rfl) (by decide) (hG.r (by decide +kernel)) (by decide) ?_
  refine wp_iload_n d205_22 rfl ?_
  refine wz_iald (z := 4000) (v := 9) d205_23 (hG.a (by decide) rfl rfl) (by omega) (by omega) (by decide) (by rw [f1, hk]; rfl) ?_
  refine wp_istore_n d205_24 (Nat.le_of_ble_eq_true rfl) rfl ?_
  refine wp_iload_n d205_25 rfl ?_
  refine wz_bipush d205_26 (by decide) ?_
  refine wz_icmp_ne (t := 38) d205_28 (by decide) ⟨by omega, by omega⟩ ⟨by omega, by omega⟩ (fun _ => ?_) (fun hb => absurd hb (by omega))
  refine wp_iload_n d205_38 rfl ?_
  refine wz_bipush d205_39 (by decide) ?_
  refine wz_icmp_ne (t := 87) d205_41 (by decide) ⟨by omega, by omega⟩ ⟨by omega, by omega⟩ (fun _ => ?_) (fun hb => absurd hb (by omega))
  refine wp_iload_n d205_87 rfl ?_
  refine wz_if_ne (t := 93) d205_88 (by decide) ⟨by omega, by omega⟩ (fun hb2 => ?_) (fun hb2 => ?_)
  · skip
    refine wp_aload_n d205_93 rfl ?_
    refine wp_dupr d205_94 ?_
    refine wz_getI (v := (q' : Int) + 1) d205_95 rfl (hG.o (by decide) rfl) (by decide) (e59) ?_
    refine wz_iconst d205_98 ?_
    refine wz_isub d205_99 ?_
    refine wz_putI (i := 59) d205_100 rfl (hG.o (by decide) rfl) rfl (by decide) rfl ?_
    rw [show (q' : Int) + 1 - 1 = q' by omega]
    refine wp_iload_n d205_103 rfl ?_
    refine wz_bipush d205_104 (by decide) ?_
    refine wz_icmp_ne (t := 138) d205_106 (by decide) ⟨by omega, by omega⟩ ⟨by omega, by omega⟩ (fun _ => ?_) (fun hb => absurd hb (by omega))
    refine wp_iload_n d205_138 rfl ?_
    refine wz_bipush d205_139 (by decide) ?_
    refine wz_icmp_ne (t := 153) d205_141 (by decide) ⟨by omega, by omega⟩ ⟨by omega, by omega⟩ (fun _ => ?_) (fun hb => absurd hb (by omega))
    refine wp_aload_n d205_153 rfl ?_
    refine wz_getI (v := cl) d205_154 rfl (hG.o (by decide) rfl) (by decide) (by rw [mset_i' (by omega)]; exact ecl) ?_
    refine wp_istore d205_157 (Nat.le_of_ble_eq_true rfl) rfl ?_
    refine wp_aload_n d205_159 rfl ?_
    refine wp_getR (q := 92) d205_160 rfl (hG.o (by decide) rfl) (by decide) (hG.r (by decide +kernel)) (by decide) ?_
    refine wp_iload d205_163 rfl ?_
    refine wz_iald (z := 4000) (v := N 92 cl) d205_165 (hG.a (by decide) rfl rfl) (by omega) (by omega) (by decide) (mset_i' (by omega)) ?_
    refine wp_istore d205_166 (Nat.le_of_ble_eq_true rfl) rfl ?_
    refine wp_iload_n d205_168 rfl ?_
    refine wz_bipush d205_169 (by decide) ?_
    refine wz_icmp_ne (t := 235) d205_171 (by decide) ⟨by omega, by omega⟩ ⟨by omega, by omega⟩ (fun _ => ?_) (fun hb => absurd hb (by omega))
    refine wp_aload_n d205_235 rfl ?_
    refine wp_aload_n d205_236 rfl ?_
    refine wp_aload_n d205_237 rfl ?_
    refine wp_getR (q := 91) d205_238 rfl (hG.o (by decide) rfl) (by decide) (hG.r (by decide +kernel)) (by decide) ?_
    refine wp_iload d205_241 rfl ?_
    refine wz_iald (z := 4000) (v := (j' : Int)) d205_243 (hG.a (by decide) rfl rfl) (by omega) (by omega) (by decide) (by rw [mset_i' (by omega)]; exact g91) ?_
    refine wz_iconst d205_244 ?_
    refine wz_iadd d205_245 ?_
    refine wp_virt (as := [.int (zI ((j' : Int) + 1))]) (rest := [.ref 56]) d205_246 rfl rfl rfl (hG.o (by decide) rfl) rfl rfl (Nat.le_of_ble_eq_true rfl) ?_
    have kx : ∀ (p : Nat) (r : Int), 59 ≤ p → p ≤ 67 → (mset N 56 59 (q' : Int)) p r = N p r := (fun p r p1 p2 => mset_i' (by omega))
    have ty1' := nv'.keep kx
    obtain ⟨ty4, ty5, ty6⟩ := ty1'.ty k68
    refine wc_deep (show d + 2 ≤ d + 3 by omega) ?_
    refine m_behind (lo := 0) (nd := a) (sc := b) (b := true) (i := j' + 1) (l := flat (nX t')) hG (by rw [ty6]; omega) ty4 ty5 ?_
    rw [ty6]
    show pm_Wp none (d + 3) 205 249 [some (.ref 56), some (.int (zI mb)), some (.int (zI (q' : Int))), some (.int (zI 9)), some (.int (zI cl)), some (.int (zI (N 92 cl)))] [.int (zI (((j' + 1 + pnd (nX t') : Nat) : Int))), .ref 56] (zM (mset N 56 59 (q' : Int)), Rf, K, L, n, s0) Q
    refine wp_iload d205_249 rfl ?_
    refine wp_virt (as := [.int (zI (N 92 cl)), .int (zI (((j' + 1 + pnd (nX t') : Nat) : Int)))]) (rest := []) d205_251 rfl rfl rfl (hG.o (by decide) rfl) rfl rfl (Nat.le_of_ble_eq_true rfl) ?_
    refine wc_deep (show d + 2 + 1 ≤ d + 3 by omega) ?_
    refine m_go hG ?_
    show pm_Wp none (d + 3) 205 254 [some (.ref 56), some (.int (zI mb)), some (.int (zI (q' : Int))), some (.int (zI 9)), some (.int (zI cl)), some (.int (zI (N 92 cl)))] [] (zM (mGo (mset N 56 59 (q' : Int)) ((j' + 1 + pnd (nX t') : Nat) : Int) (N 92 cl)), Rf, K, L, n, s0) Q
    refine wz_iconst d205_254 ?_
    have b5 := br.pop (st' := st + 1) (pc' := pnd (nY t') + pdK k) (by omega) (by omega)
    have b6 := b5.same (N' := (mGo (mset N 56 59 (q' : Int)) ((j' + 1 + pnd (nX t') : Nat) : Int) (N 92 cl))) (st' := st + 1) (pc' := pnd (nY t') + pdK k) (fun p r hp => mGo_o hp) (by omega) (Nat.le_refl _)
    have kp : Kpm N (mset N 56 59 (q' : Int)) vs es H := ⟨fun p r p1 p2 => mset_i' (by omega), fun p r p1 p2 _ _ => mset_i' (by omega), fun p r p1 p2 _ _ => mset_i' (by omega), fun r g' _ _ => mset_i' (by omega)⟩
    have ea2 := ea'.keep kp.1 kp.2.1 (fun _ _ x => x) (Nat.le_refl _)
    have ex : EA (mset N 56 59 (q' : Int)) es H ((if nKd t' = 6 then 1 else 0, nm, nPl t') :: ch') ρ' (N 92 cl) (N 63 (j' : Int)) := by
      show if (if nKd t' = 6 then 1 else 0) = 1 then _ else EA (mset N 56 59 (q' : Int)) es H ch' ρ' (N 92 cl) ((mset N 56 59 (q' : Int)) 64 (N 63 (j' : Int)))
      rw [if_neg (by rw [if_neg (by omega)]; omega), kx 64 _ (by omega) (by omega), e64]
      exact ea2
    have kg : ∀ (p : Nat) (r : Int), p ≠ 56 → (mGo (mset N 56 59 (q' : Int)) ((j' + 1 + pnd (nX t') : Nat) : Int) (N 92 cl)) p r = (mset N 56 59 (q' : Int)) p r := fun p r hp => mGo_o (by omega)
    exact wp_ret d205_255 rfl (h2 _ _ em (by omega) (mGo_R32 (mset_R32 hM ⟨by omega, by omega⟩) ⟨by omega, by omega⟩ (hM _ _)) ((MKr.refl N).set (Or.inl ⟨rfl, by omega⟩)).go ⟨vs, es, q', H, b6.1, b6.2.1, b6.2.2.1, b6.2.2.2, by show mset _ 56 49 0 56 49 = 0; rw [mset_s], j' + 1 + pnd (nX t'), N 63 (j' : Int), (if nKd t' = 6 then 1 else 0, nm, nPl t') :: ch', by show mset (mset (mset _ 56 46 _) 56 47 _) 56 49 0 56 46 = _; rw [mset_i' (by omega), mset_i' (by omega), mset_s], (nb.keep kx).keep (fun p r p1 p2 => kg p r (by omega)), by show EA _ es H _ _ (mset (mset (mset _ 56 46 _) 56 47 _) 56 49 0 56 47) _; rw [mset_i' (by omega), mset_s]; exact ex.keep (fun p r p1 p2 => kg p r (by omega)) (fun p r p1 p2 _ _ => kg p r (by omega)) (fun _ _ x => x) (Nat.le_refl _)⟩)
  · skip
    refine wz_iconst d205_91 ?_
    exact wp_ret d205_92 rfl (h0 _ em (by omega))
end PmG16
