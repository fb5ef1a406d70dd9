/-! THE CLASS: a value is written; value. -/
/-- value i is the record of node jw -/
def RvK (M : pm_M) (Rf : Nat → Nat → Nat) (X : Nat) (H : Int → Option Ty) (i : Int) (jw m : Nat) (v : Ty) : Prop := M (Rf 51 0) i = (jw : Int) ∧ M (X + 3) (jw : Int) = (m : Int) ∧ ∀ g : Nat, g < 3 → bit m g = true → H (M (Rf 51 (1 + g)) i) = some (rP v g)
theorem PGF.rvk {X : Nat} {M M' : pm_M} {Rf : Nat → Nat → Nat} {K L : Nat → Nat} {n zf zv zr jw m : Nat} {i : Int} {v : Ty} {H : Int → Option Ty} (h : MR X Rf K L n zf zv zr) (g : PGF M M') (r : RvK M Rf X H i jw m v) : RvK M' Rf X H i jw m v := by
  have hX := h.2.2.2.2.2.2
  have sp := h.sep.1
  refine ⟨?_, ?_, fun q hq hb => ?_⟩
  · have := (sp 0 (by omega)).2
    rw [g _ _ (by omega) (by omega)]; exact r.1
  · rw [g _ _ (by omega) (by omega)]; exact r.2.1
  · have := (sp (1 + q) (by omega)).2
    rw [g _ _ (by omega) (by omega)]; exact r.2.2 q hq hb
theorem PGF.tr {M M1 M2 : pm_M} (a : PGF M M1) (b : PGF M1 M2) : PGF M M2 := fun p y p1 p2 => (b p y p1 p2).trans (a p y p1 p2)
/-- the text of one label -/
def lbt (m l : Nat) (lt : Int) (v : Ty) : List Int := if bit m l = true then (if lt = 1 then [44] else []) ++ ((120 + (l : Int)) :: 61 :: vtx (rP v l)) else []
theorem vtx_lbt {m : Nat} {x y z : Ty} {l1 l2 : Int} (e1 : l1 = if bit m 0 = true then 1 else 0) (e2 : l2 = if bit m 1 = true then 1 else l1) : [123] ++ lbt m 0 0 (vR m x y z) ++ lbt m 1 l1 (vR m x y z) ++ lbt m 2 l2 (vR m x y z) ++ [125] = vtx (vR m x y z) := by
  have r0 : rP (vR m x y z) 0 = x := rfl
  have r1 : rP (vR m x y z) 1 = y := rfl
  have r2 : rP (vR m x y z) 2 = z := rfl
  unfold lbt
  rw [r0, r1, r2]
  unfold vR
  rw [vtx, e2, e1]
  by_cases b0 : bit m 0 = true <;> by_cases b1 : bit m 1 = true <;> by_cases b2 : bit m 2 = true <;> simp [b0, b1, b2]
section PmH17
variable {d : Nat} {Q : Option Value → pm_S → Prop} {X cnt vs sc : Nat} {M : pm_M} {Rf : Nat → Nat → Nat} {K L : Nat → Nat} {n s zf zv zr : Nat} {H : Int → Option Ty}
theorem c_writeRecV {N deep m jw : Nat} {w : List Int} {i : Int} {x y z : Ty} (IH : WvC d N) (h : MR X Rf K L n zf zv zr) (hM : ∀ p i, R32 (M p i)) (hh : HPk (cvw M Rf) X cnt vs sc H) (vz : vs ≤ zv) (c6 : cnt ≤ 60) (i0 : 0 ≤ i ∧ i < vs) (m8 : m < 8) (j6 : jw < 60) (rv : RvK M Rf X H i jw m (vR m x y z)) (hd : deep + 1 + N = 40) (dw : DR M w) (w3 : 3 * deep ≤ w.length) (wl : w.length ≤ 100) (hQ : ∀ (M' : pm_M) (w' : List Int), PGF M M' → DR M' w' → (∀ p i, R32 (M' p i)) → TXw w w' (vtx (vR m x y z)) → w'.length ≤ 112 + 12 * (N + 1) → Q none (zM M', Rf, K, L, n, s)) : pm_Wc (d + 2 * N + 4) 128 [.ref 43, .ref 13, .int (zI i), .int (zI (deep : Int))] (zM M, Rf, K, L, n, s) Q := by
  have hG := h.1
  refine wc_in (ls0 := [some (.ref 43), some (.ref 13), some (.int (zI i)), some (.int (zI (deep : Int))), none, none]) (by decide) (Nat.le_of_ble_eq_true rfl) rfl rfl ?_
  refine wp_aload_n d128_0 rfl ?_
  refine wz_bipush d128_1 (by decide) ?_
  refine wp_virt (as := [.int (zI 123)]) (rest := []) d128_3 rfl rfl rfl (hG.o (by decide) rfl) rfl rfl (Nat.le_of_ble_eq_true rfl) ?_
  refine wc_deep (show d + 2 * N + 2 + 1 ≤ d + 2 * N + 3 by omega) ?_
  refine c_put hG hM dw (by omega) (by omega) (by omega) (fun M1 g1 d1 m1 => ?_)
  have l1 : (w ++ [123]).length = w.length + 1 := by rw [List.length_append]; rfl
  refine wz_iconst d128_6 ?_
  refine wp_istore d128_7 (Nat.le_of_ble_eq_true rfl) rfl ?_
  refine wz_iconst d128_9 ?_
  refine wp_istore d128_10 (Nat.le_of_ble_eq_true rfl) rfl ?_
  have r1 := PGF.rvk h g1 rv
  refine wv_label (l := 0) (lt := 0) (x := x) (y := y) (z := z) IH h m1 (PGF.hpk h g1 hh) vz c6 i0 (by decide) m8 r1.1 j6 r1.2.1 r1.2.2 hd (Or.inl rfl) d1 (by omega) (by omega) (fun M2 w2 lt2 g2 d2 m2 t2 l2 e2 => ?_)
  have g02 := g1.tr g2
  have r2 := PGF.rvk h g02 rv
  have q2 := t2.2
  refine wv_label (l := 1) (lt := lt2) (x := x) (y := y) (z := z) IH h m2 (PGF.hpk h g02 hh) vz c6 i0 (by decide) m8 r2.1 j6 r2.2.1 r2.2.2 hd (by rw [e2]; split; exact Or.inr rfl; exact Or.inl rfl) d2 (by omega) (by omega) (fun M3 w3 lt3 g3 d3 m3 t3 l3 e3 => ?_)
  have g03 := g02.tr g3
  have r3 := PGF.rvk h g03 rv
  have q3 := t3.2
  refine wv_label (l := 2) (lt := lt3) (x := x) (y := y) (z := z) IH h m3 (PGF.hpk h g03 hh) vz c6 i0 (by decide) m8 r3.1 j6 r3.2.1 r3.2.2 hd (by rw [e3, e2]; split; exact Or.inr rfl; split; exact Or.inr rfl; exact Or.inl rfl) d3 (by omega) (by omega) (fun M4 w4 lt4 g4 d4 m4 t4 l4 e4 => ?_)
  have g04 := g03.tr g4
  refine wp_iload d128_12 rfl ?_
  refine wz_iconst d128_14 ?_
  refine wz_icmp_ge (t := 93) d128_15 (by decide) ⟨by omega, by omega⟩ ⟨by omega, by omega⟩ (fun _ => ?_) (fun hb => absurd (by omega) hb)
  refine wp_aload_n d128_93 rfl ?_
  refine wz_bipush d128_94 (by decide) ?_
  refine wp_virt (as := [.int (zI 125)]) (rest := []) d128_96 rfl rfl rfl (hG.o (by decide) rfl) rfl rfl (Nat.le_of_ble_eq_true rfl) ?_
  refine wc_deep (show d + 2 * N + 2 + 1 ≤ d + 2 * N + 3 by omega) ?_
  refine c_put hG m4 d4 (by omega) (by omega) (by omega) (fun M5 g5 d5 m5 => ?_)
  refine wp_ret d128_99 rfl (hQ M5 _ (g04.tr g5) d5 m5 ?_ ?_)
  · rw [← vtx_lbt e2 e3]
    exact ((((TXw.one w [123]).tr t2).tr t3).tr t4).tr (TXw.one w4 [125])
  · rw [List.length_append]; show w4.length + 1 ≤ _; omega
theorem c_writeV : ∀ N, WvC d N
  | 0, Q, X, cnt, vs, sc, M, Rf, K, L, n, s, zf, zv, zr, deep, H, w, i, v, h, hM, hh, vz, c6, hi, hd, w3, dw, wl, hQ => by
    have hG := h.1
    obtain ⟨i0, vk⟩ := hh i v hi
    have zvl := h.2.2.1.2.2.2.2.1
    refine wc_in (ls0 := [some (.ref 43), some (.ref 13), some (.int (zI i)), some (.int (zI (deep : Int))), none]) (by decide) (Nat.le_of_ble_eq_true rfl) rfl rfl ?_
    refine wp_iload_n d127_0 rfl ?_
    refine wz_iconst d127_1 ?_
    refine wz_icmp_eq (t := 18) d127_2 (by decide) ⟨by omega, by omega⟩ ⟨by omega, by omega⟩ (fun hb => absurd hb (by omega)) (fun _ => ?_)
    refine wp_iload_n d127_5 rfl ?_
    refine wz_bipush d127_6 (by decide) ?_
    refine wz_icmp_ge (t := 18) d127_8 (by decide) ⟨by omega, by omega⟩ ⟨by omega, by omega⟩ (fun _ => ?_) (fun hb => absurd (by omega) hb)
    exact wp_ret d127_18 rfl (hQ M w (fun _ _ _ _ => rfl) dw hM ⟨Or.inr ⟨by omega, by rw [List.length_append]; omega⟩, Nat.le_refl _⟩ (by rw [if_neg (by omega)]; exact Nat.le_refl _))
  | N + 1, Q, X, cnt, vs, sc, M, Rf, K, L, n, s, zf, zv, zr, deep, H, w, i, v, h, hM, hh, vz, c6, hi, hd, w3, dw, wl, hQ => by
    have IH := c_writeV N
    have hG := h.1
    have hX := h.2.2.2.2.2.2
    have r8 := h.2.2.2.2.2.1
    have hVr := h.2.2.1
    have zvl := hVr.2.2.2.2.1
    have hXo : pm_At K n X 4 := by rcases hX with rfl | rfl <;> exact hG.o (by decide) rfl
    have Xp : 1 ≤ X := by omega
    obtain ⟨i0, vk⟩ := hh i v hi
    have hX1 : Rf X 0 = X + 1 := by rcases hX with rfl | rfl <;> exact hG.r (by decide +kernel)
    have hXa : pm_Ar K L n (X + 1) 0 60 := by rcases hX with rfl | rfl <;> exact hG.a (by decide) rfl rfl
    have c90 : cvw M Rf 90 i = M (Rf 51 0) i := cvw_v (g := 0) (by decide)
    have cX : ∀ q : Nat, q ≤ 6 → ∀ j, cvw M Rf (X + q) j = M (X + q) j := fun q hq j => cvw_o (by omega)
    have l1 : ∀ c : Int, (w ++ [c]).length = w.length + 1 := fun c => by rw [List.length_append]; rfl
    refine wc_in (ls0 := [some (.ref 43), some (.ref 13), some (.int (zI i)), some (.int (zI (deep : Int))), none]) (by decide) (Nat.le_of_ble_eq_true rfl) rfl rfl ?_
    refine wp_iload_n d127_0 rfl ?_
    refine wz_iconst d127_1 ?_
    refine wz_icmp_eq (t := 18) d127_2 (by decide) ⟨by omega, by omega⟩ ⟨by omega, by omega⟩ (fun hb => absurd hb (by omega)) (fun _ => ?_)
    refine wp_iload_n d127_5 rfl ?_
    refine wz_bipush d127_6 (by decide) ?_
    refine wz_icmp_ge (t := 18) d127_8 (by decide) ⟨by omega, by omega⟩ ⟨by omega, by omega⟩ (fun hb => absurd hb (by omega)) (fun _ => ?_)
    refine wp_aload_n d127_11 rfl ?_
    refine wp_virt (as := []) (rest := []) d127_12 rfl rfl rfl (hG.o (by decide) rfl) rfl rfl (Nat.le_of_ble_eq_true rfl) ?_
    refine wc_deep (show d + 1 ≤ d + 2 * (N + 1) + 2 by omega) ?_
    refine c_isOver hG dw.1 (by omega) (fun hb => ?_) (fun hb => ?_)
    · skip
      refine wz_if_eq (t := 19) d127_15 (by decide) ⟨by omega, by omega⟩ (fun hb => absurd hb (by omega)) (fun _ => ?_)
      exact wp_ret d127_18 rfl (hQ M w (fun _ _ _ _ => rfl) dw hM ⟨Or.inr ⟨by omega, by rw [List.length_append]; omega⟩, Nat.le_refl _⟩ (by rw [if_neg (by omega)]; exact Nat.le_refl _))
    · skip
      refine wz_if_eq (t := 19) d127_15 (by decide) ⟨by omega, by omega⟩ (fun _ => ?_) (fun hb => absurd (by omega) hb)
      rw [if_pos (by omega)] at hQ
      rcases vk with ⟨F, t, ρ, rfl, hk, nv, ee⟩ | ⟨m, x, y, z, rfl, m8, jr, e1, e3, hp⟩
      · skip
        obtain ⟨jr, k12, e1, e2⟩ := nv.kd
        rw [c90] at jr e1
        rw [cX 1 (by decide)] at e1
        have vt : vtx (vC t ρ) = if nKd t = 6 then [102] else [103] := by unfold vC; rw [vtx]
        generalize ej : M (Rf 51 0) i = j at *
        refine wp_aload_n d127_19 rfl ?_
        refine wp_getR (q := X) d127_20 rfl (hG.o (by decide) rfl) (by decide) r8 Xp ?_
        refine wp_getR (q := X + 1) d127_23 rfl hXo (by decide) hX1 (by omega) ?_
        refine wp_aload_n d127_26 rfl ?_
        refine wp_getR (q := 51) d127_27 rfl (hG.o (by decide) rfl) (by decide) (hG.r (by decide +kernel)) (by decide) ?_
        refine wp_getR (q := Rf 51 0) d127_30 rfl (hG.o (by decide) rfl) (by decide) rfl (hVr.1 0 (by decide)).1 ?_
        refine wp_iload_n d127_33 rfl ?_
        refine wz_iald (z := zv) (v := j) d127_34 (hVr.1 0 (by decide)) (by omega) (by omega) (by omega) (ej) ?_
        refine wz_iald (z := 60) (v := (nKd t : Int) - 5) d127_35 hXa (by omega) (by omega) (by omega) (e1) ?_
        refine wp_istore d127_36 (Nat.le_of_ble_eq_true rfl) rfl ?_
        refine wp_iload d127_38 rfl ?_
        refine wz_iconst d127_40 ?_
        refine wz_icmp_ne (t := 53) d127_41 (by decide) ⟨by omega, by omega⟩ ⟨by omega, by omega⟩ (fun hne => ?_) (fun hek => ?_)
        · skip
          have k8 : nKd t = 8 := by omega
          refine wp_iload d127_53 rfl ?_
          refine wz_iconst d127_55 ?_
          refine wz_icmp_ne (t := 68) d127_56 (by decide) ⟨by omega, by omega⟩ ⟨by omega, by omega⟩ (fun hb => absurd (by omega) hb) (fun _ => ?_)
          refine wp_aload_n d127_59 rfl ?_
          refine wz_bipush d127_60 (by decide) ?_
          refine wp_virt (as := [.int (zI 103)]) (rest := []) d127_62 rfl rfl rfl (hG.o (by decide) rfl) rfl rfl (Nat.le_of_ble_eq_true rfl) ?_
          refine wc_deep (show d + 1 ≤ d + 2 * (N + 1) + 2 by omega) ?_
          refine c_put hG hM dw (by omega) (by omega) (by omega) (fun M1 g1 d1 m1 => ?_)
          refine wp_goto (t := 75) d127_65 (by decide) ?_
          exact wp_ret d127_75 rfl (hQ M1 _ g1 d1 m1 (by rw [vt, if_neg (by omega)]; exact TXw.one w [103]) (by rw [l1]; omega))
        · skip
          have k6 : nKd t = 6 := by omega
          refine wp_aload_n d127_44 rfl ?_
          refine wz_bipush d127_45 (by decide) ?_
          refine wp_virt (as := [.int (zI 102)]) (rest := []) d127_47 rfl rfl rfl (hG.o (by decide) rfl) rfl rfl (Nat.le_of_ble_eq_true rfl) ?_
          refine wc_deep (show d + 1 ≤ d + 2 * (N + 1) + 2 by omega) ?_
          refine c_put hG hM dw (by omega) (by omega) (by omega) (fun M1 g1 d1 m1 => ?_)
          refine wp_goto (t := 75) d127_50 (by decide) ?_
          exact wp_ret d127_75 rfl (hQ M1 _ g1 d1 m1 (by rw [vt, if_pos k6]; exact TXw.one w [102]) (by rw [l1]; omega))
      · skip
        rw [c90] at jr e1 e3
        rw [cX 1 (by decide)] at e1
        rw [cX 3 (by decide)] at e3
        have hp' : ∀ g : Nat, g < 3 → bit m g = true → H (M (Rf 51 (1 + g)) i) = some (rP (vR m x y z) g) := fun g hg hb => by
          have := hp g hg hb
          rwa [show 91 + g = 90 + (1 + g) by omega, cvw_v (by omega)] at this
        obtain ⟨jw, ejw⟩ : ∃ jw : Nat, M (Rf 51 0) i = (jw : Int) := ⟨(M (Rf 51 0) i).toNat, by omega⟩
        rw [ejw] at jr e1 e3
        refine wp_aload_n d127_19 rfl ?_
        refine wp_getR (q := X) d127_20 rfl (hG.o (by decide) rfl) (by decide) r8 Xp ?_
        refine wp_getR (q := X + 1) d127_23 rfl hXo (by decide) hX1 (by omega) ?_
        refine wp_aload_n d127_26 rfl ?_
        refine wp_getR (q := 51) d127_27 rfl (hG.o (by decide) rfl) (by decide) (hG.r (by decide +kernel)) (by decide) ?_
        refine wp_getR (q := Rf 51 0) d127_30 rfl (hG.o (by decide) rfl) (by decide) rfl (hVr.1 0 (by decide)).1 ?_
        refine wp_iload_n d127_33 rfl ?_
        refine wz_iald (z := zv) (v := (jw : Int)) d127_34 (hVr.1 0 (by decide)) (by omega) (by omega) (by omega) (ejw) ?_
        refine wz_iald (z := 60) (v := 5) d127_35 hXa (by omega) (by omega) (by omega) (e1) ?_
        refine wp_istore d127_36 (Nat.le_of_ble_eq_true rfl) rfl ?_
        refine wp_iload d127_38 rfl ?_
        refine wz_iconst d127_40 ?_
        refine wz_icmp_ne (t := 53) d127_41 (by decide) ⟨by omega, by omega⟩ ⟨by omega, by omega⟩ (fun _ => ?_) (fun hb => absurd hb (by omega))
        refine wp_iload d127_53 rfl ?_
        refine wz_iconst d127_55 ?_
        refine wz_icmp_ne (t := 68) d127_56 (by decide) ⟨by omega, by omega⟩ ⟨by omega, by omega⟩ (fun _ => ?_) (fun hb => absurd hb (by omega))
        refine wp_aload_n d127_68 rfl ?_
        refine wp_aload_n d127_69 rfl ?_
        refine wp_iload_n d127_70 rfl ?_
        refine wp_iload_n d127_71 rfl ?_
        refine wp_virt (as := [.int (zI (deep : Int)), .int (zI i), .ref 13]) (rest := []) d127_72 rfl rfl rfl (hG.o (by decide) rfl) rfl rfl (Nat.le_of_ble_eq_true rfl) ?_
        refine c_writeRecV (N := N) IH h hM hh vz c6 i0 m8 (by omega) ⟨ejw, e3, hp'⟩ (by omega) dw w3 (by omega) (fun M' w' g' d' m' t' l' => ?_)
        exact wp_ret d127_75 rfl (hQ M' w' g' d' m' t' l')
end PmH17
