/-! THE CLASS: a value is written. -/
/-- u was written behind w; or both are too long -/
def TXw (w w' u : List Int) : Prop := (w' = w ++ u ∨ (100 < w'.length ∧ 100 < (w ++ u).length)) ∧ w.length ≤ w'.length
theorem TXw.refl (w : List Int) : TXw w w [] := ⟨Or.inl (by rw [List.append_nil]), Nat.le_refl _⟩
theorem TXw.tr {w w1 w2 u1 u2 : List Int} (h1 : TXw w w1 u1) (h2 : TXw w1 w2 u2) : TXw w w2 (u1 ++ u2) := by
  obtain ⟨a, a'⟩ := h1
  obtain ⟨b, b'⟩ := h2
  refine ⟨?_, by omega⟩
  rcases a with rfl | ⟨a1, a2⟩
  · rcases b with rfl | ⟨b1, b2⟩
    · exact Or.inl (List.append_assoc _ _ _)
    · exact Or.inr ⟨b1, by rw [← List.append_assoc]; exact b2⟩
  · refine Or.inr ⟨by omega, ?_⟩
    rw [← List.append_assoc, List.length_append]
    omega
theorem TXw.one (w u : List Int) : TXw w (w ++ u) u := ⟨Or.inl rfl, by rw [List.length_append]; omega⟩
theorem PGF.hpk {X cnt vs sc : Nat} {M M' : pm_M} {Rf : Nat → Nat → Nat} {K L : Nat → Nat} {n zf zv zr : Nat} {H : Int → Option Ty} (h : MR X Rf K L n zf zv zr) (g : PGF M M') (hh : HPk (cvw M Rf) X cnt vs sc H) : HPk (cvw M' Rf) X cnt vs sc H := by
  have hX := h.2.2.2.2.2.2
  have sp := h.sep.1
  have e : ∀ (p : Nat) (i : Int), p ≠ 15 → p ≠ 13 → p < 98 → cvw M' Rf p i = cvw M Rf p i := by
    intro p i p1 p2 p3
    unfold cvw
    by_cases c1 : 94 ≤ p ∧ p ≤ 97
    · have := (sp (p - 94) (by omega)).1
      rw [if_pos c1, if_pos c1]; exact g _ i (by omega) (by omega)
    · rw [if_neg c1, if_neg c1]
      by_cases c2 : 90 ≤ p ∧ p ≤ 93
      · have := (sp (p - 90) (by omega)).2
        rw [if_pos c2, if_pos c2]; exact g _ i (by omega) (by omega)
      · rw [if_neg c2, if_neg c2]
        by_cases c3 : 87 ≤ p ∧ p ≤ 89
        · rw [if_pos c3, if_pos c3]; exact g _ i (by omega) (by omega)
        · rw [if_neg c3, if_neg c3]; exact g _ i (by omega) (by omega)
  exact hh.keep ⟨fun p i p1 p2 => e p i (by omega) (by omega) (by omega), fun p i p1 p2 _ _ => e p i (by omega) (by omega) (by omega), fun i _ _ => e 90 i (by omega) (by omega) (by omega), fun i g' _ hg' => e (91 + g') i (by omega) (by omega) (by omega)⟩ (Nat.le_refl _)
def WvC (d N : Nat) : Prop := ∀ (Q : Option Value → pm_S → Prop) (X cnt vs sc : Nat) (M : pm_M) (Rf : Nat → Nat → Nat) (K L : Nat → Nat) (n s zf zv zr deep : Nat) (H : Int → Option Ty) (w : List Int) (i : Int) (v : Ty), MR X Rf K L n zf zv zr → (∀ p i, R32 (M p i)) → HPk (cvw M Rf) X cnt vs sc H → vs ≤ zv → cnt ≤ 60 → H i = some v → deep + N = 40 → 3 * deep ≤ w.length → DR M w → w.length ≤ 1000 → (∀ (M' : pm_M) (w' : List Int), PGF M M' → DR M' w' → (∀ p i, R32 (M' p i)) → TXw w w' (vtx v) → w'.length ≤ (if w.length ≤ 100 then 112 + 12 * N else w.length) → Q none (zM M', Rf, K, L, n, s)) → pm_Wc (d + 2 * N + 3) 127 [.ref 43, .ref 13, .int (zI i), .int (zI (deep : Int))] (zM M, Rf, K, L, n, s) Q
section PmH16
variable {d : Nat} {Q : Option Value → pm_S → Prop} {X cnt vs sc : Nat} {M : pm_M} {Rf : Nat → Nat → Nat} {K L : Nat → Nat} {n s zf zv zr : Nat} {H : Int → Option Ty}
theorem wv_label {N deep m l : Nat} {w : List Int} {i : Int} {jw : Nat} {x y z : Ty} {lt : Int} (IH : WvC d N) (h : MR X Rf K L n zf zv zr) (hM : ∀ p i, R32 (M p i)) (hh : HPk (cvw M Rf) X cnt vs sc H) (vz : vs ≤ zv) (c6 : cnt ≤ 60) (i0 : 0 ≤ i ∧ i < vs) (hl : l < 3) (m8 : m < 8) (ej : M (Rf 51 0) i = (jw : Int)) (j6 : jw < 60) (em : M (X + 3) (jw : Int) = (m : Int)) (hp : ∀ g : Nat, g < 3 → bit m g = true → H (M (Rf 51 (1 + g)) i) = some (rP (vR m x y z) g)) (hd : deep + 1 + N = 40) (hlt : lt = 0 ∨ lt = 1) (dw : DR M w) (w3 : 3 * deep + 1 ≤ w.length) (wl : w.length ≤ 112 + 12 * N + 3 * l) (hQ : ∀ (M' : pm_M) (w' : List Int) (lt' : Int), PGF M M' → DR M' w' → (∀ p i, R32 (M' p i)) → TXw w w' (if bit m l = true then (if lt = 1 then [44] else []) ++ ((120 + (l : Int)) :: 61 :: vtx (rP (vR m x y z) l)) else []) → w'.length ≤ 112 + 12 * N + 3 * (l + 1) → lt' = (if bit m l = true then 1 else lt) → pm_Wp none (d + 2 * N + 3) 128 12 [some (.ref 43), some (.ref 13), some (.int (zI i)), some (.int (zI (deep : Int))), some (.int (zI lt')), some (.int (zI ((l + 1 : Nat) : Int)))] [] (zM M', Rf, K, L, n, s) Q) : pm_Wp none (d + 2 * N + 3) 128 12 [some (.ref 43), some (.ref 13), some (.int (zI i)), some (.int (zI (deep : Int))), some (.int (zI lt)), some (.int (zI (l : Int)))] [] (zM M, Rf, K, L, n, s) Q := by
  have hG := h.1
  have hX := h.2.2.2.2.2.2
  have r8 := h.2.2.2.2.2.1
  have hVr := h.2.2.1
  have zvl := hVr.2.2.2.2.1
  have hXo : pm_At K n X 4 := by rcases hX with rfl | rfl <;> exact hG.o (by decide) rfl
  have Xp : 1 ≤ X := by omega
  refine wp_iload d128_12 rfl ?_
  refine wz_iconst d128_14 ?_
  refine wz_icmp_ge (t := 93) d128_15 (by decide) ⟨by omega, by omega⟩ ⟨by omega, by omega⟩ (fun hb => absurd hb (by omega)) (fun _ => ?_)
  refine wp_aload_n d128_18 rfl ?_
  refine wp_getR (q := X) d128_19 rfl (hG.o (by decide) rfl) (by decide) r8 Xp ?_
  refine wp_aload_n d128_22 rfl ?_
  refine wp_getR (q := 51) d128_23 rfl (hG.o (by decide) rfl) (by decide) (hG.r (by decide +kernel)) (by decide) ?_
  refine wp_getR (q := Rf 51 0) d128_26 rfl (hG.o (by decide) rfl) (by decide) rfl (hVr.1 0 (by decide)).1 ?_
  refine wp_iload_n d128_29 rfl ?_
  refine wz_iald (z := zv) (v := (jw : Int)) d128_30 (hVr.1 0 (by decide)) (by omega) (by omega) (by omega) (ej) ?_
  refine wp_iload d128_31 rfl ?_
  refine wp_virt (as := [.int (zI (l : Int)), .int (zI (jw : Int))]) (rest := []) d128_33 rfl rfl rfl hXo rfl rfl (Nat.le_of_ble_eq_true rfl) ?_
  refine wc_deep (show d + 2 * N + 2 + 1 ≤ d + 2 * N + 3 by omega) ?_
  refine c_tholds (X := X) (w := jw) (m := m) (g := l) hG hX j6 em m8 hl (fun hb => ?_) (fun hb => ?_)
  · skip
    refine wz_if_eq (t := 87) d128_36 (by decide) ⟨by omega, by omega⟩ (fun hb => absurd hb (by omega)) (fun _ => ?_)
    have part : ∀ (M1 : pm_M) (w1 : List Int) (lt1 : Int), PGF M M1 → DR M1 w1 → (∀ p i, R32 (M1 p i)) → TXw w w1 (if lt = 1 then [44] else []) → w1.length ≤ w.length + 1 → pm_Wp none (d + 2 * N + 3) 128 53 [some (.ref 43), some (.ref 13), some (.int (zI i)), some (.int (zI (deep : Int))), some (.int (zI 1)), some (.int (zI (l : Int)))] [] (zM M1, Rf, K, L, n, s) Q := by
      intro M1 w1 lt1 g1 d1 m1 t1 l1
      refine wp_aload_n d128_53 rfl ?_
      refine wz_bipush d128_54 (by decide) ?_
      refine wp_iload d128_56 rfl ?_
      refine wz_iadd d128_58 ?_
      refine wz_i2c d128_59 (by omega) (by omega) ?_
      refine wp_virt (as := [.int (zI (120 + (l : Int)))]) (rest := []) d128_60 rfl rfl rfl (hG.o (by decide) rfl) rfl rfl (Nat.le_of_ble_eq_true rfl) ?_
      refine wc_deep (show d + 2 * N + 2 + 1 ≤ d + 2 * N + 3 by omega) ?_
      refine c_put hG m1 d1 (by omega) (by omega) (by omega) (fun M2 g2 d2 m2 => ?_)
      refine wp_aload_n d128_63 rfl ?_
      refine wz_bipush d128_64 (by decide) ?_
      refine wp_virt (as := [.int (zI 61)]) (rest := []) d128_66 rfl rfl rfl (hG.o (by decide) rfl) rfl rfl (Nat.le_of_ble_eq_true rfl) ?_
      refine wc_deep (show d + 2 * N + 2 + 1 ≤ d + 2 * N + 3 by omega) ?_
      refine c_put hG m2 d2 (by rw [List.length_append]; show w1.length + 1 < 1000000; omega) (by omega) (by omega) (fun M3 g3 d3 m3 => ?_)
      refine wp_aload_n d128_69 rfl ?_
      refine wp_aload_n d128_70 rfl ?_
      refine wp_aload_n d128_71 rfl ?_
      refine wp_getR (q := 51) d128_72 rfl (hG.o (by decide) rfl) (by decide) (hG.r (by decide +kernel)) (by decide) ?_
      refine wp_iload_n d128_75 rfl ?_
      refine wp_iload d128_76 rfl ?_
      refine wp_virt (as := [.int (zI (l : Int)), .int (zI i)]) (rest := [.ref 13, .ref 43]) d128_78 rfl rfl rfl (hG.o (by decide) rfl) rfl rfl (Nat.le_of_ble_eq_true rfl) ?_
      refine wc_deep (show d + 2 * N + 2 + 1 ≤ d + 2 * N + 3 by omega) ?_
      refine c_vpart (X := X) h hl i0.1 (by omega) ?_
      have g03 : PGF M M3 := fun p y p1 p2 => (g3 p y p1 p2).trans ((g2 p y p1 p2).trans (g1 p y p1 p2))
      have sv := (h.sep.1 (1 + l) (by omega)).2
      rw [show M3 (Rf 51 (1 + l)) i = M (Rf 51 (1 + l)) i from g03 _ _ (by omega) (by omega)]
      refine wp_iload_n d128_81 rfl ?_
      refine wz_iconst d128_82 ?_
      refine wz_iadd d128_83 ?_
      refine wp_virt (as := [.int (zI ((deep : Int) + 1)), .int (zI (M (Rf 51 (1 + l)) i)), .ref 13]) (rest := []) d128_84 rfl rfl rfl (hG.o (by decide) rfl) rfl rfl (Nat.le_of_ble_eq_true rfl) ?_
      rw [show (deep : Int) + 1 = ((deep + 1 : Nat) : Int) from rfl]
      have l3 : (w1 ++ [120 + (l : Int)] ++ [61]).length = w1.length + 2 := by rw [List.length_append, List.length_append]; rfl
      refine IH _ X cnt vs sc M3 Rf K L n s zf zv zr (deep + 1) H _ _ _ h m3 (PGF.hpk h g03 hh) vz c6 (hp l hl hb) hd (by rw [l3]; have := t1.2; omega) d3 (by rw [l3]; omega) (fun M4 w4 g4 d4 m4 t4 l4 => ?_)
      rw [l3] at l4
      refine wz_iinc d128_87 rfl rfl ?_
      refine wp_goto (t := 12) d128_90 (by decide) ?_
      refine hQ M4 w4 1 (fun p y p1 p2 => (g4 p y p1 p2).trans (g03 p y p1 p2)) d4 m4 ?_ ?_ (by rw [if_pos hb])
      · rw [if_pos hb]
        have := ((t1.tr (TXw.one w1 [120 + (l : Int)])).tr (TXw.one (w1 ++ [120 + (l : Int)]) [61])).tr t4
        simp only [List.append_assoc, List.cons_append, List.nil_append] at this
        exact this
      · split at l4 <;> omega
    refine wp_iload d128_39 rfl ?_
    refine wz_if_eq (t := 50) d128_41 (by decide) ⟨by omega, by omega⟩ (fun hc => ?_) (fun hc => ?_)
    · skip
      refine wz_iconst d128_50 ?_
      refine wp_istore d128_51 (Nat.le_of_ble_eq_true rfl) rfl ?_
      exact part M w 0 (fun _ _ _ _ => rfl) dw hM (by rw [if_neg (by omega)]; exact TXw.refl w) (by omega)
    · skip
      refine wp_aload_n d128_44 rfl ?_
      refine wz_bipush d128_45 (by decide) ?_
      refine wp_virt (as := [.int (zI 44)]) (rest := []) d128_47 rfl rfl rfl (hG.o (by decide) rfl) rfl rfl (Nat.le_of_ble_eq_true rfl) ?_
      refine wc_deep (show d + 2 * N + 2 + 1 ≤ d + 2 * N + 3 by omega) ?_
      refine c_put hG hM dw (by omega) (by omega) (by omega) (fun M1 g1 d1 m1 => ?_)
      refine wz_iconst d128_50 ?_
      refine wp_istore d128_51 (Nat.le_of_ble_eq_true rfl) rfl ?_
      exact part M1 _ 0 g1 d1 m1 (by rw [if_pos (by omega)]; exact TXw.one w [44]) (by rw [List.length_append]; exact Nat.le_refl _)
  · skip
    refine wz_if_eq (t := 87) d128_36 (by decide) ⟨by omega, by omega⟩ (fun _ => ?_) (fun hb => absurd (by omega) hb)
    refine wz_iinc d128_87 rfl rfl ?_
    refine wp_goto (t := 12) d128_90 (by decide) ?_
    exact hQ M w lt (fun _ _ _ _ => rfl) dw hM (by rw [if_neg hb]; exact TXw.refl w) (by omega) (by rw [if_neg hb])
end PmH16
