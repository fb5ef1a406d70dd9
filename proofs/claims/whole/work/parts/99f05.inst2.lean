/-! THE MODEL: instance as one. -/
theorem spl_bd {k : Nat} {A : Ty} {en ce : Nat → Nat} {b0 p : Nat} (lA : (flat A).length ≤ 16) : ∀ m, (spl k A en ce b0 p m).length ≤ 16 * m
  | 0 => Nat.le_refl _
  | m + 1 => by
    have := spl_bd (k := k) (en := en) (ce := ce) (b0 := b0) (p := p) lA m
    show (spl k A en ce b0 p m ++ _).length ≤ _
    rw [List.length_append, itp_len]
    by_cases c : ce (p + m) = 16 + k
    · rw [if_pos c]; omega
    · rw [if_neg c]; omega
section PmF6
variable {d : Nat} {Q : Option Value → pm_S → Prop} {N : pm_M} {Rf : Nat → Nat → Nat} {K L : Nat → Nat} {n s : Nat}
theorem m_inst1 {i r q : Int} {k b0 c : Nat} {A : Ty} {en ce : Nat → Nat} (hG : pm_G Rf K L n) (hM : ∀ p i, R32 (N p i)) (r0 : 0 ≤ r) (r1 : r < 1100) (q0 : 0 ≤ q) (q1 : q < 1100) (k50 : k ≤ 50) (oA : ok k A = true) (lA : (flat A).length ≤ 16) (hA : Row N q 0 (flat A)) (hE : EnR N r c en ce) (hc : c ≤ 16) (h : pm_Wp none (d + 4) 192 70 [some (.ref 56), some (.int (zI i)), some (.int (zI r)), some (.int (zI 0)), some (.int (zI q)), some (.int (zI (k : Int))), some (.int (zI (b0 : Int))), some (.int (zI (c : Int))), some (.int (zI ((spl k A en ce b0 b0 (c - b0)).length : Int))), some (.int (zI (c : Int))), none, none, none, none, none] [] (zM N, Rf, K, L, n, s) Q) : ∀ (m p : Nat), p + m = c → b0 ≤ p → pm_Wp none (d + 4) 192 26 [some (.ref 56), some (.int (zI i)), some (.int (zI r)), some (.int (zI 0)), some (.int (zI q)), some (.int (zI (k : Int))), some (.int (zI (b0 : Int))), some (.int (zI (c : Int))), some (.int (zI ((spl k A en ce b0 b0 (p - b0)).length : Int))), some (.int (zI (p : Int))), none, none, none, none, none] [] (zM N, Rf, K, L, n, s) Q := by
  intro m
  induction m with
  | zero =>
    intro p hp bp
    have ep : p = c := by omega
    refine wp_iload d192_26 rfl ?_
    refine wp_iload d192_28 rfl ?_
    refine wz_icmp_ge (t := 70) d192_30 (by decide) ⟨by omega, by omega⟩ ⟨by omega, by omega⟩ (fun _ => ?_) (fun hb => absurd (by omega) hb)
    rw [ep]
    exact h
  | succ m ih =>
    intro p hp bp
    obtain ⟨ce1, ce2, -, -, -⟩ := hE.ce_le (j := p) (by omega)
    have le := itp_len k A (bas en ce p b0 (p - b0)) (ce p)
    have bd := spl_bd (k := k) (en := en) (ce := ce) (b0 := b0) (p := b0) lA (p - b0)
    have lx : (spl k A en ce b0 b0 (p + 1 - b0)).length = (spl k A en ce b0 b0 (p - b0)).length + (itp k A (bas en ce p b0 (p - b0)) (ce p)).length := by
      rw [show p + 1 - b0 = (p - b0) + 1 by omega]
      show (spl k A en ce b0 b0 (p - b0) ++ itp k A (bas en ce (b0 + (p - b0)) b0 (b0 + (p - b0) - b0)) (ce (b0 + (p - b0)))).length = _
      rw [show b0 + (p - b0) = p by omega, List.length_append]
    have nxt := ih (p + 1) (by omega) (by omega)
    rw [lx, le] at nxt
    refine wp_iload d192_26 rfl ?_
    refine wp_iload d192_28 rfl ?_
    refine wz_icmp_ge (t := 70) d192_30 (by decide) ⟨by omega, by omega⟩ ⟨by omega, by omega⟩ (fun hb => absurd hb (by omega)) (fun _ => ?_)
    refine wp_iload d192_33 rfl ?_
    refine wp_aload_n d192_35 rfl ?_
    refine wp_iload_n d192_36 rfl ?_
    refine wp_iload d192_37 rfl ?_
    refine wp_virt (as := [.int (zI (p : Int)), .int (zI r)]) (rest := [.int (zI (((spl k A en ce b0 b0 (p - b0)).length : Int)))]) d192_39 rfl rfl rfl (hG.o (by decide) rfl) rfl rfl (Nat.le_of_ble_eq_true rfl) ?_
    refine wc_deep (show d + 3 + 1 ≤ d + 4 by omega) ?_
    refine m_cellE hG r0 (by omega) hE (by omega) hc ?_
    refine wz_bipush d192_42 (by decide) ?_
    refine wp_iload d192_44 rfl ?_
    refine wz_iadd d192_46 ?_
    refine wz_icmp_ne (t := 60) d192_47 (by decide) ⟨by omega, by omega⟩ ⟨by omega, by omega⟩ (fun hq => ?_) (fun hq => ?_)
    · skip
      rw [if_neg (show ¬ ce p = 16 + k by omega), show (((spl k A en ce b0 b0 (p - b0)).length + 1 : Nat) : Int) = ((spl k A en ce b0 b0 (p - b0)).length : Int) + 1 by omega, show ((p + 1 : Nat) : Int) = (p : Int) + 1 by omega] at nxt
      refine wz_iconst d192_60 ?_
      refine wz_iadd d192_61 ?_
      refine wp_istore d192_62 (Nat.le_of_ble_eq_true rfl) rfl ?_
      refine wz_iinc d192_64 rfl rfl ?_
      refine wp_goto (t := 26) d192_67 (by decide) ?_
      exact nxt
    · skip
      rw [if_pos (show ce p = 16 + k by omega), show (((spl k A en ce b0 b0 (p - b0)).length + (flat A).length : Nat) : Int) = ((spl k A en ce b0 b0 (p - b0)).length : Int) + (0 + ((flat A).length : Int)) by omega, show ((p + 1 : Nat) : Int) = (p : Int) + 1 by omega] at nxt
      refine wp_aload_n d192_50 rfl ?_
      refine wp_iload d192_51 rfl ?_
      refine wz_iconst d192_53 ?_
      refine wp_virt (as := [.int (zI 0), .int (zI q)]) (rest := [.int (zI (((spl k A en ce b0 b0 (p - b0)).length : Int)))]) d192_54 rfl rfl rfl (hG.o (by decide) rfl) rfl rfl (Nat.le_of_ble_eq_true rfl) ?_
      refine wc_deep (show d + 2 + 2 ≤ d + 4 by omega) ?_
      refine m_end (l := flat A) hG hM q0 q1 (by omega) (by omega) hA (ok_pre A k oA) ?_
      refine wp_goto (t := 61) d192_57 (by decide) ?_
      refine wz_iadd d192_61 ?_
      refine wp_istore d192_62 (Nat.le_of_ble_eq_true rfl) rfl ?_
      refine wz_iinc d192_64 rfl rfl ?_
      refine wp_goto (t := 26) d192_67 (by decide) ?_
      exact nxt
theorem m_instance {i r q u : Int} {k : Nat} {X B A : Ty} (hG : pm_G Rf K L n) (hM : ∀ p i, R32 (N p i)) (hu : N 56 22 = u) (i0 : 0 ≤ i) (i1 : i < 60) (r0 : 0 ≤ r) (ru : r < u) (q0 : 0 ≤ q) (qu : q < u) (u1 : u + 20 < 1100) (u0 : 64 ≤ u) (k50 : k ≤ 50) (oF : ok k (tAll X B) = true) (lF : (flat (tAll X B)).length ≤ 16) (hF : Row N r 0 (flat (tAll X B))) (oA : ok k A = true) (lA : (flat A).length ≤ 16) (hA : Row N q 0 (flat A)) (h1 : (flat (sbt k A 0 B)).length ≤ 16 → ∀ N' : pm_M, (∀ p i, R32 (N' p i)) → (∀ p k, ¬ WIn i u p k → N' p k = N p k) → Row N' (4 + i) 0 (flat (sbt k A 0 B)) → Q (some (.int (zI 1))) (zM N', Rf, K, L, n, s)) (h0 : ¬ (flat (sbt k A 0 B)).length ≤ 16 → Q (some (.int (zI 0))) (zM N, Rf, K, L, n, s)) : pm_Wc (d + 5) 192 [.ref 56, .int (zI i), .int (zI r), .int (zI 0), .int (zI q), .int (zI (k : Int))] (zM N, Rf, K, L, n, s) Q := by
  obtain ⟨en, ce, hE, hAt⟩ := row_enD oF k50 lF hF
  obtain ⟨oX, oB⟩ := ok_all.mp oF
  have lc : (flat (tAll X B)).length = 1 + (flat X).length + (flat B).length := by rw [flat_all, List.length_cons, List.length_append]; omega
  have lX := flat_pos oX
  have lB := flat_pos oB
  have rows : Row N r (0 + 1) (flat X) ∧ Row N r (0 + 1 + (flat X).length) (flat B) := by
    rw [flat_all] at hF
    exact Row.app.mp hF.2
  have es : spl k A en ce (1 + (flat X).length) (1 + (flat X).length) (flat B).length = flat (sbt k A 0 B) := by
    have p1 := hAt.2.2 1 (by decide) (hp_all X B).2.1
    have o1 : off (tAll X B) 1 = (flat X).length := by
      show (flat (pt (tAll X B) 0)).length = _
      rw [(pt_all X B).1]
    rw [(pt_all X B).2.1, o1, Nat.zero_add] at p1
    exact spl_is 15 (k + 1) B (1 + (flat X).length) 0 oB (by omega) p1 (Nat.le_refl _) (fun q _ _ => by rw [Nat.sub_self]; rfl)
  have ec : (flat (tAll X B)).length - (1 + (flat X).length) = (flat B).length := by omega
  have bd := spl_bd (k := k) (en := en) (ce := ce) (b0 := 1 + (flat X).length) (p := 1 + (flat X).length) lA (flat B).length
  rw [es] at bd
  have oS := ok_sbt oA (flat B).length B 0 (Nat.le_refl _) oB
  refine wc_in (ls0 := [some (.ref 56), some (.int (zI i)), some (.int (zI r)), some (.int (zI 0)), some (.int (zI q)), some (.int (zI (k : Int))), none, none, none, none, none, none, none, none, none]) (by decide) (Nat.le_of_ble_eq_true rfl) rfl rfl ?_
  refine wp_aload_n d192_0 rfl ?_
  refine wp_iload_n d192_1 rfl ?_
  refine wp_iload_n d192_2 rfl ?_
  refine wz_iconst d192_3 ?_
  refine wz_iadd d192_4 ?_
  refine wp_virt (as := [.int (zI 1), .int (zI r)]) (rest := []) d192_5 rfl rfl rfl (hG.o (by decide) rfl) rfl rfl (Nat.le_of_ble_eq_true rfl) ?_
  refine wc_deep (show d + 2 + 2 ≤ d + 4 by omega) ?_
  refine m_end (l := flat X) hG hM r0 (by omega) (by omega) (by omega) rows.1 (ok_pre X _ oX) ?_
  rw [show (1 : Int) + ((flat X).length : Int) = ((1 + (flat X).length : Nat) : Int) by omega]
  refine wp_istore d192_8 (Nat.le_of_ble_eq_true rfl) rfl ?_
  refine wp_aload_n d192_10 rfl ?_
  refine wp_iload_n d192_11 rfl ?_
  refine wp_iload d192_12 rfl ?_
  refine wp_virt (as := [.int (zI (((1 + (flat X).length : Nat) : Int))), .int (zI r)]) (rest := []) d192_14 rfl rfl rfl (hG.o (by decide) rfl) rfl rfl (Nat.le_of_ble_eq_true rfl) ?_
  refine wc_deep (show d + 2 + 2 ≤ d + 4 by omega) ?_
  refine m_end (l := flat B) hG hM r0 (by omega) (by omega) (by omega) (by rw [show ((1 + (flat X).length : Nat) : Int) = (0 : Int) + 1 + ((flat X).length : Int) by omega]; exact rows.2) (ok_pre B _ oB) ?_
  rw [show ((1 + (flat X).length : Nat) : Int) + ((flat B).length : Int) = ((flat (tAll X B)).length : Int) by omega]
  refine wp_istore d192_17 (Nat.le_of_ble_eq_true rfl) rfl ?_
  refine wz_iconst d192_19 ?_
  refine wp_istore d192_20 (Nat.le_of_ble_eq_true rfl) rfl ?_
  refine wp_iload d192_22 rfl ?_
  refine wp_istore d192_24 (Nat.le_of_ble_eq_true rfl) rfl ?_
  have lp := m_inst1 (i := i) (b0 := 1 + (flat X).length) (s := s) (Q := Q) (d := d) hG hM r0 (by omega) q0 (by omega) k50 oA lA hA hE lF ?_ (flat B).length (1 + (flat X).length) (by omega) (Nat.le_refl _)
  · rw [Nat.sub_self] at lp
    exact lp
  rw [ec, es]
  refine wp_iload d192_70 rfl ?_
  refine wz_bipush d192_72 (by decide) ?_
  refine wz_icmp_le (t := 79) d192_74 (by decide) ⟨by omega, by omega⟩ ⟨by omega, by omega⟩ (fun hz => ?_) (fun hz => ?_)
  · skip
    refine wz_iconst d192_79 ?_
    refine wp_istore d192_80 (Nat.le_of_ble_eq_true rfl) rfl ?_
    refine wz_iconst d192_82 ?_
    refine wp_iload_n d192_83 rfl ?_
    refine wz_iadd d192_84 ?_
    refine wp_istore d192_85 (Nat.le_of_ble_eq_true rfl) rfl ?_
    refine wp_aload_n d192_87 rfl ?_
    refine wp_virt (as := []) (rest := []) d192_88 rfl rfl rfl (hG.o (by decide) rfl) rfl rfl (Nat.le_of_ble_eq_true rfl) ?_
    refine wc_deep (show d + 3 + 1 ≤ d + 4 by omega) ?_
    refine m_fresh hG hu ?_
    refine wp_istore d192_91 (Nat.le_of_ble_eq_true rfl) rfl ?_
    refine wp_iload d192_93 rfl ?_
    refine wp_istore d192_95 (Nat.le_of_ble_eq_true rfl) rfl ?_
    have lp := m_inst2 (d := d) (s := s) (Q := Q) (N := mset N 56 22 (u + 1)) (i := i) (r := r) (q := q) (u := u) (k := k) (b0 := 1 + (flat X).length) (c := (flat (tAll X B)).length) (A := A) (en := en) (ce := ce) (o3 := some (.int (zI 0))) (o8 := some (.int (zI ((flat (sbt k A 0 B)).length : Int)))) hG (mset_R32 hM ⟨by omega, by omega⟩) (mset_s _ _ _ _) i0 i1 r0 ru q0 qu u1 u0 k50 oA lA (Row.same (fun j _ _ => mset_p _ _ _ _ (by decide)) hA) (hE.mv lF (fun j _ _ => mset_p _ _ _ _ (by decide))) lF (by omega) (by omega) (by rw [ec, es]; omega) (by rw [ec, es]; exact ok_pre _ _ oS) (fun N' m1 m2 m3 => ?_) (flat B).length (1 + (flat X).length) (mset N 56 22 (u + 1)) (u + 1) none none (by omega) (Nat.le_refl _) (mset_R32 hM ⟨by omega, by omega⟩) (XPF.refl _ _) (mset_s _ _ _ _) (Int.le_refl _) (by omega) (by rw [Nat.sub_self]; trivial)
    · rw [Nat.sub_self] at lp
      exact lp
    · rw [ec, es] at m3
      refine h1 (by omega) N' m1 (fun p k' hw => ?_) m3
      rw [m2 p k' hw]
      unfold mset
      rw [if_neg (fun e => hw (Or.inl ⟨e.1, Or.inl e.2⟩))]
  · skip
    refine wz_iconst d192_77 ?_
    exact wp_ret d192_78 rfl (h0 (by omega))
end PmF6
