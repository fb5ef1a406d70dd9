/-! THE CLASS: isSame. -/
section PmC5
variable {d : Nat} {M : pm_M} {Rf : Nat → Nat → Nat} {K L : Nat → Nat} {n s : Nat}
set_option maxRecDepth 20000 in
set_option maxHeartbeats 1000000 in
theorem c_same {z : Nat} {cn : Int} (hG : pm_G Rf K L n) (hR : RmI Rf K L n z) (hM : ∀ p i, R32 (M p i)) (hcn : cn ≤ z) : ∀ (N : Nat) (S T : Ty) (i j : Int) (deep dS dT N' : Nat) (Q : Option Value → pm_S → Prop), ok dS S = true → ok dT T = true → dS + N ≤ 3000 → ndf M Rf cn N S i → ndf M Rf cn N' T j → deep + N ≤ 40 → (S = T → Q (some (.int (zI 1))) (zM M, Rf, K, L, n, s)) → (S ≠ T → Q (some (.int (zI 0))) (zM M, Rf, K, L, n, s)) → pm_Wc (d + N + 2) 41 [.ref 6, .int (zI i), .int (zI j), .int (zI (deep : Int))] (zM M, Rf, K, L, n, s) Q
  | 0, _, _, _, _, _, _, _, _, _, _, _, _, h, _, _, _, _ => h.elim
  | N + 1, _, _, _, _, _, _, _, 0, _, _, _, _, _, h, _, _, _ => h.elim
  | N + 1, S, T, i, j, deep, dS, dT, N' + 1, Q, oS, oT, hdS, nS, nT, hdeep, h1, h0 => by
    have hz := hR.2.2.2.2
    have inj : i = j → S = T := fun e => by subst e; exact ndf_inj oS oT nS nT
    obtain ⟨⟨i0, i1, iC, -, iL⟩, iP⟩ := nS
    obtain ⟨⟨j0, j1, jC, -, jL⟩, jP⟩ := nT
    have cS := cc_small oS (by omega)
    refine wc_in (ls0 := [some (.ref 6), some (.int (zI i)), some (.int (zI j)), some (.int (zI (deep : Int))), none]) (by decide) (Nat.le_of_ble_eq_true rfl) rfl rfl ?_
    refine wp_iload_n d41_0 rfl ?_
    refine wp_iload_n d41_1 rfl ?_
    refine wz_icmp_ne (t := 7) d41_2 (by decide) ⟨by omega, by omega⟩ ⟨by omega, by omega⟩ (fun hb => ?_) (fun hb => ?_)
    · refine wp_iload_n d41_7 rfl ?_
      refine wz_bipush d41_8 (by decide) ?_
      refine wz_icmp_ge (t := 28) d41_10 (by decide) ⟨by omega, by omega⟩ ⟨by omega, by omega⟩ (fun hb => absurd hb (by omega)) (fun _ => ?_)
      refine wp_aload_n d41_13 rfl ?_
      refine wp_getR (q := Rf 6 0) d41_14 rfl (hG.o (by decide) rfl) (by decide) rfl (hR.1 0 (by decide)).1 ?_
      refine wp_iload_n d41_17 rfl ?_
      refine wz_iald (z := z) (v := (cc (hd S) : Int)) d41_18 (hR.1 0 (by decide)) i0 (by omega) (by omega) iC ?_
      refine wp_aload_n d41_19 rfl ?_
      refine wp_getR (q := Rf 6 0) d41_20 rfl (hG.o (by decide) rfl) (by decide) rfl (hR.1 0 (by decide)).1 ?_
      refine wp_iload_n d41_23 rfl ?_
      refine wz_iald (z := z) (v := M (Rf 6 0) j) d41_24 (hR.1 0 (by decide)) j0 (by omega) (by omega) rfl ?_
      refine wz_icmp_eq (t := 30) d41_25 (by decide) ⟨by omega, by omega⟩ (hM _ _) (fun hb => ?_) (fun hb => ?_)
      · rw [jC] at hb
        have ehd : hd S = hd T := cc_eq (by omega)
        have hpe : ∀ g, hp T g = hp S g := fun g => by unfold hp; rw [ehd]
        have loop : ∀ (k g : Nat), g + k = 3 → (∀ g', g' < g → hp S g' = true → pt S g' = pt T g') → pm_Wp none (d + (N + 1) + 1) 41 33 [some (.ref 6), some (.int (zI i)), some (.int (zI j)), some (.int (zI (deep : Int))), some (.int (zI (g : Int)))] [] (zM M, Rf, K, L, n, s) Q := by
          intro k
          induction k with
          | zero =>
            intro g hgk hg
            have e : g = 3 := by omega
            subst e
            refine wp_iload d41_33 rfl ?_
            refine wz_iconst d41_35 ?_
            refine wz_icmp_ge (t := 85) d41_36 (by decide) ⟨by omega, by omega⟩ ⟨by omega, by omega⟩ (fun _ => ?_) (fun hb => absurd (by omega) hb)
            refine wz_iconst d41_85 ?_
            exact wp_ret d41_86 rfl (h1 (eq_parts oS oT ehd (fun g hg3 hb => hg g hg3 hb)))
          | succ k ih =>
            intro g hgk hg
            have next := ih (g + 1) (by omega)
            refine wp_iload d41_33 rfl ?_
            refine wz_iconst d41_35 ?_
            refine wz_icmp_ge (t := 85) d41_36 (by decide) ⟨by omega, by omega⟩ ⟨by omega, by omega⟩ (fun hb => absurd hb (by omega)) (fun _ => ?_)
            refine wp_aload_n d41_39 rfl ?_
            refine wp_getR (q := Rf 6 0) d41_40 rfl (hG.o (by decide) rfl) (by decide) rfl (hR.1 0 (by decide)).1 ?_
            refine wp_iload_n d41_43 rfl ?_
            refine wz_iald (z := z) (v := (cc (hd S) : Int)) d41_44 (hR.1 0 (by decide)) i0 (by omega) (by omega) iC ?_
            refine wp_iload d41_45 rfl ?_
            refine wp_stat (as := [.int (zI (g : Int)), .int (zI (cc (hd S) : Int))]) (rest := []) d41_47 rfl rfl rfl rfl rfl (Nat.le_of_ble_eq_true rfl) ?_
            refine c_holds (c := cc (hd S)) (i := g) cS (by omega) (fun hb => ?_) (fun hb => ?_)
            · have hb : hp S g = true := hb
              have hbT : hp T g = true := by rw [hpe]; exact hb
              obtain ⟨d1, hd1, o1⟩ := pt_ok oS (by omega) hb
              obtain ⟨d2, -, o2⟩ := pt_ok oT (by omega) hbT
              refine wz_if_eq (t := 79) d41_50 (by decide) ⟨by omega, by omega⟩ (fun hb => absurd hb (by decide)) (fun _ => ?_)
              refine wp_aload_n d41_53 rfl ?_
              refine wp_aload_n d41_54 rfl ?_
              refine wp_iload_n d41_55 rfl ?_
              refine wp_iload d41_56 rfl ?_
              refine wp_virt (as := [.int (zI (g : Int)), .int (zI i)]) (rest := [.ref 6]) d41_58 rfl rfl rfl (hG.o (by decide) rfl) rfl rfl (Nat.le_of_ble_eq_true rfl) ?_
              refine c_part hG hR i0 (by omega) (by omega) ?_
              refine wp_aload_n d41_61 rfl ?_
              refine wp_iload_n d41_62 rfl ?_
              refine wp_iload d41_63 rfl ?_
              refine wp_virt (as := [.int (zI (g : Int)), .int (zI j)]) (rest := [.int (zI (M (Rf 6 (1 + g)) i)), .ref 6]) d41_65 rfl rfl rfl (hG.o (by decide) rfl) rfl rfl (Nat.le_of_ble_eq_true rfl) ?_
              refine c_part hG hR j0 (by omega) (by omega) ?_
              refine wp_iload_n d41_68 rfl ?_
              refine wz_iconst d41_69 ?_
              refine wz_iadd d41_70 ?_
              refine wp_virt (as := [.int (zI ((deep : Int) + 1)), .int (zI (M (Rf 6 (1 + g)) j)), .int (zI (M (Rf 6 (1 + g)) i))]) (rest := []) d41_71 rfl rfl rfl (hG.o (by decide) rfl) rfl rfl (Nat.le_of_ble_eq_true rfl) ?_
              refine c_same hG hR hM hcn N (pt S g) (pt T g) _ _ (deep + 1) d1 d2 N' _ o1 o2 (by omega) (iP g (by omega) hb) (jP g (by omega) hbT) (by omega) (fun e => ?_) (fun e => ?_)
              · refine wz_if_ne (t := 79) d41_74 (by decide) ⟨by omega, by omega⟩ (fun _ => ?_) (fun hb => absurd hb (by decide))
                refine wz_iinc d41_79 rfl rfl ?_
                refine wp_goto (t := 33) d41_82 (by decide) ?_
                refine next (fun g' hg' hb' => ?_)
                by_cases eg : g' = g
                · subst eg; exact e
                · exact hg g' (by omega) hb'
              · refine wz_if_ne (t := 79) d41_74 (by decide) ⟨by omega, by omega⟩ (fun hb => absurd (by decide) hb) (fun _ => ?_)
                refine wz_iconst d41_77 ?_
                exact wp_ret d41_78 rfl (h0 (fun eST => e (by rw [eST])))
            · refine wz_if_eq (t := 79) d41_50 (by decide) ⟨by omega, by omega⟩ (fun _ => ?_) (fun hb => absurd (by decide) hb)
              refine wz_iinc d41_79 rfl rfl ?_
              refine wp_goto (t := 33) d41_82 (by decide) ?_
              refine next (fun g' hg' hb' => ?_)
              by_cases eg : g' = g
              · subst eg; exact absurd hb' hb
              · exact hg g' (by omega) hb'
        refine wz_iconst d41_30 ?_
        refine wp_istore d41_31 (Nat.le_of_ble_eq_true rfl) rfl ?_
        exact loop 3 0 rfl (fun g' hg' _ => absurd hg' (Nat.not_lt_zero _))
      · refine wz_iconst d41_28 ?_
        refine wp_ret d41_29 rfl (h0 (fun e => hb ?_))
        rw [jC, e]
    · refine wz_iconst d41_5 ?_
      exact wp_ret d41_6 rfl (h1 (inj hb))
end PmC5
