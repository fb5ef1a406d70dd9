/-! THE CLASS: isBelow. -/
theorem c_isBelow : ∀ (F d : Nat), BelC d F
  | 0, d => by
    intro Γ S T i j deep M Rf K L n s z cn Q bh hh
    obtain ⟨-, -, -, -, -, -, tk, -⟩ := bh
    have h1 := hgt_pos tk.2.1 (oh Γ)
    have h1 : 1 ≤ hgt (oh Γ) S := h1
    omega
  | F + 1, d => by
    intro Γ S T i j deep M Rf K L n s z cn Q bh hh hc hdp hΓ h
    have bh0 := bh
    obtain ⟨hG, hR, hM, hcn, c1, cz, tk, bn, nS, nT, lS, lT⟩ := bh
    have hn := hG.1
    have hz := hR.2.2.2.2
    have oT : ok Γ.length T = true := tk.2.2
    have cT := cc_small oT (by omega)
    have ccs := cc_cases (hd T)
    obtain ⟨⟨j0, j1, jC, -, jL⟩, jP⟩ := nT
    -- the mark is put back
    have fin : ∀ (M1 : pm_M) (R1 : Nat → Nat → Nat) (K1 L1 : Nat → Nat) (n1 s1 z1 : Nat) (v : Int), (v = 0 ∨ v = 1) → CX (WB Γ.length) M Rf K L n s z cn M1 R1 K1 L1 n1 s1 z1 → v = (if bel Γ S T = true then 1 else 0) → pm_Wp none (d + 3 * (F + 1) + 25) 48 41 [some (.ref 6), some (.int (zI i)), some (.int (zI j)), some (.int (zI (Γ.length : Int))), some (.int (zI (deep : Int))), some (.int (zI cn)), none] [.int (zI v)] (zM M1, R1, K1, L1, n1, s1) Q := by
      intro M1 R1 K1 L1 n1 s1 z1 v hv cx ev
      have q := h (mset M1 6 6 cn) R1 K1 L1 n1 s1 z1 (cx.set (fun g hg => (cx.r.ne6 hg).symm) (Or.inl ⟨rfl, rfl⟩) ⟨by omega, by omega⟩) (by rw [mset_s])
      rw [← ev] at q
      refine wp_istore d48_41 (Nat.le_of_ble_eq_true rfl) rfl ?_
      refine wp_aload_n d48_43 rfl ?_
      refine wp_iload d48_44 rfl ?_
      refine wz_putI (i := 6) d48_46 rfl (cx.g.o (by decide) rfl) rfl (by decide) rfl ?_
      refine wp_iload d48_49 rfl ?_
      rcases hv with e | e
      · subst e; exact wp_ret d48_51 rfl q
      · subst e; exact wp_ret d48_51 rfl q
    refine wc_in (ls0 := [some (.ref 6), some (.int (zI i)), some (.int (zI j)), some (.int (zI (Γ.length : Int))), some (.int (zI (deep : Int))), none, none]) (by decide) (Nat.le_of_ble_eq_true rfl) rfl rfl ?_
    refine wp_iload d48_0 rfl ?_
    refine wz_bipush d48_2 (by decide) ?_
    refine wz_icmp_lt (t := 9) d48_4 (by decide) ⟨by omega, by omega⟩ ⟨by omega, by omega⟩ (fun _ => ?_) (fun hb => absurd (by omega) hb)
    refine wp_aload_n d48_9 rfl ?_
    refine wz_getI (v := cn) d48_10 rfl (hG.o (by decide) rfl) (by decide) hcn ?_
    refine wp_istore d48_13 (Nat.le_of_ble_eq_true rfl) rfl ?_
    refine wp_aload_n d48_15 rfl ?_
    refine wp_getR (q := Rf 6 0) d48_16 rfl (hG.o (by decide) rfl) (by decide) rfl (hR.1 0 (by decide)).1 ?_
    refine wp_iload_n d48_19 rfl ?_
    refine wz_iald (z := z) (v := (cc (hd T) : Int)) d48_20 (hR.1 0 (by decide)) j0 (by omega) (by omega) jC ?_
    refine wz_if_eq (t := 36) d48_21 (by decide) ⟨by omega, by omega⟩ (fun hb => ?_) (fun hb => ?_)
    · have h0 : hd T = 0 := by omega
      refine wz_iconst d48_36 ?_
      refine wp_goto (t := 41) d48_37 (by decide) ?_
      exact fin M Rf K L n s z 1 (Or.inr rfl) (CX.refl hG hR hM) (by rw [if_pos (bel_top tk h0)])
    · have h0 : hd T ≠ 0 := by
        intro e
        rw [e] at hb
        exact hb rfl
      refine wp_aload_n d48_24 rfl ?_
      refine wp_iload_n d48_25 rfl ?_
      refine wp_iload_n d48_26 rfl ?_
      refine wp_iload_n d48_27 rfl ?_
      refine wp_iload d48_28 rfl ?_
      refine wp_virt (as := [.int (zI (deep : Int)), .int (zI (Γ.length : Int)), .int (zI j), .int (zI i)]) (rest := []) d48_30 rfl rfl rfl (hG.o (by decide) rfl) rfl rfl (Nat.le_of_ble_eq_true rfl) ?_
      refine wc_deep (show d + 1 + 3 * F + 27 ≤ d + 3 * (F + 1) + 25 by omega) ?_
      refine c_belowForm (c_isBelow F d) (c_isBelow F (d + 1)) bh0 h0 (by omega) hc (by omega) (by omega) (fun M1 R1 K1 L1 n1 s1 z1 cx => ?_)
      by_cases hb : bel Γ S T = true
      · rw [if_pos hb]
        refine wz_if_eq (t := 40) d48_33 (by decide) ⟨by omega, by omega⟩ (fun hb => absurd hb (by decide)) (fun _ => ?_)
        refine wz_iconst d48_36 ?_
        refine wp_goto (t := 41) d48_37 (by decide) ?_
        exact fin M1 R1 K1 L1 n1 s1 z1 1 (Or.inr rfl) cx (by rw [if_pos hb])
      · rw [if_neg hb]
        refine wz_if_eq (t := 40) d48_33 (by decide) ⟨by omega, by omega⟩ (fun _ => ?_) (fun hb => absurd (by decide) hb)
        refine wz_iconst d48_40 ?_
        exact fin M1 R1 K1 L1 n1 s1 z1 0 (Or.inl rfl) cx (by rw [if_neg hb])
