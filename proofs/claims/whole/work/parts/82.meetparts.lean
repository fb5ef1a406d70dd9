/-! THE CLASS: meetOfParts. -/
section PmC16
variable {d : Nat}
theorem c_meetParts {F g : Nat} (IH : JC 1 55 d F) {Γ : List Ty} {S T : Ty} {i j : Int} {deep : Nat} {M : pm_M} {Rf : Nat → Nat → Nat} {K L : Nat → Nat} {n s z : Nat} {cn : Int} {Q : Option Value → pm_S → Prop} (hg : g < 3) (hG : pm_G Rf K L n) (hR : RmI Rf K L n z) (hM : ∀ p i, R32 (M p i)) (hcn : M 6 6 = cn) (c1 : 1 ≤ cn) (cz : cn ≤ z) (hcx : okc Γ) (oS : ok Γ.length S = true) (oT : ok Γ.length T = true) (oSg : hp S g = true → ok Γ.length (pt S g) = true) (oTg : hp T g = true → ok Γ.length (pt T g) = true) (top : ndf M Rf cn 1 tTop 0) (bn : BN M Rf cn Γ) (nS : ndf M Rf cn 16 S i) (nT : ndf M Rf cn 16 T j) (lS : (flat (pt S g)).length ≤ 16) (lT : (flat (pt T g)).length ≤ 16) (hh : hgt (oh Γ) (pt S g) + hgt (oh Γ) (pt T g) ≤ 2 * F) (hc : cn + (nbq 1 Γ S T g : Nat) + 16 * ((hgt (oh Γ) (pt S g) + hgt (oh Γ) (pt T g) : Nat) : Int) ≤ 16384) (hdp : deep + F + 1 ≤ 40) (hΓ : Γ.length + F ≤ 64) (hw : hp S g = true → hp T g = true → 17 * gn (1, Γ, pt S g, pt T g) ≤ 1000000) (h : ∀ (M' : pm_M) (Rf' : Nat → Nat → Nat) (K' L' : Nat → Nat) (n' s' z' : Nat) (cn' r : Int), CX (WB Γ.length) M Rf K L n s z cn M' Rf' K' L' n' s' z' → M' 6 6 = cn' → cn ≤ cn' → cn' ≤ cn + (nbq 1 Γ S T g : Nat) → cn' ≤ z' → (hp S g = true → hp T g = true → JR M' Rf' cn' (16 + F) (cmu 1 Γ (pt S g) (pt T g)) r) → (¬ (hp S g = true ∧ hp T g = true) → (0 ≤ r ∧ r < cn') ∧ (hp S g = true → ndf M' Rf' cn' 16 (pt S g) r) ∧ (hp T g = true → ndf M' Rf' cn' 16 (pt T g) r)) → Q (some (.int (zI r))) (zM M', Rf', K', L', n', s')) : pm_Wc (d + 8 * F + 91) 58 [.ref 6, .int (zI i), .int (zI j), .int (zI (g : Int)), .int (zI (Γ.length : Int)), .int (zI (deep : Int))] (zM M, Rf, K, L, n, s) Q := by
  have hz := hR.2.2.2.2
  have cS := cc_small oS (by omega)
  have cT := cc_small oT (by omega)
  obtain ⟨⟨i0, i1, iC, -, iL⟩, iP⟩ := nS
  obtain ⟨⟨j0, j1, jC, -, jL⟩, jP⟩ := nT
  have idn : ∀ g, g < 5 → ∀ i : Int, 0 ≤ i → i < cn → M (Rf 6 g) i = M (Rf 6 g) i := fun _ _ _ _ _ => rfl
  refine wc_in (ls0 := [some (.ref 6), some (.int (zI i)), some (.int (zI j)), some (.int (zI (g : Int))), some (.int (zI (Γ.length : Int))), some (.int (zI (deep : Int)))]) (by decide) (Nat.le_of_ble_eq_true rfl) rfl rfl ?_
  refine wp_aload_n d58_0 rfl ?_
  refine wp_getR (q := Rf 6 0) d58_1 rfl (hG.o (by decide) rfl) (by decide) rfl (hR.1 0 (by decide)).1 ?_
  refine wp_iload_n d58_4 rfl ?_
  refine wz_iald (z := z) (v := (cc (hd S) : Int)) d58_5 (hR.1 0 (by decide)) i0 (by omega) (by omega) iC ?_
  refine wp_iload_n d58_6 rfl ?_
  refine wp_stat (as := [.int (zI (g : Int)), .int (zI (cc (hd S) : Int))]) (rest := []) d58_7 rfl rfl rfl rfl rfl (Nat.le_of_ble_eq_true rfl) ?_
  refine c_holds (c := cc (hd S)) (i := g) cS hg (fun hbS => ?_) (fun hbS => ?_)
  · have hbS : hp S g = true := hbS
    refine wz_if_ne (t := 20) d58_10 (by decide) ⟨by omega, by omega⟩ (fun _ => ?_) (fun hb => absurd hb (by decide))
    refine wp_aload_n d58_20 rfl ?_
    refine wp_getR (q := Rf 6 0) d58_21 rfl (hG.o (by decide) rfl) (by decide) rfl (hR.1 0 (by decide)).1 ?_
    refine wp_iload_n d58_24 rfl ?_
    refine wz_iald (z := z) (v := (cc (hd T) : Int)) d58_25 (hR.1 0 (by decide)) j0 (by omega) (by omega) jC ?_
    refine wp_iload_n d58_26 rfl ?_
    refine wp_stat (as := [.int (zI (g : Int)), .int (zI (cc (hd T) : Int))]) (rest := []) d58_27 rfl rfl rfl rfl rfl (Nat.le_of_ble_eq_true rfl) ?_
    refine c_holds (c := cc (hd T)) (i := g) cT hg (fun hbT => ?_) (fun hbT => ?_)
    · have hbT : hp T g = true := hbT
      refine wz_if_ne (t := 40) d58_30 (by decide) ⟨by omega, by omega⟩ (fun _ => ?_) (fun hb => absurd hb (by decide))
      refine wp_aload_n d58_40 rfl ?_
      refine wp_aload_n d58_41 rfl ?_
      refine wp_iload_n d58_42 rfl ?_
      refine wp_iload_n d58_43 rfl ?_
      refine wp_virt (as := [.int (zI (g : Int)), .int (zI i)]) (rest := [.ref 6]) d58_44 rfl rfl rfl (hG.o (by decide) rfl) rfl rfl (Nat.le_of_ble_eq_true rfl) ?_
      refine c_part hG hR i0 (by omega) hg ?_
      refine wp_aload_n d58_47 rfl ?_
      refine wp_iload_n d58_48 rfl ?_
      refine wp_iload_n d58_49 rfl ?_
      refine wp_virt (as := [.int (zI (g : Int)), .int (zI j)]) (rest := [.int (zI (M (Rf 6 (1 + g)) i)), .ref 6]) d58_50 rfl rfl rfl (hG.o (by decide) rfl) rfl rfl (Nat.le_of_ble_eq_true rfl) ?_
      refine c_part hG hR j0 (by omega) hg ?_
      refine wp_iload d58_53 rfl ?_
      refine wp_iload d58_55 rfl ?_
      refine wz_iconst d58_57 ?_
      refine wz_iadd d58_58 ?_
      refine wp_virt (as := [.int (zI ((deep : Int) + 1)), .int (zI (Γ.length : Int)), .int (zI (M (Rf 6 (1 + g)) j)), .int (zI (M (Rf 6 (1 + g)) i))]) (rest := []) d58_59 rfl rfl rfl (hG.o (by decide) rfl) rfl rfl (Nat.le_of_ble_eq_true rfl) ?_
      refine IH Γ (pt S g) (pt T g) _ _ (deep + 1) M Rf K L n s z cn _ ⟨hG, hR, hM, hcn, c1, cz, ⟨hcx, oSg hbS, oTg hbT⟩, bn, ndf_mono idn (Int.le_refl _) (by decide) (iP g hg hbS), ndf_mono idn (Int.le_refl _) (by decide) (jP g hg hbT), lS, lT⟩ top hh (by rw [nbq_on hbS hbT] at hc; exact hc) (by omega) hΓ (hw hbS hbT) (fun M' Rf' K' L' n' s' z' cn' r cx v1 v2 v3 v4 jr => ?_)
      rw [← nbq_on hbS hbT] at v3
      exact wp_ret d58_62 rfl (h M' Rf' K' L' n' s' z' cn' r cx v1 v2 v3 v4 (fun _ _ => jr) (fun e => absurd ⟨hbS, hbT⟩ e))
    · have hbT : ¬ hp T g = true := hbT
      refine wz_if_ne (t := 40) d58_30 (by decide) ⟨by omega, by omega⟩ (fun hb => absurd (by decide) hb) (fun _ => ?_)
      refine wp_aload_n d58_33 rfl ?_
      refine wp_iload_n d58_34 rfl ?_
      refine wp_iload_n d58_35 rfl ?_
      refine wp_virt (as := [.int (zI (g : Int)), .int (zI i)]) (rest := []) d58_36 rfl rfl rfl (hG.o (by decide) rfl) rfl rfl (Nat.le_of_ble_eq_true rfl) ?_
      refine c_part hG hR i0 (by omega) hg ?_
      have il := iL g hg
      exact wp_ret d58_39 rfl (h M Rf K L n s z cn _ (CX.refl hG hR hM) hcn (Int.le_refl _) (by omega) cz (fun _ b => absurd b hbT) (fun _ => ⟨il, fun _ => ndf_mono idn (Int.le_refl _) (by decide) (iP g hg hbS), fun b => absurd b hbT⟩))
  · have hbS : ¬ hp S g = true := hbS
    refine wz_if_ne (t := 20) d58_10 (by decide) ⟨by omega, by omega⟩ (fun hb => absurd (by decide) hb) (fun _ => ?_)
    refine wp_aload_n d58_13 rfl ?_
    refine wp_iload_n d58_14 rfl ?_
    refine wp_iload_n d58_15 rfl ?_
    refine wp_virt (as := [.int (zI (g : Int)), .int (zI j)]) (rest := []) d58_16 rfl rfl rfl (hG.o (by decide) rfl) rfl rfl (Nat.le_of_ble_eq_true rfl) ?_
    refine c_part hG hR j0 (by omega) hg ?_
    have jl := jL g hg
    exact wp_ret d58_19 rfl (h M Rf K L n s z cn _ (CX.refl hG hR hM) hcn (Int.le_refl _) (by omega) cz (fun a _ => absurd a hbS) (fun _ => ⟨jl, fun b => absurd b hbS, fun b => ndf_mono idn (Int.le_refl _) (by decide) (jP g hg b)⟩))
end PmC16
