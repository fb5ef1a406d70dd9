/-! THE CLASS: isRecordBelow. -/
def WB (o : Nat) (p : Nat) (i : Int) : Prop := (p = 6 ∧ i = 6) ∨ (p = 12 ∧ (o : Int) ≤ i)
/-- two types as nodes, in a context whose bounds are nodes -/
def BH (M : pm_M) (Rf : Nat → Nat → Nat) (K L : Nat → Nat) (n z : Nat) (cn : Int) (Γ : List Ty) (S T : Ty) (i j : Int) : Prop := pm_G Rf K L n ∧ RmI Rf K L n z ∧ (∀ p i, R32 (M p i)) ∧ M 6 6 = cn ∧ 1 ≤ cn ∧ cn ≤ z ∧ tok (Γ, S, T) ∧ BN M Rf cn Γ ∧ ndf M Rf cn 16 S i ∧ ndf M Rf cn 16 T j ∧ (flat S).length ≤ 16 ∧ (flat T).length ≤ 16
/-- what isBelow answers, up to heights whose sum is twice F -/
def BelC (d F : Nat) : Prop := ∀ (Γ : List Ty) (S T : Ty) (i j : Int) (deep : Nat) (M : pm_M) (Rf : Nat → Nat → Nat) (K L : Nat → Nat) (n s z : Nat) (cn : Int) (Q : Option Value → pm_S → Prop), BH M Rf K L n z cn Γ S T i j → hgt (oh Γ) S + hgt (oh Γ) T ≤ 2 * F → cn + 16 * ((hgt (oh Γ) S + hgt (oh Γ) T : Nat) : Int) ≤ 16384 → deep + F ≤ 40 → Γ.length + F ≤ 64 → (∀ (M' : pm_M) (Rf' : Nat → Nat → Nat) (K' L' : Nat → Nat) (n' s' z' : Nat), CX (WB Γ.length) M Rf K L n s z cn M' Rf' K' L' n' s' z' → M' 6 6 = cn → Q (some (.int (zI (if bel Γ S T = true then 1 else 0)))) (zM M', Rf', K', L', n', s')) → pm_Wc (d + 3 * F + 26) 48 [.ref 6, .int (zI i), .int (zI j), .int (zI (Γ.length : Int)), .int (zI (deep : Int))] (zM M, Rf, K, L, n, s) Q
theorem CX.bn {o : Nat} {M : pm_M} {Rf : Nat → Nat → Nat} {K L : Nat → Nat} {n s z : Nat} {cn cn' : Int} {M' : pm_M} {Rf' : Nat → Nat → Nat} {K' L' : Nat → Nat} {n' s' z' : Nat} {Γ : List Ty} (h : CX (WB o) M Rf K L n s z cn M' Rf' K' L' n' s' z') (hR : RmI Rf K L n z) (hn : 99 ≤ n) (ho : Γ.length ≤ o) (hc : cn ≤ cn') (b : BN M Rf cn Γ) : BN M' Rf' cn' Γ :=
  b.mono h.nodes (fun k hk => h.mem 12 (by omega) (fun g hg => (hR.ne12 hg).symm) k (by unfold WB; omega)) hc
section PmC11
variable {d : Nat}
set_option maxRecDepth 20000 in
set_option maxHeartbeats 1000000 in
theorem c_recBelow {F : Nat} (IH : BelC d F) {Γ : List Ty} {S T : Ty} {i j : Int} {deep : Nat} {M : pm_M} {Rf : Nat → Nat → Nat} {K L : Nat → Nat} {n s z : Nat} {cn : Int} {Q : Option Value → pm_S → Prop} (bh : BH M Rf K L n z cn Γ S T i j) (rS : 8 ≤ hd S ∧ hd S < 16) (rT : 8 ≤ hd T ∧ hd T < 16) (hh : hgt (oh Γ) S + hgt (oh Γ) T ≤ 2 * F + 2) (hc : cn + 16 * ((hgt (oh Γ) S + hgt (oh Γ) T : Nat) : Int) ≤ 16384) (hdp : deep + F + 1 ≤ 40) (hΓ : Γ.length + F ≤ 64) (h : ∀ (M' : pm_M) (Rf' : Nat → Nat → Nat) (K' L' : Nat → Nat) (n' s' z' : Nat), CX (WB Γ.length) M Rf K L n s z cn M' Rf' K' L' n' s' z' → M' 6 6 = cn → Q (some (.int (zI (if bel Γ S T = true then 1 else 0)))) (zM M', Rf', K', L', n', s')) : pm_Wc (d + 3 * F + 27) 50 [.ref 6, .int (zI i), .int (zI j), .int (zI (Γ.length : Int)), .int (zI (deep : Int))] (zM M, Rf, K, L, n, s) Q := by
  obtain ⟨hG, hR, hM, hcn, c1, cz, tk, bn, nS, nT, lS, lT⟩ := bh
  have hn := hG.1
  have oS : ok Γ.length S = true := tk.2.1
  have oT : ok Γ.length T = true := tk.2.2
  have hcx : okc Γ := tk.1
  have cS := cc_small oS (by omega)
  have cT := cc_small oT (by omega)
  have iff : bel Γ S T = true ↔ ∀ g, g < 3 → hp T g = true → hp S g = true ∧ bel Γ (pt S g) (pt T g) = true := by
    obtain ⟨m, x, y, w, hm, rfl⟩ := hd_is_rec oS rS.1 rS.2
    obtain ⟨m', x', y', w', hm', rfl⟩ := hd_is_rec oT rT.1 rT.2
    exact bel_rec hm hm' tk
  have okp : ∀ g, g < 3 → hp S g = true → ok Γ.length (pt S g) = true := by
    intro g hg hb
    obtain ⟨m, x, y, w, hm, rfl⟩ := hd_is_rec oS rS.1 rS.2
    obtain ⟨p0, p1, p2⟩ := pt_rec hm x y w
    obtain ⟨q0, q1, q2⟩ := (ok_rec hm).mp oS
    rw [hp_rec hm x y w g hg] at hb
    rcases (show g = 0 ∨ g = 1 ∨ g = 2 by omega) with rfl | rfl | rfl
    · rw [p0]; exact okl_on q0 (bit_iff.mp hb)
    · rw [p1]; exact okl_on q1 (bit_iff.mp hb)
    · rw [p2]; exact okl_on q2 (bit_iff.mp hb)
  have okq : ∀ g, g < 3 → hp T g = true → ok Γ.length (pt T g) = true := by
    intro g hg hb
    obtain ⟨m, x, y, w, hm, rfl⟩ := hd_is_rec oT rT.1 rT.2
    obtain ⟨p0, p1, p2⟩ := pt_rec hm x y w
    obtain ⟨q0, q1, q2⟩ := (ok_rec hm).mp oT
    rw [hp_rec hm x y w g hg] at hb
    rcases (show g = 0 ∨ g = 1 ∨ g = 2 by omega) with rfl | rfl | rfl
    · rw [p0]; exact okl_on q0 (bit_iff.mp hb)
    · rw [p1]; exact okl_on q1 (bit_iff.mp hb)
    · rw [p2]; exact okl_on q2 (bit_iff.mp hb)
  have lp : ∀ (t : Ty) (g : Nat), g < 3 → ok Γ.length t = true → (flat (pt t g)).length ≤ (flat t).length := by
    intro t g hg o
    have fl := flat_pts o
    rw [fl, List.length_cons, List.length_append, List.length_append]
    rcases (show g = 0 ∨ g = 1 ∨ g = 2 by omega) with rfl | rfl | rfl <;> omega
  obtain ⟨⟨i0, i1, iC, -, iL⟩, iP⟩ := nS
  obtain ⟨⟨j0, j1, jC, -, jL⟩, jP⟩ := nT
  have loop : ∀ (k g : Nat) (M1 : pm_M) (R1 : Nat → Nat → Nat) (K1 L1 : Nat → Nat) (n1 s1 z1 : Nat), g + k = 3 → CX (WB Γ.length) M Rf K L n s z cn M1 R1 K1 L1 n1 s1 z1 → M1 6 6 = cn → (∀ g', g' < g → hp T g' = true → hp S g' = true ∧ bel Γ (pt S g') (pt T g') = true) → pm_Wp none (d + 3 * F + 26) 50 3 [some (.ref 6), some (.int (zI i)), some (.int (zI j)), some (.int (zI (Γ.length : Int))), some (.int (zI (deep : Int))), some (.int (zI (g : Int)))] [] (zM M1, R1, K1, L1, n1, s1) Q := by
    intro k
    induction k with
    | zero =>
      intro g M1 R1 K1 L1 n1 s1 z1 hgk cx m6 hg
      have e : g = 3 := by omega
      subst e
      have hb : bel Γ S T = true := iff.mpr (fun g hg3 hb => hg g hg3 hb)
      have hh := h M1 R1 K1 L1 n1 s1 z1 cx m6
      rw [if_pos hb] at hh
      refine wp_iload d50_3 rfl ?_
      refine wz_iconst d50_5 ?_
      refine wz_icmp_ge (t := 74) d50_6 (by decide) ⟨by omega, by omega⟩ ⟨by omega, by omega⟩ (fun _ => ?_) (fun hb => absurd (by omega) hb)
      refine wz_iconst d50_74 ?_
      exact wp_ret d50_75 rfl hh
    | succ k ih =>
      intro g M1 R1 K1 L1 n1 s1 z1 hgk cx m6 hg
      have hz1 := cx.r.2.2.2.2
      have hzz := cx.zz
      have no : (hp T g = true ∧ ¬ (hp S g = true ∧ bel Γ (pt S g) (pt T g) = true)) → ¬ bel Γ S T = true := fun e hb => e.2 (iff.mp hb g (by omega) e.1)
      have stop : ∀ (M1 : pm_M) (R1 : Nat → Nat → Nat) (K1 L1 : Nat → Nat) (n1 s1 z1 : Nat), CX (WB Γ.length) M Rf K L n s z cn M1 R1 K1 L1 n1 s1 z1 → M1 6 6 = cn → ¬ bel Γ S T = true → pm_Wp none (d + 3 * F + 26) 50 66 [some (.ref 6), some (.int (zI i)), some (.int (zI j)), some (.int (zI (Γ.length : Int))), some (.int (zI (deep : Int))), some (.int (zI (g : Int)))] [] (zM M1, R1, K1, L1, n1, s1) Q := by
        intro M1 R1 K1 L1 n1 s1 z1 cx m6 hb
        have hh := h M1 R1 K1 L1 n1 s1 z1 cx m6
        rw [if_neg hb] at hh
        refine wz_iconst d50_66 ?_
        exact wp_ret d50_67 rfl hh
      have go : ∀ (M1 : pm_M) (R1 : Nat → Nat → Nat) (K1 L1 : Nat → Nat) (n1 s1 z1 : Nat), CX (WB Γ.length) M Rf K L n s z cn M1 R1 K1 L1 n1 s1 z1 → M1 6 6 = cn → (hp T g = true → hp S g = true ∧ bel Γ (pt S g) (pt T g) = true) → pm_Wp none (d + 3 * F + 26) 50 68 [some (.ref 6), some (.int (zI i)), some (.int (zI j)), some (.int (zI (Γ.length : Int))), some (.int (zI (deep : Int))), some (.int (zI (g : Int)))] [] (zM M1, R1, K1, L1, n1, s1) Q := by
        intro M1 R1 K1 L1 n1 s1 z1 cx m6 hb
        refine wz_iinc d50_68 rfl rfl ?_
        refine wp_goto (t := 3) d50_71 (by decide) ?_
        refine ih (g + 1) M1 R1 K1 L1 n1 s1 z1 (by omega) cx m6 (fun g' hg' hb' => ?_)
        by_cases eg : g' = g
        · subst eg; exact hb hb'
        · exact hg g' (by omega) hb'
      refine wp_iload d50_3 rfl ?_
      refine wz_iconst d50_5 ?_
      refine wz_icmp_ge (t := 74) d50_6 (by decide) ⟨by omega, by omega⟩ ⟨by omega, by omega⟩ (fun hb => absurd hb (by omega)) (fun _ => ?_)
      refine wp_aload_n d50_9 rfl ?_
      refine wp_getR (q := R1 6 0) d50_10 rfl (cx.g.o (by decide) rfl) (by decide) rfl (cx.r.1 0 (by decide)).1 ?_
      refine wp_iload_n d50_13 rfl ?_
      refine wz_iald (z := z1) (v := (cc (hd T) : Int)) d50_14 (cx.r.1 0 (by decide)) j0 (by omega) (by omega) (by rw [cx.nodes 0 (by decide) j j0 j1]; exact jC) ?_
      refine wp_iload d50_15 rfl ?_
      refine wp_stat (as := [.int (zI (g : Int)), .int (zI (cc (hd T) : Int))]) (rest := []) d50_17 rfl rfl rfl rfl rfl (Nat.le_of_ble_eq_true rfl) ?_
      refine c_holds (c := cc (hd T)) (i := g) cT (by omega) (fun hbT => ?_) (fun hbT => ?_)
      · have hbT : hp T g = true := hbT
        refine wz_if_ne (t := 26) d50_20 (by decide) ⟨by omega, by omega⟩ (fun _ => ?_) (fun hb => absurd hb (by decide))
        refine wp_aload_n d50_26 rfl ?_
        refine wp_getR (q := R1 6 0) d50_27 rfl (cx.g.o (by decide) rfl) (by decide) rfl (cx.r.1 0 (by decide)).1 ?_
        refine wp_iload_n d50_30 rfl ?_
        refine wz_iald (z := z1) (v := (cc (hd S) : Int)) d50_31 (cx.r.1 0 (by decide)) i0 (by omega) (by omega) (by rw [cx.nodes 0 (by decide) i i0 i1]; exact iC) ?_
        refine wp_iload d50_32 rfl ?_
        refine wp_stat (as := [.int (zI (g : Int)), .int (zI (cc (hd S) : Int))]) (rest := []) d50_34 rfl rfl rfl rfl rfl (Nat.le_of_ble_eq_true rfl) ?_
        refine c_holds (c := cc (hd S)) (i := g) cS (by omega) (fun hbS => ?_) (fun hbS => ?_)
        · have hbS : hp S g = true := hbS
          have hs1 := hgt_pt oS (oh Γ) rS.2 (by omega) (by omega) hbS
          have hs2 := hgt_pt oT (oh Γ) rT.2 (by omega) (by omega) hbT
          refine wz_if_eq (t := 66) d50_37 (by decide) ⟨by omega, by omega⟩ (fun hb => absurd hb (by decide)) (fun _ => ?_)
          refine wp_aload_n d50_40 rfl ?_
          refine wp_aload_n d50_41 rfl ?_
          refine wp_iload_n d50_42 rfl ?_
          refine wp_iload d50_43 rfl ?_
          refine wp_virt (as := [.int (zI (g : Int)), .int (zI i)]) (rest := [.ref 6]) d50_45 rfl rfl rfl (cx.g.o (by decide) rfl) rfl rfl (Nat.le_of_ble_eq_true rfl) ?_
          refine c_part cx.g cx.r i0 (by omega) (by omega) ?_
          refine wp_aload_n d50_48 rfl ?_
          refine wp_iload_n d50_49 rfl ?_
          refine wp_iload d50_50 rfl ?_
          refine wp_virt (as := [.int (zI (g : Int)), .int (zI j)]) (rest := [.int (zI (M1 (R1 6 (1 + g)) i)), .ref 6]) d50_52 rfl rfl rfl (cx.g.o (by decide) rfl) rfl rfl (Nat.le_of_ble_eq_true rfl) ?_
          refine c_part cx.g cx.r j0 (by omega) (by omega) ?_
          refine wp_iload_n d50_55 rfl ?_
          refine wp_iload d50_56 rfl ?_
          refine wz_iconst d50_58 ?_
          refine wz_iadd d50_59 ?_
          refine wp_virt (as := [.int (zI ((deep : Int) + 1)), .int (zI (Γ.length : Int)), .int (zI (M1 (R1 6 (1 + g)) j)), .int (zI (M1 (R1 6 (1 + g)) i))]) (rest := []) d50_60 rfl rfl rfl (cx.g.o (by decide) rfl) rfl rfl (Nat.le_of_ble_eq_true rfl) ?_
          refine IH Γ (pt S g) (pt T g) _ _ (deep + 1) M1 R1 K1 L1 n1 s1 z1 cn _ ⟨cx.g, cx.r, cx.r32, m6, c1, by omega, ⟨hcx, okp g (by omega) hbS, okq g (by omega) hbT⟩, cx.bn hR hn (Nat.le_refl _) (Int.le_refl _) bn, ?_, ?_, Nat.le_trans (lp S g (by omega) oS) lS, Nat.le_trans (lp T g (by omega) oT) lT⟩ (by omega) (by omega) (by omega) hΓ (fun M2 R2 K2 L2 n2 s2 z2 cx2 m62 => ?_)
          · rw [cx.nodes (1 + g) (by omega) i i0 i1]
            exact ndf_mono cx.nodes (Int.le_refl _) (by decide) (iP g (by omega) hbS)
          · rw [cx.nodes (1 + g) (by omega) j j0 j1]
            exact ndf_mono cx.nodes (Int.le_refl _) (by decide) (jP g (by omega) hbT)
          · have cxx := cx.trans cx2 (Int.le_refl _)
            by_cases hb : bel Γ (pt S g) (pt T g) = true
            · rw [if_pos hb]
              refine wz_if_ne (t := 68) d50_63 (by decide) ⟨by omega, by omega⟩ (fun _ => ?_) (fun hb => absurd hb (by decide))
              exact go M2 R2 K2 L2 n2 s2 z2 cxx m62 (fun _ => ⟨hbS, hb⟩)
            · rw [if_neg hb]
              refine wz_if_ne (t := 68) d50_63 (by decide) ⟨by omega, by omega⟩ (fun hb => absurd (by decide) hb) (fun _ => ?_)
              exact stop M2 R2 K2 L2 n2 s2 z2 cxx m62 (no ⟨hbT, fun e => hb e.2⟩)
        · have hbS : ¬ hp S g = true := hbS
          refine wz_if_eq (t := 66) d50_37 (by decide) ⟨by omega, by omega⟩ (fun _ => ?_) (fun hb => absurd (by decide) hb)
          exact stop M1 R1 K1 L1 n1 s1 z1 cx m6 (no ⟨hbT, fun e => hbS e.1⟩)
      · have hbT : ¬ hp T g = true := hbT
        refine wz_if_ne (t := 26) d50_20 (by decide) ⟨by omega, by omega⟩ (fun hb => absurd (by decide) hb) (fun _ => ?_)
        refine wp_goto (t := 68) d50_23 (by decide) ?_
        exact go M1 R1 K1 L1 n1 s1 z1 cx m6 (fun e => absurd e hbT)
  refine wc_in (ls0 := [some (.ref 6), some (.int (zI i)), some (.int (zI j)), some (.int (zI (Γ.length : Int))), some (.int (zI (deep : Int))), none]) (by decide) (Nat.le_of_ble_eq_true rfl) rfl rfl ?_
  refine wz_iconst d50_0 ?_
  refine wp_istore d50_1 (Nat.le_of_ble_eq_true rfl) rfl ?_
  exact loop 3 0 M Rf K L n s z rfl (CX.refl hG hR hM) hcn (fun g' hg' _ => absurd hg' (Nat.not_lt_zero _))
end PmC11
