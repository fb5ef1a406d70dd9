/-! THE MODEL: combine. -/
def EI (N0 N : pm_M) (u0 x0 U u x : Int) (h G : Nat) (Z : Nat → Gz) (r0 : Rs) : Prop := (∀ p i, R32 (N p i)) ∧ N 56 22 = u ∧ N 56 24 = x ∧ u0 ≤ u ∧ x0 ≤ x ∧ CF N0 N u0 x0 ∧ (∀ j : Nat, j < h → DB N u G j Z) ∧ (∀ j : Nat, h ≤ j → j < G → RS N u j (gv (Z j))) ∧ (∀ j : Nat, j < G → GP (gv (Z j))) ∧ u + (cb (N 82) h : Nat) ≤ U ∧ h ≤ G ∧ 0 < G ∧ gv (Z 0) = r0
theorem CI.toEI {N0 N : pm_M} {u0 x0 U X V u x : Int} {G : Nat} {Z : Nat → Gz} {r0 : Rs} (c : CI N0 N u0 x0 U X V u x G G Z r0) : EI N0 N u0 x0 U u x G G Z r0 := by
  obtain ⟨c0, c1, c2, c3, c4, c5, c6, cf, db, pe, gp, b1, b2, b3, g0, ge⟩ := c
  exact ⟨c0, c1, c2, c5, c6, cf, db, fun j h1 h2 => absurd h2 (by omega), gp, by omega, Nat.le_refl _, g0, ge⟩
theorem EI.skip {N0 N : pm_M} {u0 x0 U u x : Int} {h G : Nat} {Z : Nat → Gz} {r0 : Rs} (c : EI N0 N u0 x0 U u x (h + 1) G Z r0) (e : RS N u h (gv (Z h))) : EI N0 N u0 x0 U u x h G Z r0 := by
  obtain ⟨c0, c1, c2, c3, c4, cf, db, rs, gp, b1, hG, g0, ge⟩ := c
  have hcb : cb (N 82) (h + 1) = cb (N 82) h + (if 0 ≤ N 82 (h : Int) then 1 else 0) := rfl
  refine ⟨c0, c1, c2, c3, c4, cf, fun j hj => db j (by omega), fun j h1 h2 => ?_, gp, by rw [hcb] at b1; omega, by omega, g0, ge⟩
  by_cases hj : j = h
  · subst hj; exact e
  · exact rs j (by omega) h2
theorem EI.whole {N0 N N' : pm_M} {u0 x0 U u u' x : Int} {h G : Nat} {Z : Nat → Gz} {r0 : Rs} (c : EI N0 N u0 x0 U u x (h + 1) G Z r0) (b : 0 ≤ N 82 h) (pf : PF N N' u x h G) (e24 : N' 56 24 = N 56 24) (hM : ∀ p i, R32 (N' p i)) (e22 : N' 56 22 = u') (h1 : u ≤ u') (h2 : u' ≤ u + 1) (e : RS N' u' h (gv (Z h))) : EI N0 N' u0 x0 U u' x h G Z r0 := by
  obtain ⟨c0, c1, c2, c3, c4, cf, db, rs, gp, b1, hG, g0, ge⟩ := c
  have hcb : cb (N 82) (h + 1) = cb (N 82) h + 1 := by
    show cb (N 82) h + (if 0 ≤ N 82 (h : Int) then 1 else 0) = _
    rw [if_pos b]
  have hcb' : cb (N' 82) h = cb (N 82) h := cb_congr (fun j hj => pf _ _ (by unfold WR; omega))
  refine ⟨hM, e22, by rw [e24]; exact c2, by omega, c4, cf.pf pf c3 c4, fun j hj => ?_, fun j q1 q2 => ?_, gp, by rw [hcb]  at b1; rw [hcb']; omega, by omega, g0, ge⟩
  · exact (db j (by omega)).keep pf (by omega) (by omega) h1 (Nat.le_refl _) rfl (fun _ _ => rfl)
  · by_cases hj : j = h
    · subst hj; exact e
    · exact pf.rs (by omega) (by omega) h1 (rs j (by omega) q2)
section PmM23
variable {d : Nat} {Q : Option Value → pm_S → Prop} {M N : pm_M} {Rf : Nat → Nat → Nat} {K L : Nat → Nat} {n s : Nat}
set_option maxRecDepth 20000 in
set_option maxHeartbeats 1000000 in
theorem comb_1 {N0 : pm_M} {u0 x0 U X V w a b c D : Int} {r0 : Rs} (hG : pm_G Rf K L n) (hU : U < 1100) (hX : X < 900) (hV : V + 3 ≤ 600) (x00 : 0 ≤ x0) (hend : ∀ (N : pm_M) (u x : Int) (G : Nat) (Z : Nat → Gz), CI N0 N u0 x0 U X V u x G G Z r0 → pm_Wp none (d + 8) 169 73 [some (.ref 56), some (.int (zI w)), some (.int (zI a)), some (.int (zI b)), some (.int (zI c)), some (.int (zI D)), some (.int (zI 0)), some (.int (zI (G : Int)))] [] (zM N, Rf, K, L, n, s) Q) : ∀ (F : Nat) (N : pm_M) (u x : Int) (g G : Nat) (Z : Nat → Gz), CI N0 N u0 x0 U X V u x g G Z r0 → sf Z g G ≤ F → pm_Wp none (d + 8) 169 23 [some (.ref 56), some (.int (zI w)), some (.int (zI a)), some (.int (zI b)), some (.int (zI c)), some (.int (zI D)), some (.int (zI 0)), some (.int (zI (g : Int)))] [] (zM N, Rf, K, L, n, s) Q ∧ (g < G → ∀ N1 : pm_M, N = mset N1 82 g (-1) → pm_Wp none (d + 8) 169 50 [some (.ref 56), some (.int (zI w)), some (.int (zI a)), some (.int (zI b)), some (.int (zI c)), some (.int (zI D)), some (.int (zI 0)), some (.int (zI (g : Int)))] [] (zM N1, Rf, K, L, n, s) Q) := by
  intro F
  induction F using Nat.strongRecOn with
  | ind F ih =>
    intro N u x g G Z ci hF
    have room := ci.room
    have hgG := ci.2.2.2.2.1
    have after : g < G → pm_Wc (d + 8) 166 [.ref 56, .int (zI (g : Int))] (zM N, Rf, K, L, n, s) (fun r σ => r = none ∧ pm_Wp none (d + 8) 169 38 [some (.ref 56), some (.int (zI w)), some (.int (zI a)), some (.int (zI b)), some (.int (zI c)), some (.int (zI D)), some (.int (zI 0)), some (.int (zI (g : Int)))] [] σ Q) := by
      intro hg
      have cc := ci
      obtain ⟨c0, c1, c2, c3, c4, c5, c6, cf, db, pe, gp, b1, b2, b3, g0, ge⟩ := cc
      obtain ⟨e1, e2, e3⟩ := pe g (Nat.le_refl _) hg
      rw [sg_at hg] at b1 b2 b3
      refine m_part (z := Z g) hG c0 c1 c2 c3 (by omega) (by omega) (by omega) (by omega) (by omega) (by omega) e1 e2 e3 (fun N' u' pf hM o => ⟨rfl, ?_⟩) (fun N' y pf hM o => ⟨rfl, ?_⟩) (fun N' u' x' zs pf hM o => ⟨rfl, ?_⟩)
      · obtain ⟨ci', hs⟩ := ci.A hg pf hM o
        have ih' := (ih _ (by omega) N' u' x (g + 1) G Z ci' (Nat.le_refl _)).1
        refine wp_aload_n d169_38 rfl ?_
        refine wp_getR (q := 82) d169_39 rfl (hG.o (by decide) rfl) (by decide) (hG.r (by decide +kernel)) (by decide) ?_
        refine wp_iload d169_42 rfl ?_
        refine wz_iald (z := 600) (v := -1) d169_44 (hG.a (by decide) rfl rfl) (by omega) (by omega) (by decide) o.2.2.2.2.2.1 ?_
        refine wz_bipush d169_45 (by decide) ?_
        refine wz_icmp_ne (t := 67) d169_47 (by decide) ⟨by omega, by omega⟩ ⟨by omega, by omega⟩ (fun _ => ?_) (fun hb => absurd hb (by decide))
        refine wz_iinc d169_67 rfl rfl ?_
        refine wp_goto (t := 23) d169_70 (by decide) ?_
        exact ih'
      · obtain ⟨ci', hs, e82⟩ := ci.B hg pf hM o
        have ih' := (ih _ (by omega) _ (u + 1) x g G _ ci' (Nat.le_refl _)).2 hg N' rfl
        refine wp_aload_n d169_38 rfl ?_
        refine wp_getR (q := 82) d169_39 rfl (hG.o (by decide) rfl) (by decide) (hG.r (by decide +kernel)) (by decide) ?_
        refine wp_iload d169_42 rfl ?_
        refine wz_iald (z := 600) (v := -2) d169_44 (hG.a (by decide) rfl rfl) (by omega) (by omega) (by decide) e82 ?_
        refine wz_bipush d169_45 (by decide) ?_
        refine wz_icmp_ne (t := 67) d169_47 (by decide) ⟨by omega, by omega⟩ ⟨by omega, by omega⟩ (fun hb => absurd (by decide) hb) (fun _ => ?_)
        exact ih'
      · obtain ⟨ci', hs, e82⟩ := ci.C hg pf hM o
        have ih' := (ih _ (by omega) N' u' x' (g + 1) (G + zs.length) _ ci' (Nat.le_refl _)).1
        refine wp_aload_n d169_38 rfl ?_
        refine wp_getR (q := 82) d169_39 rfl (hG.o (by decide) rfl) (by decide) (hG.r (by decide +kernel)) (by decide) ?_
        refine wp_iload d169_42 rfl ?_
        refine wz_iald (z := 600) (v := N' 82 g) d169_44 (hG.a (by decide) rfl rfl) (by omega) (by omega) (by decide) rfl ?_
        refine wz_bipush d169_45 (by decide) ?_
        refine wz_icmp_ne (t := 67) d169_47 (by decide) (hM _ _) ⟨by omega, by omega⟩ (fun _ => ?_) (fun hb => absurd hb (by omega))
        refine wz_iinc d169_67 rfl rfl ?_
        refine wp_goto (t := 23) d169_70 (by decide) ?_
        exact ih'
    have c1 := ci.2.1
    have c3 := ci.2.2.2.1
    refine ⟨?_, fun hg N1 e => ?_⟩
    · refine wp_iload d169_23 rfl ?_
      refine wp_aload_n d169_25 rfl ?_
      refine wz_getI (v := (G : Int)) d169_26 rfl (hG.o (by decide) rfl) (by decide) c3 ?_
      refine wz_icmp_ge (t := 73) d169_29 (by decide) ⟨by omega, by omega⟩ ⟨by omega, by omega⟩ (fun hb => ?_) (fun hb => ?_)
      · have e : g = G := by omega
        subst e
        exact hend N u x g Z ci
      · refine wp_aload_n d169_32 rfl ?_
        refine wp_iload d169_33 rfl ?_
        refine wp_virt (as := [.int (zI (g : Int))]) (rest := []) d169_35 rfl rfl rfl (hG.o (by decide) rfl) rfl rfl (Nat.le_of_ble_eq_true rfl) ?_
        refine wc_mono (after (by omega)) ?_
        rintro r σ ⟨rfl, h⟩
        exact h
    · refine wp_aload_n d169_50 rfl ?_
      refine wp_getR (q := 82) d169_51 rfl (hG.o (by decide) rfl) (by decide) (hG.r (by decide +kernel)) (by decide) ?_
      refine wp_iload d169_54 rfl ?_
      refine wz_iconst d169_56 ?_
      refine wz_iast (z := 600) d169_57 (hG.a (by decide) rfl rfl) (by omega) (by omega) (by decide) ?_
      rw [← e]
      refine wp_aload_n d169_58 rfl ?_
      refine wp_iload d169_59 rfl ?_
      refine wp_virt (as := [.int (zI (g : Int))]) (rest := []) d169_61 rfl rfl rfl (hG.o (by decide) rfl) rfl rfl (Nat.le_of_ble_eq_true rfl) ?_
      refine wc_mono (after hg) ?_
      rintro r σ ⟨rfl, h⟩
      exact wp_goto (t := 38) d169_64 (by decide) h
set_option maxRecDepth 20000 in
set_option maxHeartbeats 1000000 in
theorem comb_2 {N0 : pm_M} {u0 x0 U x w a b c D : Int} {r0 : Rs} {G : Nat} {Z : Nat → Gz} (hG : pm_G Rf K L n) (u00 : 0 ≤ u0) (hU : U < 1100) (hGG : G + 3 ≤ 600) (hend : ∀ (N : pm_M) (u : Int), EI N0 N u0 x0 U u x 0 G Z r0 → Q (some (.int (zI (N 84 0)))) (zM N, Rf, K, L, n, s)) : ∀ (h : Nat) (N : pm_M) (u : Int), EI N0 N u0 x0 U u x h G Z r0 → pm_Wp none (d + 8) 169 81 [some (.ref 56), some (.int (zI w)), some (.int (zI a)), some (.int (zI b)), some (.int (zI c)), some (.int (zI D)), some (.int (zI 0)), some (.int (zI ((h : Int) - 1)))] [] (zM N, Rf, K, L, n, s) Q
  | 0, N, u, ei => by
    refine wp_iload d169_81 rfl ?_
    refine wz_if_lt (t := 108) d169_83 (by decide) ⟨by omega, by omega⟩ (fun _ => ?_) (fun hb => absurd (by decide) hb)
    refine wp_aload_n d169_108 rfl ?_
    refine wp_getR (q := 84) d169_109 rfl (hG.o (by decide) rfl) (by decide) (hG.r (by decide +kernel)) (by decide) ?_
    refine wp_iload d169_112 rfl ?_
    refine wz_iald (z := 600) (v := N 84 0) d169_114 (hG.a (by decide) rfl rfl) (by omega) (by omega) (by decide) rfl ?_
    exact wp_ret d169_115 rfl (hend N u ei)
  | h + 1, N, u, ei => by
    have ce := ei
    obtain ⟨c0, c1, c2, c3, c4, cf, db, rs, gp, b1, hle, g0, ge⟩ := ce
    have ih := fun N' u' e => comb_2 (w := w) (a := a) (b := b) (c := c) (D := D) hG u00 hU hGG hend h N' u' e
    rw [show ((h + 1 : Nat) : Int) - 1 = (h : Int) by omega]
    refine wp_iload d169_81 rfl ?_
    refine wz_if_lt (t := 108) d169_83 (by decide) ⟨by omega, by omega⟩ (fun hb => absurd hb (by omega)) (fun _ => ?_)
    refine wp_aload_n d169_86 rfl ?_
    refine wp_getR (q := 82) d169_87 rfl (hG.o (by decide) rfl) (by decide) (hG.r (by decide +kernel)) (by decide) ?_
    refine wp_iload d169_90 rfl ?_
    refine wz_iald (z := 600) (v := N 82 h) d169_92 (hG.a (by decide) rfl rfl) (by omega) (by omega) (by decide) rfl ?_
    have fin : ∀ (N' : pm_M) (u' : Int), EI N0 N' u0 x0 U u' x h G Z r0 → pm_Wp none (d + 8) 169 102 [some (.ref 56), some (.int (zI w)), some (.int (zI a)), some (.int (zI b)), some (.int (zI c)), some (.int (zI D)), some (.int (zI 0)), some (.int (zI (h : Int)))] [] (zM N', Rf, K, L, n, s) Q := by
      intro N' u' e
      refine wz_iinc d169_102 rfl rfl ?_
      refine wp_goto (t := 81) d169_105 (by decide) ?_
      exact ih N' u' e
    rcases db h (by omega) with ⟨h1, h2⟩ | ⟨h1, f, k, h2, h3, bd⟩
    · refine wz_if_lt (t := 102) d169_93 (by decide) (c0 _ _) (fun _ => ?_) (fun hb => absurd (by omega) hb)
      exact fin N u (ei.skip h2)
    · refine wz_if_lt (t := 102) d169_93 (by decide) (c0 _ _) (fun hb => absurd hb (by omega)) (fun _ => ?_)
      refine wp_aload_n d169_96 rfl ?_
      refine wp_iload d169_97 rfl ?_
      refine wp_virt (as := [.int (zI (h : Int))]) (rest := []) d169_99 rfl rfl rfl (hG.o (by decide) rfl) rfl rfl (Nat.le_of_ble_eq_true rfl) ?_
      have hcb : cb (N 82) (h + 1) = cb (N 82) h + 1 := by
        show cb (N 82) h + (if 0 ≤ N 82 (h : Int) then 1 else 0) = _
        rw [if_pos h1]
      rw [hcb] at b1
      refine m_wholeB (x := x) (G := G) hG c0 c1 (by omega) (by omega) (by omega) (by omega) (by omega) (by omega) bd (RL_chl (fun j q1 q2 => rs j (by omega) (by omega))) (gp h (by omega)) (fun N' u' pf e24 e36 hM e22 q1 q2 e => ?_)
      exact fin N' u' (ei.whole h1 pf e24 hM e22 q1 q2 e)
set_option maxRecDepth 20000 in
set_option maxHeartbeats 1000000 in
theorem m_combine {u x a b c : Int} {w : Nat} {Γ : List Ty} {S T : Ty} (hG : pm_G Rf K L n) (hM : ∀ p i, R32 (N p i)) (hu : N 56 22 = u) (hx : N 56 24 = x) (t : TH N u x a 0 b 0 c (Γ.length : Int) (Γ, S, T)) (w1 : w ≤ 1) (x0 : 0 ≤ x) (h1 : u + (gm (w, Γ, S, T) : Nat) < 1100) (h2 : x + (gm (w, Γ, S, T) : Nat) < 900) (h3 : gn (w, Γ, S, T) + 3 ≤ 600) (h4 : Γ.length + gm (w, Γ, S, T) ≤ 1990) (h5 : 2 * (hgt (oh Γ) S + hgt (oh Γ) T) + 3 ≤ 300) (h : ∀ (N' : pm_M) (u' x' : Int), (∀ p i, R32 (N' p i)) → N' 56 22 = u' → N' 56 24 = x' → u ≤ u' → u' ≤ u + (gm (w, Γ, S, T) : Nat) → x ≤ x' → CF N N' u x → RS N' u' 0 (cmv w Γ S T) → Q (some (.int (zI (N' 84 0)))) (zM N', Rf, K, L, n, s)) : pm_Wc (d + 9) 169 [.ref 56, .int (zI (w : Int)), .int (zI a), .int (zI b), .int (zI c), .int (zI (Γ.length : Int))] (zM N, Rf, K, L, n, s) Q := by
  have t1 := t.a0; have t2 := t.a1; have t5 := t.b0; have t6 := t.b1
  have hcr := t.hc.rng x0 (by omega)
  refine wc_in (ls0 := [some (.ref 56), some (.int (zI (w : Int))), some (.int (zI a)), some (.int (zI b)), some (.int (zI c)), some (.int (zI (Γ.length : Int))), none, none]) (by decide) (Nat.le_of_ble_eq_true rfl) rfl rfl ?_
  refine wp_aload_n d169_0 rfl ?_
  refine wz_iconst d169_1 ?_
  refine wz_putI (i := 36) d169_2 rfl (hG.o (by decide) rfl) rfl (by decide) rfl ?_
  refine wp_aload_n d169_5 rfl ?_
  refine wp_iload_n d169_6 rfl ?_
  refine wp_iload_n d169_7 rfl ?_
  refine wz_iconst d169_8 ?_
  refine wp_iload_n d169_9 rfl ?_
  refine wz_iconst d169_10 ?_
  refine wp_iload d169_11 rfl ?_
  refine wp_iload d169_13 rfl ?_
  refine wp_virt (as := [.int (zI (Γ.length : Int)), .int (zI c), .int (zI 0), .int (zI b), .int (zI 0), .int (zI a), .int (zI (w : Int))]) (rest := []) d169_15 rfl rfl rfl (hG.o (by decide) rfl) rfl rfl (Nat.le_of_ble_eq_true rfl) ?_
  refine m_aimM (G := 0) hG (by rw [mset_s]) (by omega) (by omega) ?_
  refine wp_istore d169_18 (Nat.le_of_ble_eq_true rfl) rfl ?_
  refine wz_iconst d169_20 ?_
  refine wp_istore d169_21 (Nat.le_of_ble_eq_true rfl) rfl ?_
  obtain ⟨N1, hN1⟩ : ∃ N1, N1 = aimM (mset N 56 36 0) 0 (w : Int) a 0 b 0 c (Γ.length : Int) := ⟨_, rfl⟩
  rw [← hN1]
  have ts : ∀ (r : Nat) (i : Int), r = 73 ∨ r = 74 ∨ r = 75 ∨ r = 76 → N1 r i = N r i := fun r i hr => by
    rw [hN1, aimM_o _ _ _ _ _ _ _ _ _ (by omega) (by omega) (by omega) (by omega), mset_p _ _ _ _ (by omega)]
  have ci : CI N N1 u x (u + (gm (w, Γ, S, T) : Nat)) (x + (gm (w, Γ, S, T) : Nat)) (gn (w, Γ, S, T) : Nat) u x 0 1 (fun _ => (w, Γ, S, T)) (cmv w Γ S T) := by
    have ge : GE N1 u x 0 (w, Γ, S, T) := by
      refine ⟨a, 0, b, 0, c, ?_, ?_, ?_, ?_, ?_, ?_, ?_, TH.same ts t, ?_, by simp only; omega⟩
      · rw [hN1]; exact aimM_0 ..
      · rw [hN1]; exact aimM_1 ..
      · rw [hN1]; exact aimM_2 ..
      · rw [hN1]; exact aimM_3 ..
      · rw [hN1]; exact aimM_4 ..
      · rw [hN1]; exact aimM_5 ..
      · rw [hN1]; exact aimM_6 ..
      · rw [hN1]; exact aimM_8 ..
    have hs : ∀ μ : Gz → Nat, sg μ (fun _ => (w, Γ, S, T)) 0 (1 - 0) = μ (w, Γ, S, T) + 0 := fun _ => rfl
    refine ⟨?_, ?_, ?_, ?_, by omega, Int.le_refl _, Int.le_refl _, ?_, fun j hj => absurd hj (by omega), fun j q1 q2 => ?_, fun j _ => ge.gp, ?_, ?_, ?_, by decide, rfl⟩
    · rw [hN1]
      exact aimM_R32 (mset_R32 hM ⟨by omega, by omega⟩) ⟨by omega, by omega⟩ ⟨by omega, by omega⟩ ⟨by omega, by omega⟩ ⟨by omega, by omega⟩ ⟨by omega, by omega⟩ ⟨by omega, by omega⟩ ⟨by omega, by omega⟩ ⟨by omega, by omega⟩
    · rw [hN1, aimM_o _ _ _ _ _ _ _ _ _ (by decide) (by decide) (by decide) (by decide), mset_i _ _ _ _ (by decide)]; exact hu
    · rw [hN1, aimM_o _ _ _ _ _ _ _ _ _ (by decide) (by decide) (by decide) (by decide), mset_i _ _ _ _ (by decide)]; exact hx
    · rw [hN1, aimM_g]; rfl
    · intro p i hw
      unfold WC at hw
      rw [hN1, aimM_o _ _ _ _ _ _ _ _ _ (by omega) (by omega) (by omega) (by omega)]
      unfold mset
      rw [if_neg (by omega)]
    · have e : j = 0 := by omega
      subst e
      exact ⟨ge, by rw [hN1]; exact aimM_7 .., Or.inr ⟨h4, h5⟩⟩
    · rw [hs]
      show u + ((gm (w, Γ, S, T) + 0 : Nat) : Int) + ((0 : Nat) : Int) ≤ _
      omega
    · rw [hs]; omega
    · rw [hs]; omega
  refine (comb_1 hG (by omega) (by omega) (by omega) x0 (fun N2 u2 x2 G Z ci2 => ?_) _ N1 u x 0 1 _ ci (Nat.le_refl _)).1
  have room := ci2.room
  have ei := ci2.toEI
  have c3 := ci2.2.2.2.1
  have g0 := ei.2.2.2.2.2.2.2.2.2.2.2.1
  refine wp_aload_n d169_73 rfl ?_
  refine wz_getI (v := (G : Int)) d169_74 rfl (hG.o (by decide) rfl) (by decide) c3 ?_
  refine wz_iconst d169_77 ?_
  refine wz_isub d169_78 ?_
  refine wp_istore d169_79 (Nat.le_of_ble_eq_true rfl) rfl ?_
  refine comb_2 hG (by omega) (by omega) (by omega) (fun N3 u3 e3 => ?_) G N2 u2 ei
  obtain ⟨q0, q1, q2, q3, q4, cf, -, rs, -, b1, -, q5, ge⟩ := e3
  have r0 := rs 0 (Nat.le_refl _) q5
  rw [ge] at r0
  exact h N3 u3 x2 q0 q1 q2 q3 (by omega) q4 cf r0
end PmM23
