/-! THE CALLS keep the invariant, and answer alike: typeOf, fits, start, step, steps, value. -/
section PmI7
variable {M M' : pm_M} {Rf Rf' : Nat → Nat → Nat} {K L K' L' : Nat → Nat} {n s n' s' X Y Z z z' zf zv zf' zv' ln : Nat} {tx : Nat → Int} {T : Int → Option Ty} {w : List Int}
/-- the model's parts behind a call on the model that writes tables of types alone -/
theorem IM.mf (ib : IB Rf K L n s X Y Z z zf zv) (im : IM M Rf Y Z zv ln tx T w) (f2 : MF M M') (r2 : ∀ p i, R32 (M' p i)) (sm2 : SLM M' T) : IM M' Rf Y Z zv ln tx T w := by
  obtain ⟨r32, nt, ct, mt, sc, sm, sh, mp, tr⟩ := im
  have g2 : ∀ (p : Nat) (i : Int), p < 56 ∨ 100 ≤ p → M' p i = M p i := fun p i hp => f2 p i (by unfold WM; omega)
  obtain ⟨nt2, ct2, sc2, sh2⟩ := cls_kp ib.1 g2 ⟨nt, ct, sc, sh⟩
  exact ⟨r2, nt2, ct2, ⟨by rw [f2 _ _ (by unfold WM; omega)]; exact mt.1, mt.2.1, fun i hi => by rw [f2 _ _ (by unfold WM; omega)]; exact mt.2.2 i hi⟩, sc2, sm2, sh2, ⟨by rw [f2 _ _ (by unfold WM; omega)]; exact mp.1, fun i hi => by rw [f2 _ _ (by unfold WM; omega)]; exact mp.2 i hi⟩, tr.kp ib.y (KC9.of ib.1 ib.y g2) (KM9.wr f2 (fun p i x => by unfold WM at x; omega)) (Nat.le_refl _)⟩
/-- what the class knows of its term -/
theorem TrI.ctm (h : TrI M Rf Y Z zv) : (M 56 4 = 0 ∧ CTm M none) ∨ ∃ (t : Ty) (cnt a b : Nat), Gd t ∧ CTm M (some (tyF 24 t [] [])) ∧ TMc M Y cnt t ∧ TMm M a b t := by
  rcases h with ⟨h1, h2, -, -, -⟩ | ⟨t, cnt, a, b, g, h1, tc, ft, tm, -⟩
  · exact Or.inl ⟨h2, h1⟩
  · exact Or.inr ⟨t, cnt, a, b, g, ⟨h1, ft⟩, tc, tm⟩
end PmI7
section PmI7b
variable {σ : pm_S}
theorem op_typeOf (hI : Inv σ) (a : Int32) : pm_two 600 11 196 [.int a] Inv σ := by
  obtain ⟨k, rk, rfl⟩ := i32 a
  obtain ⟨M, Rf, K, L, n, s, X, Y, Z, z, zf, zv, ln, tx, T, w, rfl, ib, im⟩ := hI
  have im0 := im
  obtain ⟨r32, nt, ct, mt, sc, sm, sh, mp, tr⟩ := im
  have hG := ib.1.1
  have hY := ib.y
  have keep : Inv (zM M, Rf, K, L, n, s) := ⟨M, Rf, K, L, n, s, X, Y, Z, z, zf, zv, ln, tx, T, w, rfl, ib, im0⟩
  rcases tr.ctm with ⟨h4, cm⟩ | ⟨t, cnt, a, b, gd, cm, tc, tm⟩
  · refine wc_deep (show 0 + 2 ≤ 600 by omega) ?_
    refine c_typeOf hG r32 rk sc cm (fun _ => ⟨hG.o (by decide) rfl, ?_⟩) (fun p h => by cases h) (fun A h => by cases h)
    refine wc_deep (show 0 + 1 ≤ 600 by omega) ?_
    exact typeOf_no hG h4 ⟨_, rfl, rfl, keep⟩
  · refine wc_deep (show 0 + 2 ≤ 600 by omega) ?_
    refine c_typeOf hG r32 rk sc cm (fun hn => ⟨hG.o (by decide) rfl, ?_⟩) (fun p hp hk => ⟨hG.o (by decide) rfl, ?_⟩) (fun A hA hk k' M1 ek hk' r1 f1 sc1 => ⟨hG.o (by decide) rfl, ?_⟩)
    · refine wc_deep (show 0 + 12 ≤ 600 by omega) ?_
      have hk : ¬ (0 ≤ k ∧ k ≤ 3) := by
        rcases hn with h | h
        · cases h
        · exact h
      exact m_typeOf (cmL 0) hG r32 rk sm tm gd.1 gd.2.1 (fun _ => ⟨_, rfl, rfl, keep⟩) (fun h => absurd h hk) (fun h => absurd h hk)
    · refine wc_deep (show 0 + 12 ≤ 600 by omega) ?_
      have hp' : tyF 24 t [] [] = .inl p := by injection hp
      refine m_typeOf (cmL 0) hG r32 rk sm tm gd.1 gd.2.1 (fun h => absurd hk h) (fun _ q hq M2 r2 f2 sm2 => ?_) (fun _ A hA => by rw [hp'] at hA; cases hA)
      have e : p = q := by rw [hp'] at hq; injection hq
      subst e
      exact ⟨_, rfl, rfl, M2, Rf, K, L, n, s, X, Y, Z, z, zf, zv, ln, tx, T, w, rfl, ib, im0.mf ib f2 r2 sm2⟩
    · have hA' : tyF 24 t [] [] = .inr A := by injection hA
      have e1 : ∀ (p : Nat) (i : Int), 56 ≤ p → p < 100 → M1 p i = M p i := fun p i p0 _ => f1 p i (by omega) (by omega)
      obtain ⟨mt1, sm1, mp1⟩ := mod_kp e1 ⟨mt, sm, mp⟩
      have f1' : ∀ (p : Nat) (i : Int), ¬ ((p = 30 + 2 * k' ∧ i = 1) ∨ p = 31 + 2 * k') → M1 p i = M p i := fun p i hp => f1 p i (by omega) (by omega)
      have ct1 : CT M1 tx ln := ct.kp (f1 _ _ (by omega) (by omega)) (fun i => f1 _ _ (by omega) (by omega))
      have sh1 : SH M1 w := sh.kp (f1 _ _ (by omega) (by omega)) (fun i => f1 _ _ (by omega) (by omega))
      have nt1 : ndf M1 Rf 1 1 tTop 0 := ndf_mono (fun g hg i _ _ => f1' _ _ (by have := ib.1.2.2.2.1.2.1 g hg; omega)) (Int.le_refl _) (Nat.le_refl _) nt
      have tr1 := tr.kp hY (KC9.wr ib.1 f1' (fun p i x => by unfold ok9; omega)) (KM9.of e1) (Nat.le_refl _)
      have tm1 : TMm M1 a b t := tm.kn ⟨fun q i q1 q2 _ _ => e1 q i (by omega) (by omega), fun q i q1 q2 _ _ => e1 q i (by omega) (by omega)⟩ (e1 _ _ (by omega) (by omega)) (e1 _ _ (by omega) (by omega))
      refine wc_deep (show 0 + 12 ≤ 600 by omega) ?_
      refine m_typeOf (cmL 0) hG r1 rk sm1 tm1 gd.1 gd.2.1 (fun h => absurd hk h) (fun _ q hq => by rw [hA'] at hq; cases hq) (fun _ B hB M2 r2 f2 sm2 => ?_)
      have e : A = B := by rw [hA'] at hB; injection hB
      subst e
      have g2 : ∀ (p : Nat) (i : Int), p < 56 ∨ 100 ≤ p → M2 p i = M1 p i := fun p i hp => f2 p i (by unfold WM; omega)
      obtain ⟨nt2, ct2, sc2, sh2⟩ := cls_kp ib.1 g2 ⟨nt1, ct1, sc1, sh1⟩
      exact ⟨_, rfl, rfl, M2, Rf, K, L, n, s, X, Y, Z, z, zf, zv, ln, tx, _, w, rfl, ib, r2, nt2, ct2, ⟨by rw [f2 _ _ (by unfold WM; omega)]; exact mt1.1, mt1.2.1, fun i hi => by rw [f2 _ _ (by unfold WM; omega)]; exact mt1.2.2 i hi⟩, sc2, sm2, sh2, ⟨by rw [f2 _ _ (by unfold WM; omega)]; exact mp1.1, fun i hi => by rw [f2 _ _ (by unfold WM; omega)]; exact mp1.2 i hi⟩, tr1.kp hY (KC9.of ib.1 hY g2) (KM9.wr f2 (fun p i x => by unfold WM at x; omega)) (Nat.le_refl _)⟩
theorem op_fits (hI : Inv σ) (a : Int32) : pm_two 600 12 197 [.int a] Inv σ := by
  obtain ⟨k, rk, rfl⟩ := i32 a
  obtain ⟨M, Rf, K, L, n, s, X, Y, Z, z, zf, zv, ln, tx, T, w, rfl, ib, im⟩ := hI
  have im0 := im
  obtain ⟨r32, nt, ct, mt, sc, sm, sh, mp, tr⟩ := im
  have hG := ib.1.1
  have hR := ib.1.2.2.2.1
  have n9 := hG.1
  have hY := ib.y
  have keep : Inv (zM M, Rf, K, L, n, s) := ⟨M, Rf, K, L, n, s, X, Y, Z, z, zf, zv, ln, tx, T, w, rfl, ib, im0⟩
  rcases tr.ctm with ⟨h4, cm⟩ | ⟨t, cnt, a, b, gd, cm, tc, tm⟩
  · refine wc_deep (show 0 + 76 ≤ 600 by omega) ?_
    refine c_fits hG hR r32 rk sc cm (fun _ => ⟨hG.o (by decide) rfl, ?_⟩) (fun A B h => by cases h)
    refine wc_deep (show 0 + 1 ≤ 600 by omega) ?_
    exact fits_no hG h4 ⟨_, rfl, rfl, keep⟩
  · refine wc_deep (show 0 + 76 ≤ 600 by omega) ?_
    refine c_fits hG hR r32 rk sc cm (fun hn => ⟨hG.o (by decide) rfl, ?_⟩) (fun A B hA eB M1 R1 K1 L1 n1 s1 z1 cx => ⟨cx.g.o (by decide) rfl, ?_⟩)
    · refine wc_deep (show 0 + 12 ≤ 600 by omega) ?_
      refine m_fits (cmL 0) hG r32 rk sm tm gd.1 gd.2.1 (fun _ M2 r2 f2 sm2 => ⟨_, rfl, rfl, M2, Rf, K, L, n, s, X, Y, Z, z, zf, zv, ln, tx, T, w, rfl, ib, im0.mf ib f2 r2 sm2⟩) (fun A B hA hB => ?_)
      rcases hn with h | h
      · exact absurd (congrArg some hA) (h A)
      · rw [h] at hB; cases hB
    · have hA' : tyF 24 t [] [] = .inr A := by injection hA
      have e1 := cx.km ib.1 wc1_w4
      have ib1 := cx.ib ib
      obtain ⟨mt1, sm1, mp1⟩ := mod_kp e1 ⟨mt, sm, mp⟩
      have ct1 : CT M1 tx ln := ct.kp (cx.lv hR n9 (by omega) (by omega) (by unfold WC1; omega)) (fun i => cx.lv hR n9 (by omega) (by omega) (by unfold WC1; omega))
      have sh1 : SH M1 w := sh.kp (cx.lv hR n9 (by omega) (by omega) (by unfold WC1; omega)) (fun i => cx.lv hR n9 (by omega) (by omega) (by unfold WC1; omega))
      have tr1 := tr.kp hY (cx.kc ib.1 hY wc1_w4 (fun i _ _ => by unfold WC1; omega) (by unfold WC1; omega) (fun i => by unfold WC1; omega) (fun p i _ _ => by unfold WC1; omega)) (KM9.of e1) (Nat.le_refl _)
      have im1 : IM M1 R1 Y Z zv ln tx T w := ⟨cx.r32, cx.nt nt, ct1, mt1, cx.slc hR n9 sc, sm1, sh1, mp1, tr1⟩
      have tm1 : TMm M1 a b t := tm.kn ⟨fun q i q1 q2 _ _ => e1 q i (by omega) (by omega), fun q i q1 q2 _ _ => e1 q i (by omega) (by omega)⟩ (e1 _ _ (by omega) (by omega)) (e1 _ _ (by omega) (by omega))
      refine wc_deep (show 0 + 12 ≤ 600 by omega) ?_
      refine m_fits (cmL 0) cx.g cx.r32 rk sm1 tm1 gd.1 gd.2.1 (fun hn => ?_) (fun A' B' hA2 hB M2 r2 f2 sm2 => ?_)
      · rcases hn with h | ⟨p, h⟩
        · rw [h] at eB; cases eB
        · rw [hA'] at h; cases h
      have eA : A = A' := by rw [hA'] at hA2; injection hA2
      have eB2 : B = B' := by rw [eB] at hB; injection hB
      subst eA; subst eB2
      exact ⟨_, rfl, rfl, M2, R1, K1, L1, n1, s1, X, Y, Z, z1, zf, zv, ln, tx, T, w, rfl, ib1, im1.mf ib1 f2 r2 sm2⟩
theorem op_steps (hI : Inv σ) : pm_two 600 15 208 [] Inv σ := by
  obtain ⟨M, Rf, K, L, n, s, X, Y, Z, z, zf, zv, ln, tx, T, w, rfl, ib, im⟩ := hI
  have hG := ib.1.1
  have keep : Inv (zM M, Rf, K, L, n, s) := ⟨M, Rf, K, L, n, s, X, Y, Z, z, zf, zv, ln, tx, T, w, rfl, ib, im⟩
  have q : (M 1 13 = 0 ∧ M 56 43 = 0) ∨ (M 1 13 = 1 ∧ M 56 43 = 1 ∧ M 56 45 = M 1 14) := by
    rcases im.2.2.2.2.2.2.2.2 with ⟨-, -, h1, h2, -⟩ | ⟨t, cnt, a, b, -, -, -, -, -, ⟨h1, h2, -⟩ | ⟨A, st, c, tot, cF, h1, -, -, h3, rm, -⟩⟩
    · exact Or.inl ⟨h1, h2⟩
    · exact Or.inl ⟨h1, h2⟩
    · exact Or.inr ⟨h1, rm.1, by rw [rm.2.1, h3]⟩
  refine wc_deep (show 0 + 1 ≤ 600 by omega) ?_
  rcases q with ⟨h1, h2⟩ | ⟨h1, h2, h3⟩
  · refine c_steps hG h1 rfl (Or.inl rfl) (fun _ => ⟨hG.o (by decide) rfl, ?_⟩) (fun h => absurd h (by decide))
    refine wc_deep (show 0 + 1 ≤ 600 by omega) ?_
    exact m_steps hG h2 rfl (Or.inl rfl) (fun _ => ⟨_, rfl, rfl, keep⟩) (fun h => absurd h (by decide))
  · refine c_steps hG h1 rfl (Or.inr rfl) (fun h => absurd h (by decide)) (fun _ => ⟨hG.o (by decide) rfl, ?_⟩)
    refine wc_deep (show 0 + 1 ≤ 600 by omega) ?_
    exact m_steps hG h2 h3 (Or.inr rfl) (fun h => absurd h (by decide)) (fun _ => ⟨_, rfl, rfl, keep⟩)
end PmI7b
