/-! THE CALLS keep the invariant, and answer alike: start, step, value. -/
section PmI8
variable {M M' : pm_M} {Rf Rf' : Nat → Nat → Nat} {K L K' L' : Nat → Nat} {n s n' s' X Y Z z z' zf zv zf' zv' ln : Nat} {tx : Nat → Int} {T : Int → Option Ty} {w : List Int}
theorem FinK.fin {cnt tot : Nat} {t : Ty} {c : Cf} (h : FinK M Rf Y cnt zv t tot c) : isV c ∨ (tot = 60 ∧ ∃ c', mv c = some (true, c')) := by
  rcases h.2.2.2 with ⟨v, vs, sc, H, e, -⟩ | ⟨h1, h2, -⟩
  · exact Or.inl ⟨v, e⟩
  · exact Or.inr ⟨h1, h2⟩
/-- the places that a run leaves -/
theorem MX.lv (h : MX X M Rf K L n s zf zv z M' Rf' K' L' n' s' zf' zv') (r : MR X Rf K L n zf zv z) {p : Nat} {i : Int} (hp : p ≤ 43 ∨ (48 ≤ p ∧ p ≤ 51) ∨ (56 ≤ p ∧ p < 100)) (hw : ¬ WMc p i) : M' p i = M p i :=
  h.2.2.2.2.2.1 p (by have := r.1.1; omega) (r.low hp) i hw
theorem MX.nt (h : MX X M Rf K L n s zf zv z M' Rf' K' L' n' s' zf' zv') (r : MR X Rf K L n zf zv z) (x : ndf M Rf 1 1 tTop 0) : ndf M' Rf' 1 1 tTop 0 := by
  have n9 := r.1.1
  refine ndf_mono (fun g hg i _ _ => ?_) (Int.le_refl _) (Nat.le_refl _) x
  have e : Rf' 6 g = Rf 6 g := h.2.2.2.1 6 (by omega) g (by omega) (by omega)
  rw [e]
  have a := r.2.2.2.1.1 g hg
  have b := r.2.2.2.1.2.1 g hg
  exact h.2.2.2.2.2.1 _ a.2.1 (fun f hf => r.2.2.2.2.1.2 g f hg hf) i (by unfold WMc; omega)
end PmI8
section PmI8b
variable {σ : pm_S}
theorem op_start (hI : Inv σ) : pm_two 600 13 198 [] Inv σ := by
  obtain ⟨M, Rf, K, L, n, s, X, Y, Z, z, zf, zv, ln, tx, T, w, rfl, ib, im⟩ := hI
  have im0 := im
  obtain ⟨r32, nt, ct, mt, sc, sm, sh, mp, tr⟩ := im
  have hG := ib.1.1
  have n9 := hG.1
  have hY := ib.y
  have keep : Inv (zM M, Rf, K, L, n, s) := ⟨M, Rf, K, L, n, s, X, Y, Z, z, zf, zv, ln, tx, T, w, rfl, ib, im0⟩
  rcases tr.ctm with ⟨h4, cm⟩ | ⟨t, cnt, a, b, gd, cm, tc, tm⟩
  · refine wc_deep (show 0 + 2 ≤ 600 by omega) ?_
    refine c_start_no hG r32 cm (fun A h => by cases h) ⟨hG.o (by decide) rfl, ?_⟩
    refine wc_deep (show 0 + 1 ≤ 600 by omega) ?_
    exact m_start_no hG h4 ⟨_, rfl, rfl, keep⟩
  · cases ety : tyF 24 t [] [] with
    | inl p =>
      refine wc_deep (show 0 + 2 ≤ 600 by omega) ?_
      refine c_start_no hG r32 cm (fun A h => by rw [ety] at h; cases h) ⟨hG.o (by decide) rfl, ?_⟩
      refine wc_deep (show 0 + 12 ≤ 600 by omega) ?_
      refine m_start (cmL 0) hG r32 tm gd.1 gd.2.1 (fun q hq M2 r2 f2 => ?_) (fun A hA => by rw [ety] at hA; cases hA)
      have f3 : MF M M2 := fun p i hp => f2 p i (by unfold WTn; unfold WM at hp; omega)
      exact ⟨_, rfl, rfl, M2, Rf, K, L, n, s, X, Y, Z, z, zf, zv, ln, tx, T, w, rfl, ib, im0.mf ib f3 r2 (sm.keep (fun i _ _ => f2 _ _ (by unfold WTn; omega)) (fun i _ => f2 _ _ (by unfold WTn; omega)))⟩
    | inr A =>
      rw [ety] at cm
      have a6 := tm.2.2.2.2.1
      have p60 : pnd t ≤ 60 := by have := tm.2.2.1; unfold pnd; omega
      have r0 : MR Y (rset Rf 43 8 Y) K L n zf zv z := ib.1.rs hY
      refine wc_deep (show 0 + 7 ≤ 600 by omega) ?_
      refine c_start ib.1 hY r32 ib.2.2.1 cm tc gd.1 gd.2.2 p60 (run_ok gd.1 ety) (fun M' Rf' K' L' n' s' zf' zv' tot cF mx fk => ⟨mx.1.1.o (by decide) rfl, ?_⟩)
      have f1 : ∀ (p : Nat) (i : Int), ¬ (p = 1 ∧ (i = 13 ∨ i = 14)) → mset (mset M' 1 13 1) 1 14 0 p i = M' p i := fun p i hp => by rw [mset_o _ (fun e => hp ⟨e.1, Or.inr e.2⟩), mset_o _ (fun e => hp ⟨e.1, Or.inl e.2⟩)]
      have r1 : ∀ p i, R32 (mset (mset M' 1 13 1) 1 14 0 p i) := mset_R32 (mset_R32 mx.2.2.2.2.2.2 ⟨by omega, by omega⟩) ⟨by omega, by omega⟩
      have e13 : mset (mset M' 1 13 1) 1 14 0 1 13 = 1 := by rw [mset_i _ _ _ _ (by decide), mset_s]
      have e14 : mset (mset M' 1 13 1) 1 14 0 1 14 = 0 := mset_s _ _ _ _
      generalize mset (mset M' 1 13 1) 1 14 0 = M1 at f1 r1 e13 e14 ⊢
      have q1 : ∀ (p : Nat) (i : Int), p ≤ 42 → ¬ (p = 1 ∧ (i = 13 ∨ i = 14)) → M1 p i = M p i := fun p i hp hq => by rw [f1 p i hq]; exact mx.lv r0 (by omega) (by unfold WMc; omega)
      have e1 : ∀ (p : Nat) (i : Int), 56 ≤ p → p < 100 → M1 p i = M p i := fun p i p0 p1 => by rw [f1 p i (by omega)]; exact mx.lv r0 (by omega) (by unfold WMc; omega)
      obtain ⟨mt1, sm1, mp1⟩ := mod_kp e1 ⟨mt, sm, mp⟩
      have ct1 : CT M1 tx ln := ct.kp (q1 _ _ (by omega) (by omega)) (fun i => q1 _ _ (by omega) (by omega))
      have sc1 : SLC M1 T := sc.kp (fun p i p0 p1 _ => q1 _ _ (by omega) (by omega))
      have sh1 : SH M1 w := sh.kp (q1 _ _ (by omega) (by omega)) (fun i => q1 _ _ (by omega) (by omega))
      have nt1 : ndf M1 Rf' 1 1 tTop 0 := ndf_mono (fun g hg i _ _ => f1 _ _ (by have := mx.1.2.2.2.1.2.1 g hg; omega)) (Int.le_refl _) (Nat.le_refl _) (mx.nt r0 (ndf_rs (by decide) nt))
      have ib1 : IB Rf' K' L' n' s' X Y Y z zf' zv' := by
        have x9 : Rf' 1 9 = Rf 1 9 := (mx.2.2.2.1 1 (by omega) 9 (by omega) (by omega)).trans (rset_o (by omega))
        have x10 : Rf' 1 10 = Rf 1 10 := (mx.2.2.2.1 1 (by omega) 10 (by omega) (by omega)).trans (rset_o (by omega))
        have y := mx.2.1
        have i5 := ib.2.2.2.2.1
        have i6 := ib.2.2.2.2.2
        exact ⟨mx.1, ib.2.1, by rw [x9]; exact ib.2.2.1, by rw [x10]; exact ib.2.2.2.1, by omega, by omega⟩
      have tc1 : TMc M1 Y cnt t := tc.kp (fun p i p0 p1 => q1 p i (by omega) (by omega))
      have ft1 : FTc M1 (.inr A) := cm.2.kp (q1 _ _ (by omega) (by omega)) (q1 _ _ (by omega) (by omega)) (fun i => q1 _ _ (by omega) (by omega))
      have tm1 : TMm M1 a b t := tm.kn ⟨fun q i q1 q2 _ _ => e1 q i (by omega) (by omega), fun q i q1 q2 _ _ => e1 q i (by omega) (by omega)⟩ (e1 _ _ (by omega) (by omega)) (e1 _ _ (by omega) (by omega))
      have e11 : M1 1 11 = 1 := by rw [q1 _ _ (by omega) (by omega)]; exact cm.1
      have fk1 : FinK M1 Rf' Y cnt zv' t tot cF := fk.kp hY (fun p i _ _ => f1 p i (by omega)) (fun p i _ _ => f1 p i (by omega)) (fun g i hg => f1 _ i (by have := mx.1.2.2.1.2.1 g hg; omega)) (f1 _ _ (by omega)) (f1 _ _ (by omega)) (Nat.le_refl _)
      refine wc_deep (show 0 + 12 ≤ 600 by omega) ?_
      refine m_start (cmL 0) mx.1.1 r1 tm1 gd.1 gd.2.1 (fun q hq => by rw [ety] at hq; cases hq) (fun B hB M2 c r2 f2 rm => ?_)
      have f3 : ∀ (p : Nat) (i : Int), ¬ (WTn p i ∨ WRn p i) → M2 p i = M1 p i := fun p i hp => f2 p i (fun e => hp (Or.inl e)) (fun e => hp (Or.inr e))
      have g2 : ∀ (p : Nat) (i : Int), p < 56 ∨ 100 ≤ p → M2 p i = M1 p i := fun p i hp => f3 p i (by unfold WTn WRn; omega)
      obtain ⟨nt2, ct2, sc2, sh2⟩ := cls_kp ib1.1 g2 ⟨nt1, ct1, sc1, sh1⟩
      have tm2 : TMm M2 a b t := tm1.kn ⟨fun q i q1 q2 _ _ => f3 q i (by unfold WTn WRn; omega), fun q i q1 q2 _ _ => f3 q i (by unfold WTn WRn; omega)⟩ (f3 _ _ (by unfold WTn WRn; omega)) (f3 _ _ (by unfold WTn WRn; omega))
      have tr2 : TrI M2 Rf' Y Y zv' := by
        refine Or.inr ⟨t, cnt, a, b, gd, by rw [g2 _ _ (by omega)]; exact e11, tc1.kp (fun p i _ _ => g2 p i (by omega)), ?_, tm2, Or.inr ⟨A, 0, c, tot, cF, by rw [g2 _ _ (by omega)]; exact e13, rfl, ety, by rw [g2 _ _ (by omega)]; exact e14, rm, fk1.kp hY (fun p i _ _ => g2 p i (by omega)) (fun p i _ _ => g2 p i (by omega)) (fun g i hg => g2 _ i (by have := mx.1.2.2.1.2.1 g hg; omega)) (g2 _ _ (by omega)) (g2 _ _ (by omega)) (Nat.le_refl _)⟩⟩
        rw [ety]
        exact ft1.kp (g2 _ _ (by omega)) (g2 _ _ (by omega)) (fun i => g2 _ _ (by omega))
      exact ⟨_, rfl, rfl, M2, Rf', K', L', n', s', X, Y, Y, z, zf', zv', ln, tx, T, w, rfl, ib1, r2, nt2, ct2, ⟨by rw [f3 _ _ (by unfold WTn WRn; omega)]; exact mt1.1, mt1.2.1, fun i hi => by rw [f3 _ _ (by unfold WTn WRn; omega)]; exact mt1.2.2 i hi⟩, sc2, sm1.keep (fun i _ _ => f3 _ _ (by unfold WTn WRn; omega)) (fun i _ => f3 _ _ (by unfold WTn WRn; omega)), sh2, ⟨by rw [f3 _ _ (by unfold WTn WRn; omega)]; exact mp1.1, fun i hi => by rw [f3 _ _ (by unfold WTn WRn; omega)]; exact mp1.2 i hi⟩, tr2⟩
theorem op_step (hI : Inv σ) (a : Int32) : pm_two 600 14 207 [.int a] Inv σ := by
  obtain ⟨k, rk, rfl⟩ := i32 a
  obtain ⟨M, Rf, K, L, n, s, X, Y, Z, z, zf, zv, ln, tx, T, w, rfl, ib, im⟩ := hI
  have im0 := im
  obtain ⟨r32, nt, ct, mt, sc, sm, sh, mp, tr⟩ := im
  have hG := ib.1.1
  have hY := ib.y
  have keep : Inv (zM M, Rf, K, L, n, s) := ⟨M, Rf, K, L, n, s, X, Y, Z, z, zf, zv, ln, tx, T, w, rfl, ib, im0⟩
  have no : ∀ {r : Int}, M 1 13 = r → M 56 43 = r → (r = 0 ∨ r = 1) → (r = 0 ∨ ¬ (1 ≤ k ∧ k ≤ 20)) → pm_two 600 14 207 [.int (zI k)] Inv (zM M, Rf, K, L, n, s) := by
    intro r h1 h2 h3 h4
    refine wc_deep (show 0 + 1 ≤ 600 by omega) ?_
    refine c_step_no hG rk h1 h3 h4 ⟨hG.o (by decide) rfl, ?_⟩
    refine wc_deep (show 0 + 1 ≤ 600 by omega) ?_
    exact m_step_no hG rk h2 h3 h4 ⟨_, rfl, rfl, keep⟩
  rcases tr with ⟨-, -, h1, h2, -⟩ | ⟨t, cnt, a, b, gd, e11, tc, ft, tm, ⟨h1, h2, -⟩ | ⟨A, st, c, tot, cF, e13, rfl, ety, e14, rm, fk⟩⟩
  · exact no h1 h2 (Or.inl rfl) (Or.inl rfl)
  · exact no h1 h2 (Or.inl rfl) (Or.inl rfl)
  by_cases hk : 1 ≤ k ∧ k ≤ 20
  rotate_left
  · exact no e13 rm.1 (Or.inr rfl) (Or.inr hk)
  obtain ⟨ra, -, -⟩ := run_agree fk.1 fk.2.1 fk.fin rm.2.2.2.1 rm.2.2.1 rm.stl
  have t6 := fk.2.1
  refine wc_deep (show 0 + 1 ≤ 600 by omega) ?_
  refine c_stepR hG e13 e14 fk.2.2.1 ra t6 hk ⟨hG.o (by decide) rfl, ?_⟩
  have f1 : ∀ (p : Nat) (i : Int), ¬ (p = 1 ∧ i = 14) → mset M 1 14 ((st + min k.toNat (tot - st) : Nat) : Int) p i = M p i := fun p i hp => mset_o _ hp
  have r1 : ∀ p i, R32 (mset M 1 14 ((st + min k.toNat (tot - st) : Nat) : Int) p i) := mset_R32 r32 ⟨by omega, by omega⟩
  have x14 : mset M 1 14 ((st + min k.toNat (tot - st) : Nat) : Int) 1 14 = ((st + min k.toNat (tot - st) : Nat) : Int) := mset_s _ _ _ _
  generalize mset M 1 14 ((st + min k.toNat (tot - st) : Nat) : Int) = M1 at f1 r1 x14 ⊢
  have e1 : ∀ (p : Nat) (i : Int), 56 ≤ p → p < 100 → M1 p i = M p i := fun p i p0 p1 => f1 p i (by omega)
  obtain ⟨mt1, sm1, mp1⟩ := mod_kp e1 ⟨mt, sm, mp⟩
  have ct1 : CT M1 tx ln := ct.kp (f1 _ _ (by omega)) (fun i => f1 _ _ (by omega))
  have sc1 : SLC M1 T := sc.kp (fun p i p0 p1 _ => f1 _ _ (by omega))
  have sh1 : SH M1 w := sh.kp (f1 _ _ (by omega)) (fun i => f1 _ _ (by omega))
  have nt1 : ndf M1 Rf 1 1 tTop 0 := ndf_mono (fun g hg i _ _ => f1 _ _ (by have := ib.1.2.2.2.1.2.1 g hg; omega)) (Int.le_refl _) (Nat.le_refl _) nt
  have kn : Knm M M1 a b := ⟨fun q i q1 q2 _ _ => e1 q i (by omega) (by omega), fun q i q1 q2 _ _ => e1 q i (by omega) (by omega)⟩
  have tm1 : TMm M1 a b t := tm.kn kn (e1 _ _ (by omega) (by omega)) (e1 _ _ (by omega) (by omega))
  have rm1 : RunM M1 a b t st c := rm.kn kn (fun p i _ _ => e1 p i (by omega) (by omega)) (fun i _ _ => e1 _ _ (by omega) (by omega))
  have tc1 : TMc M1 Z cnt t := tc.kp (fun p i p0 p1 => f1 p i (by omega))
  have ft1 : FTc M1 (tyF 24 t [] []) := ft.kp (f1 _ _ (by omega)) (f1 _ _ (by omega)) (fun i => f1 _ _ (by omega))
  have fk1 : FinK M1 Rf Z cnt zv t tot cF := fk.kp hY (fun p i _ _ => f1 p i (by omega)) (fun p i _ _ => f1 p i (by omega)) (fun g i hg => f1 _ i (by have := ib.1.2.2.1.2.1 g hg; omega)) (f1 _ _ (by omega)) (f1 _ _ (by omega)) (Nat.le_refl _)
  refine wc_deep (show 0 + 6 ≤ 600 by omega) ?_
  refine m_stepR hG r1 tm.2.2.2.2.1 tm.2.2.2.2.2.1 rm1 (run_ok gd.1 ety) hk (fun nn q c' M2 r2 f2 rm2 hq hle hrest => ?_)
  obtain ⟨rb, -, rv⟩ := run_agree fk.1 t6 fk.fin rm2.2.2.2.1 rm2.2.2.1 rm2.stl
  have enn : nn = min k.toNat (tot - st) := by
    rcases hrest with hv | ⟨h1, h2⟩
    · have := rv hv; omega
    · omega
  have g2 : ∀ (p : Nat) (i : Int), p < 56 ∨ 100 ≤ p → M2 p i = M1 p i := fun p i hp => f2 p i (by unfold WRn; omega)
  obtain ⟨nt2, ct2, sc2, sh2⟩ := cls_kp ib.1 g2 ⟨nt1, ct1, sc1, sh1⟩
  have tm2 : TMm M2 a b t := tm1.kn ⟨fun q i q1 q2 _ _ => f2 q i (by unfold WRn; omega), fun q i q1 q2 _ _ => f2 q i (by unfold WRn; omega)⟩ (f2 _ _ (by unfold WRn; omega)) (f2 _ _ (by unfold WRn; omega))
  have tr2 : TrI M2 Rf Z Z zv := Or.inr ⟨t, cnt, a, b, gd, by rw [g2 _ _ (by omega), f1 _ _ (by omega)]; exact e11, tc1.kp (fun p i _ _ => g2 p i (by omega)), ft1.kp (g2 _ _ (by omega)) (g2 _ _ (by omega)) (fun i => g2 _ _ (by omega)), tm2, Or.inr ⟨A, st + nn, c', tot, cF, by rw [g2 _ _ (by omega), f1 _ _ (by omega)]; exact e13, rfl, ety, by rw [g2 _ _ (by omega), x14, enn], rm2, fk1.kp hY (fun p i _ _ => g2 p i (by omega)) (fun p i _ _ => g2 p i (by omega)) (fun g i hg => g2 _ i (by have := ib.1.2.2.1.2.1 g hg; omega)) (g2 _ _ (by omega)) (g2 _ _ (by omega)) (Nat.le_refl _)⟩⟩
  exact ⟨zI (nn : Int), by rw [enn], rfl, M2, Rf, K, L, n, s, X, Z, Z, z, zf, zv, ln, tx, T, w, rfl, ib, r2, nt2, ct2, ⟨by rw [f2 _ _ (by unfold WRn; omega)]; exact mt1.1, mt1.2.1, fun i hi => by rw [f2 _ _ (by unfold WRn; omega)]; exact mt1.2.2 i hi⟩, sc2, sm1.keep (fun i _ _ => f2 _ _ (by unfold WRn; omega)) (fun i _ => f2 _ _ (by unfold WRn; omega)), sh2, ⟨by rw [f2 _ _ (by unfold WRn; omega)]; exact mp1.1, fun i hi => by rw [f2 _ _ (by unfold WRn; omega)]; exact mp1.2 i hi⟩, tr2⟩
theorem op_value (hI : Inv σ) : pm_two 600 16 209 [] Inv σ := by
  obtain ⟨M, Rf, K, L, n, s, X, Y, Z, z, zf, zv, ln, tx, T, w, rfl, ib, im⟩ := hI
  have im0 := im
  obtain ⟨r32, nt, ct, mt, sc, sm, sh, mp, tr⟩ := im
  have hG := ib.1.1
  have hY := ib.y
  have keep : Inv (zM M, Rf, K, L, n, s) := ⟨M, Rf, K, L, n, s, X, Y, Z, z, zf, zv, ln, tx, T, w, rfl, ib, im0⟩
  have tr0 := tr
  have no : M 1 13 = 0 → M 56 43 = 0 → pm_two 600 16 209 [] Inv (zM M, Rf, K, L, n, s) := by
    intro h1 h2
    refine wc_deep (show 0 + 1 ≤ 600 by omega) ?_
    refine c_value_no (st := 0) (tot := 0) hG r32 h1 (Or.inl rfl) (fun h => absurd h (by decide)) (fun h => absurd h (by decide)) (by omega) (Or.inl rfl) ⟨hG.o (by decide) rfl, ?_⟩
    refine wc_deep (show 0 + 1 ≤ 600 by omega) ?_
    exact m_value_no hG h2 rfl (Or.inl rfl) tr0.h44 (Or.inl rfl) ⟨_, rfl, rfl, keep⟩
  rcases tr with ⟨-, -, h1, h2, -⟩ | ⟨t, cnt, a, b, gd, e11, tc, ft, tm, ⟨h1, h2, -⟩ | ⟨A, st, c, tot, cF, e13, rfl, ety, e14, rm, fk⟩⟩
  · exact no h1 h2
  · exact no h1 h2
  obtain ⟨ra, rc, rv⟩ := run_agree fk.1 fk.2.1 fk.fin rm.2.2.2.1 rm.2.2.1 rm.stl
  have t6 := fk.2.1
  have s6 := rm.2.2.1
  rcases rm.2.2.2.2.2 with ⟨⟨v, rfl⟩, h44⟩ | ⟨⟨c', hm⟩, h44⟩
  · have est : st = tot := rv ⟨v, rfl⟩
    have ec := rc est
    rcases fk.2.2.2 with ⟨v', vs, sc', H, e, hh, vz, hv⟩ | ⟨-, ⟨c', hm⟩, -⟩
    rotate_left
    · rw [← ec] at hm; cases hm
    rw [e] at ec
    have ev : v = v' := by injection ec with h; injection h
    subst ev
    refine wc_deep (show 0 + 84 ≤ 600 by omega) ?_
    refine c_valueR (st := st) (tot := tot) ib.1 r32 e13 e14 fk.2.2.1 t6 est hh vz tc.2.2 hv (fun hl M1 f0 r1 => ⟨hG.o (by decide) rfl, ?_⟩) (fun hl M1 f0 sh1 r1 => ⟨hG.o (by decide) rfl, ?_⟩)
    · have f1 : ∀ (p : Nat) (i : Int), ¬ (p = 15 ∨ (p = 13 ∧ i = 3)) → M1 p i = M p i := fun p i hp => f0 p i (by omega) (by omega)
      have e1 : ∀ (p : Nat) (i : Int), 56 ≤ p → p < 100 → M1 p i = M p i := fun p i p0 p1 => f1 p i (by omega)
      obtain ⟨mt1, sm1, mp1⟩ := mod_kp e1 ⟨mt, sm, mp⟩
      have ct1 : CT M1 tx ln := ct.kp (f1 _ _ (by omega)) (fun i => f1 _ _ (by omega))
      have sc1 : SLC M1 T := sc.kp (fun p i p0 p1 _ => f1 _ _ (by omega))
      have sh1 : SH M1 w := sh.kp (f1 _ _ (by omega)) (fun i => f1 _ _ (by omega))
      have nt1 : ndf M1 Rf 1 1 tTop 0 := ndf_mono (fun g hg i _ _ => f1 _ _ (by have := ib.1.2.2.2.1.2.1 g hg; omega)) (Int.le_refl _) (Nat.le_refl _) nt
      have tr1 := tr0.kp hY (KC9.wr ib.1 f1 (fun p i x => by unfold ok9; omega)) (KM9.of e1) (Nat.le_refl _)
      have rm1 : RunM M1 a b t st (.inr (v, [])) := rm.kn ⟨fun q i q1 q2 _ _ => e1 q i (by omega) (by omega), fun q i q1 q2 _ _ => e1 q i (by omega) (by omega)⟩ (fun p i _ _ => e1 p i (by omega) (by omega)) (fun i _ _ => e1 _ _ (by omega) (by omega))
      refine wc_deep (show 0 + 2 ≤ 600 by omega) ?_
      refine m_value hG r1 tm.2.2.2.2.1 rm1 (fun _ M2 f2 r2 => ?_) (fun h => by omega)
      have f3 : ∀ (p : Nat) (i : Int), ¬ (p = 98 ∨ p = 99) → M2 p i = M1 p i := fun p i hp => f2 p i (by omega) (by omega)
      have g2 : ∀ (p : Nat) (i : Int), p < 56 ∨ 100 ≤ p → M2 p i = M1 p i := fun p i hp => f3 p i (by omega)
      obtain ⟨nt2, ct2, sc2, sh2⟩ := cls_kp ib.1 g2 ⟨nt1, ct1, sc1, sh1⟩
      exact ⟨_, rfl, rfl, M2, Rf, K, L, n, s, X, Z, Z, z, zf, zv, ln, tx, T, w, rfl, ib, r2, nt2, ct2, ⟨by rw [f3 _ _ (by omega)]; exact mt1.1, mt1.2.1, fun i hi => by rw [f3 _ _ (by omega)]; exact mt1.2.2 i hi⟩, sc2, sm1.keep (fun i _ _ => f3 _ _ (by omega)) (fun i _ => f3 _ _ (by omega)), sh2, ⟨by rw [f3 _ _ (by omega)]; exact mp1.1, fun i hi => by rw [f3 _ _ (by omega)]; exact mp1.2 i hi⟩, tr1.kp hY (KC9.of ib.1 hY g2) (KM9.wr f3 (fun p i x => by omega)) (Nat.le_refl _)⟩
    · have f1 : ∀ (p : Nat) (i : Int), ¬ (p = 14 ∨ p = 15 ∨ (p = 13 ∧ (i = 2 ∨ i = 3))) → M1 p i = M p i := fun p i hp => f0 p i (by omega) (by omega) (by omega)
      have e1 : ∀ (p : Nat) (i : Int), 56 ≤ p → p < 100 → M1 p i = M p i := fun p i p0 p1 => f1 p i (by omega)
      obtain ⟨mt1, sm1, mp1⟩ := mod_kp e1 ⟨mt, sm, mp⟩
      have ct1 : CT M1 tx ln := ct.kp (f1 _ _ (by omega)) (fun i => f1 _ _ (by omega))
      have sc1 : SLC M1 T := sc.kp (fun p i p0 p1 _ => f1 _ _ (by omega))
      have nt1 : ndf M1 Rf 1 1 tTop 0 := ndf_mono (fun g hg i _ _ => f1 _ _ (by have := ib.1.2.2.2.1.2.1 g hg; omega)) (Int.le_refl _) (Nat.le_refl _) nt
      have tr1 := tr0.kp hY (KC9.wr ib.1 f1 (fun p i x => by unfold ok9; omega)) (KM9.of e1) (Nat.le_refl _)
      have rm1 : RunM M1 a b t st (.inr (v, [])) := rm.kn ⟨fun q i q1 q2 _ _ => e1 q i (by omega) (by omega), fun q i q1 q2 _ _ => e1 q i (by omega) (by omega)⟩ (fun p i _ _ => e1 p i (by omega) (by omega)) (fun i _ _ => e1 _ _ (by omega) (by omega))
      refine wc_deep (show 0 + 2 ≤ 600 by omega) ?_
      refine m_value hG r1 tm.2.2.2.2.1 rm1 (fun h => by omega) (fun _ M2 f2 r2 mp2 => ?_)
      have f3 : ∀ (p : Nat) (i : Int), ¬ (p = 98 ∨ p = 99 ∨ p = 58 ∨ (p = 56 ∧ i = 2)) → M2 p i = M1 p i := fun p i hp => f2 p i (by omega) (by omega) (by omega) (by omega)
      have g2 : ∀ (p : Nat) (i : Int), p < 56 ∨ 100 ≤ p → M2 p i = M1 p i := fun p i hp => f3 p i (by omega)
      obtain ⟨nt2, ct2, sc2, sh2⟩ := cls_kp ib.1 g2 ⟨nt1, ct1, sc1, sh1⟩
      exact ⟨_, rfl, rfl, M2, Rf, K, L, n, s, X, Z, Z, z, zf, zv, ln, tx, T, _, rfl, ib, r2, nt2, ct2, ⟨by rw [f3 _ _ (by omega)]; exact mt1.1, mt1.2.1, fun i hi => by rw [f3 _ _ (by omega)]; exact mt1.2.2 i hi⟩, sc2, sm1.keep (fun i _ _ => f3 _ _ (by omega)) (fun i _ => f3 _ _ (by omega)), sh2, mp2, tr1.kp hY (KC9.of ib.1 hY g2) (KM9.wr f3 (fun p i x => by omega)) (Nat.le_refl _)⟩
  · have hn : (1 : Int) = 0 ∨ st < tot ∨ M 43 16 = -1 := by
      by_cases e : st = tot
      · have ec := rc e
        rcases fk.2.2.2 with ⟨v', vs, sc', H, e', -⟩ | ⟨-, -, h⟩
        · rw [← ec] at e'; rw [e'] at hm; cases hm
        · exact Or.inr (Or.inr h)
      · exact Or.inr (Or.inl (by omega))
    refine wc_deep (show 0 + 1 ≤ 600 by omega) ?_
    refine c_value_no hG r32 e13 (Or.inr rfl) (fun _ => e14) (fun _ => fk.2.2.1) ⟨s6, t6⟩ hn ⟨hG.o (by decide) rfl, ?_⟩
    refine wc_deep (show 0 + 1 ≤ 600 by omega) ?_
    exact m_value_no hG rm.1 h44 (Or.inr rfl) (Or.inl rfl) (Or.inr rfl) ⟨_, rfl, rfl, keep⟩
end PmI8b
