/-! THE CALLS keep the invariant, and answer alike: types in slots, the page. -/
section PmI5
variable {σ : pm_S}
/-- behind a call of the class on types that leaves the slots -/
theorem wc1_w4 : ∀ p i, WC1 p i → p ≤ 42 := fun p i x => by unfold WC1 at x; omega
theorem wc2_w4 : ∀ p i, WC2 p i → p ≤ 42 := fun p i x => by unfold WC2 at x; omega
theorem wc3_w4 : ∀ p i, WC3 p i → p ≤ 42 := fun p i x => by unfold WC3 WC1 at x; omega
theorem op_below (hI : Inv σ) (a b : Int32) : pm_two 600 4 176 [.int a, .int b] Inv σ := by
  obtain ⟨i, ri, rfl⟩ := i32 a
  obtain ⟨j, rj, rfl⟩ := i32 b
  obtain ⟨M, Rf, K, L, n, s, X, Y, Z, z, zf, zv, ln, tx, T, w, rfl, ib, r32, nt, ct, mt, sc, sm, sh, mp, tr⟩ := hI
  have hG := ib.1.1
  have hR := ib.1.2.2.2.1
  have hY := ib.y
  have n9 := hG.1
  refine wc_deep (show 0 + 76 ≤ 600 by omega) ?_
  refine c_belowOp hG hR r32 ri rj sc (fun hn => ⟨hG.o (by decide) rfl, ?_⟩) (fun A B eA eB M1 R1 K1 L1 n1 s1 z1 cx => ⟨cx.g.o (by decide) rfl, ?_⟩)
  · refine wc_deep (show 0 + 8 ≤ 600 by omega) ?_
    exact m_below hG r32 ri rj sm (fun _ => ⟨_, rfl, rfl, M, Rf, K, L, n, s, X, Y, Z, z, zf, zv, ln, tx, T, w, rfl, ib, r32, nt, ct, mt, sc, sm, sh, mp, tr⟩) (fun A B eA eB => by
      rcases hn with h | h
      · rw [h] at eA; cases eA
      · rw [h] at eB; cases eB)
  · have e1 := cx.km ib.1 wc1_w4
    have ib1 := cx.ib ib
    obtain ⟨mt1, sm1, mp1⟩ := mod_kp e1 ⟨mt, sm, mp⟩
    have ct1 : CT M1 tx ln := ct.kp (cx.lv hR n9 (by omega) (by omega) (by unfold WC1; omega)) (fun i => cx.lv hR n9 (by omega) (by omega) (by unfold WC1; omega))
    have sh1 : SH M1 w := sh.kp (cx.lv hR n9 (by omega) (by omega) (by unfold WC1; omega)) (fun i => cx.lv hR n9 (by omega) (by omega) (by unfold WC1; omega))
    have tr1 := tr.kp hY (cx.kc ib.1 hY wc1_w4 (fun i _ _ => by unfold WC1; omega) (by unfold WC1; omega) (fun i => by unfold WC1; omega) (fun p i _ _ => by unfold WC1; omega)) (KM9.of e1) (Nat.le_refl _)
    refine wc_deep (show 0 + 8 ≤ 600 by omega) ?_
    refine m_below cx.g cx.r32 ri rj sm1 (fun hn => ?_) (fun A' B' eA' eB' M2 f2 r2 sm2 => ?_)
    · rcases hn with h | h
      · rw [h] at eA; cases eA
      · rw [h] at eB; cases eB
    rw [eA] at eA'; cases eA'
    rw [eB] at eB'; cases eB'
    have g2 : ∀ (p : Nat) (i : Int), p < 56 ∨ 100 ≤ p → M2 p i = M1 p i := fun p i hp => f2 p i (by unfold WM; omega)
    obtain ⟨nt2, ct2, sc2, sh2⟩ := cls_kp ib1.1 g2 ⟨cx.nt nt, ct1, cx.slc hR n9 sc, sh1⟩
    exact ⟨_, rfl, rfl, M2, R1, K1, L1, n1, s1, X, Y, Z, z1, zf, zv, ln, tx, T, w, rfl, ib1, r2, nt2, ct2, ⟨by rw [f2 _ _ (by unfold WM; omega)]; exact mt1.1, mt1.2.1, fun i hi => by rw [f2 _ _ (by unfold WM; omega)]; exact mt1.2.2 i hi⟩, sc2, sm2, sh2, ⟨by rw [f2 _ _ (by unfold WM; omega)]; exact mp1.1, fun i hi => by rw [f2 _ _ (by unfold WM; omega)]; exact mp1.2 i hi⟩, tr1.kp hY (KC9.of ib1.1 hY g2) (KM9.wr f2 (fun p i x => by unfold WM at x; omega)) (Nat.le_refl _)⟩
theorem op_same (hI : Inv σ) (a b : Int32) : pm_two 600 5 177 [.int a, .int b] Inv σ := by
  obtain ⟨i, ri, rfl⟩ := i32 a
  obtain ⟨j, rj, rfl⟩ := i32 b
  obtain ⟨M, Rf, K, L, n, s, X, Y, Z, z, zf, zv, ln, tx, T, w, rfl, ib, r32, nt, ct, mt, sc, sm, sh, mp, tr⟩ := hI
  have hG := ib.1.1
  have hR := ib.1.2.2.2.1
  have hY := ib.y
  have n9 := hG.1
  refine wc_deep (show 0 + 22 ≤ 600 by omega) ?_
  refine c_sameOp hG hR r32 ri rj sc (fun hn => ⟨hG.o (by decide) rfl, ?_⟩) (fun A B eA eB M1 R1 K1 L1 n1 s1 z1 cx => ⟨cx.g.o (by decide) rfl, ?_⟩)
  · refine wc_deep (show 0 + 4 ≤ 600 by omega) ?_
    exact m_same hG r32 ri rj sm (fun _ => ⟨_, rfl, rfl, M, Rf, K, L, n, s, X, Y, Z, z, zf, zv, ln, tx, T, w, rfl, ib, r32, nt, ct, mt, sc, sm, sh, mp, tr⟩) (fun A B eA eB => by
      rcases hn with h | h
      · rw [h] at eA; cases eA
      · rw [h] at eB; cases eB)
  · have e1 := cx.km ib.1 wc1_w4
    have ib1 := cx.ib ib
    obtain ⟨mt1, sm1, mp1⟩ := mod_kp e1 ⟨mt, sm, mp⟩
    have ct1 : CT M1 tx ln := ct.kp (cx.lv hR n9 (by omega) (by omega) (by unfold WC1; omega)) (fun i => cx.lv hR n9 (by omega) (by omega) (by unfold WC1; omega))
    have sh1 : SH M1 w := sh.kp (cx.lv hR n9 (by omega) (by omega) (by unfold WC1; omega)) (fun i => cx.lv hR n9 (by omega) (by omega) (by unfold WC1; omega))
    have tr1 := tr.kp hY (cx.kc ib.1 hY wc1_w4 (fun i _ _ => by unfold WC1; omega) (by unfold WC1; omega) (fun i => by unfold WC1; omega) (fun p i _ _ => by unfold WC1; omega)) (KM9.of e1) (Nat.le_refl _)
    refine wc_deep (show 0 + 4 ≤ 600 by omega) ?_
    refine m_same cx.g cx.r32 ri rj sm1 (fun hn => ?_) (fun A' B' eA' eB' => ?_)
    · rcases hn with h | h
      · rw [h] at eA; cases eA
      · rw [h] at eB; cases eB
    rw [eA] at eA'; cases eA'
    rw [eB] at eB'; cases eB'
    exact ⟨_, rfl, rfl, M1, R1, K1, L1, n1, s1, X, Y, Z, z1, zf, zv, ln, tx, T, w, rfl, ib1, cx.r32, cx.nt nt, ct1, mt1, cx.slc hR n9 sc, sm1, sh1, mp1, tr1⟩
theorem op_join (hI : Inv σ) (a b c : Int32) : pm_two 600 6 179 [.int a, .int b, .int c] Inv σ := by
  obtain ⟨i, ri, rfl⟩ := i32 a
  obtain ⟨j, rj, rfl⟩ := i32 b
  obtain ⟨k, rk, rfl⟩ := i32 c
  obtain ⟨M, Rf, K, L, n, s, X, Y, Z, z, zf, zv, ln, tx, T, w, rfl, ib, r32, nt, ct, mt, sc, sm, sh, mp, tr⟩ := hI
  have hG := ib.1.1
  have hR := ib.1.2.2.2.1
  have hY := ib.y
  have n9 := hG.1
  refine wc_deep (show 0 + 260 ≤ 600 by omega) ?_
  refine c_joinOp hG hR r32 nt ri rj rk sc (fun hn => ⟨hG.o (by decide) rfl, ?_⟩) (fun A B eA eB k0 k3 M1 R1 K1 L1 n1 s1 z1 cx sc1 => ⟨cx.g.o (by decide) rfl, ?_⟩)
  · have no : ∀ A B, sl T i = some A → sl T j = some B → 0 ≤ k → k ≤ 3 → False := by
      intro A B eA eB k0 k3
      rcases hn with h | h | h
      · rw [h] at eA; cases eA
      · rw [h] at eB; cases eB
      · exact h ⟨k0, k3⟩
    refine wc_deep (show 0 + 11 ≤ 600 by omega) ?_
    exact m_join hG r32 ri rj rk sm (fun _ => ⟨_, rfl, rfl, M, Rf, K, L, n, s, X, Y, Z, z, zf, zv, ln, tx, T, w, rfl, ib, r32, nt, ct, mt, sc, sm, sh, mp, tr⟩) (fun A B eA eB k0 k3 => (no A B eA eB k0 k3).elim) (fun A B eA eB k0 k3 => (no A B eA eB k0 k3).elim) (fun A B eA eB k0 k3 => (no A B eA eB k0 k3).elim)
  · have e1 := cx.km ib.1 wc2_w4
    have ib1 := cx.ib ib
    obtain ⟨mt1, sm1, mp1⟩ := mod_kp e1 ⟨mt, sm, mp⟩
    have ct1 : CT M1 tx ln := ct.kp (cx.lv hR n9 (by omega) (by omega) (by unfold WC2; omega)) (fun i => cx.lv hR n9 (by omega) (by omega) (by unfold WC2; omega))
    have sh1 : SH M1 w := sh.kp (cx.lv hR n9 (by omega) (by omega) (by unfold WC2; omega)) (fun i => cx.lv hR n9 (by omega) (by omega) (by unfold WC2; omega))
    have tr1 := tr.kp hY (cx.kc ib.1 hY wc2_w4 (fun i _ _ => by unfold WC2; omega) (by unfold WC2; omega) (fun i => by unfold WC2; omega) (fun p i _ _ => by unfold WC2; omega)) (KM9.of e1) (Nat.le_refl _)
    have fin : ∀ (M2 : pm_M) (T' : Int → Option Ty), SLC M1 T' → MF M1 M2 → (∀ p i, R32 (M2 p i)) → SLM M2 T' → Inv (zM M2, R1, K1, L1, n1, s1) := by
      intro M2 T' sc1 f2 r2 sm2
      have g2 : ∀ (p : Nat) (i : Int), p < 56 ∨ 100 ≤ p → M2 p i = M1 p i := fun p i hp => f2 p i (by unfold WM; omega)
      obtain ⟨nt2, ct2, sc2, sh2⟩ := cls_kp ib1.1 g2 ⟨cx.nt nt, ct1, sc1, sh1⟩
      exact ⟨M2, R1, K1, L1, n1, s1, X, Y, Z, z1, zf, zv, ln, tx, T', w, rfl, ib1, r2, nt2, ct2, ⟨by rw [f2 _ _ (by unfold WM; omega)]; exact mt1.1, mt1.2.1, fun i hi => by rw [f2 _ _ (by unfold WM; omega)]; exact mt1.2.2 i hi⟩, sc2, sm2, sh2, ⟨by rw [f2 _ _ (by unfold WM; omega)]; exact mp1.1, fun i hi => by rw [f2 _ _ (by unfold WM; omega)]; exact mp1.2 i hi⟩, tr1.kp hY (KC9.of ib1.1 hY g2) (KM9.wr f2 (fun p i x => by unfold WM at x; omega)) (Nat.le_refl _)⟩
    refine wc_deep (show 0 + 11 ≤ 600 by omega) ?_
    refine m_join cx.g cx.r32 ri rj rk sm1 (fun hn => ?_) (fun A' B' eA' eB' _ _ ev M2 f2 r2 sm2 => ?_) (fun A' B' eA' eB' _ _ ev M2 f2 r2 sm2 => ?_) (fun A' B' eA' eB' _ _ R ev _ _ M2 f2 r2 sm2 => ?_)
    · rcases hn with h | h | h
      · rw [h] at eA; cases eA
      · rw [h] at eB; cases eB
      · exact absurd ⟨k0, k3⟩ h
    all_goals
      rw [eA] at eA'; cases eA'
      rw [eB] at eB'; cases eB'
      rw [ev] at sc1 ⊢
      exact ⟨_, rfl, rfl, fin M2 _ sc1 f2 r2 sm2⟩
theorem op_meet (hI : Inv σ) (a b c : Int32) : pm_two 600 7 180 [.int a, .int b, .int c] Inv σ := by
  obtain ⟨i, ri, rfl⟩ := i32 a
  obtain ⟨j, rj, rfl⟩ := i32 b
  obtain ⟨k, rk, rfl⟩ := i32 c
  obtain ⟨M, Rf, K, L, n, s, X, Y, Z, z, zf, zv, ln, tx, T, w, rfl, ib, r32, nt, ct, mt, sc, sm, sh, mp, tr⟩ := hI
  have hG := ib.1.1
  have hR := ib.1.2.2.2.1
  have hY := ib.y
  have n9 := hG.1
  refine wc_deep (show 0 + 260 ≤ 600 by omega) ?_
  refine c_meetOp hG hR r32 nt ri rj rk sc (fun hn => ⟨hG.o (by decide) rfl, ?_⟩) (fun A B eA eB k0 k3 M1 R1 K1 L1 n1 s1 z1 cx sc1 => ⟨cx.g.o (by decide) rfl, ?_⟩)
  · have no : ∀ A B, sl T i = some A → sl T j = some B → 0 ≤ k → k ≤ 3 → False := by
      intro A B eA eB k0 k3
      rcases hn with h | h | h
      · rw [h] at eA; cases eA
      · rw [h] at eB; cases eB
      · exact h ⟨k0, k3⟩
    refine wc_deep (show 0 + 11 ≤ 600 by omega) ?_
    exact m_meet hG r32 ri rj rk sm (fun _ => ⟨_, rfl, rfl, M, Rf, K, L, n, s, X, Y, Z, z, zf, zv, ln, tx, T, w, rfl, ib, r32, nt, ct, mt, sc, sm, sh, mp, tr⟩) (fun A B eA eB k0 k3 => (no A B eA eB k0 k3).elim) (fun A B eA eB k0 k3 => (no A B eA eB k0 k3).elim) (fun A B eA eB k0 k3 => (no A B eA eB k0 k3).elim)
  · have e1 := cx.km ib.1 wc2_w4
    have ib1 := cx.ib ib
    obtain ⟨mt1, sm1, mp1⟩ := mod_kp e1 ⟨mt, sm, mp⟩
    have ct1 : CT M1 tx ln := ct.kp (cx.lv hR n9 (by omega) (by omega) (by unfold WC2; omega)) (fun i => cx.lv hR n9 (by omega) (by omega) (by unfold WC2; omega))
    have sh1 : SH M1 w := sh.kp (cx.lv hR n9 (by omega) (by omega) (by unfold WC2; omega)) (fun i => cx.lv hR n9 (by omega) (by omega) (by unfold WC2; omega))
    have tr1 := tr.kp hY (cx.kc ib.1 hY wc2_w4 (fun i _ _ => by unfold WC2; omega) (by unfold WC2; omega) (fun i => by unfold WC2; omega) (fun p i _ _ => by unfold WC2; omega)) (KM9.of e1) (Nat.le_refl _)
    have fin : ∀ (M2 : pm_M) (T' : Int → Option Ty), SLC M1 T' → MF M1 M2 → (∀ p i, R32 (M2 p i)) → SLM M2 T' → Inv (zM M2, R1, K1, L1, n1, s1) := by
      intro M2 T' sc1 f2 r2 sm2
      have g2 : ∀ (p : Nat) (i : Int), p < 56 ∨ 100 ≤ p → M2 p i = M1 p i := fun p i hp => f2 p i (by unfold WM; omega)
      obtain ⟨nt2, ct2, sc2, sh2⟩ := cls_kp ib1.1 g2 ⟨cx.nt nt, ct1, sc1, sh1⟩
      exact ⟨M2, R1, K1, L1, n1, s1, X, Y, Z, z1, zf, zv, ln, tx, T', w, rfl, ib1, r2, nt2, ct2, ⟨by rw [f2 _ _ (by unfold WM; omega)]; exact mt1.1, mt1.2.1, fun i hi => by rw [f2 _ _ (by unfold WM; omega)]; exact mt1.2.2 i hi⟩, sc2, sm2, sh2, ⟨by rw [f2 _ _ (by unfold WM; omega)]; exact mp1.1, fun i hi => by rw [f2 _ _ (by unfold WM; omega)]; exact mp1.2 i hi⟩, tr1.kp hY (KC9.of ib1.1 hY g2) (KM9.wr f2 (fun p i x => by unfold WM at x; omega)) (Nat.le_refl _)⟩
    refine wc_deep (show 0 + 11 ≤ 600 by omega) ?_
    refine m_meet cx.g cx.r32 ri rj rk sm1 (fun hn => ?_) (fun A' B' eA' eB' _ _ ev M2 f2 r2 sm2 => ?_) (fun A' B' eA' eB' _ _ ev M2 f2 r2 sm2 => ?_) (fun A' B' eA' eB' _ _ R ev _ _ M2 f2 r2 sm2 => ?_)
    · rcases hn with h | h | h
      · rw [h] at eA; cases eA
      · rw [h] at eB; cases eB
      · exact absurd ⟨k0, k3⟩ h
    all_goals
      rw [eA] at eA'; cases eA'
      rw [eB] at eB'; cases eB'
      rw [ev] at sc1 ⊢
      exact ⟨_, rfl, rfl, fin M2 _ sc1 f2 r2 sm2⟩
theorem op_size (hI : Inv σ) (a : Int32) : pm_two 600 8 181 [.int a] Inv σ := by
  obtain ⟨i, ri, rfl⟩ := i32 a
  obtain ⟨M, Rf, K, L, n, s, X, Y, Z, z, zf, zv, ln, tx, T, w, rfl, ib, r32, nt, ct, mt, sc, sm, sh, mp, tr⟩ := hI
  have hG := ib.1.1
  have fin : Inv (zM M, Rf, K, L, n, s) := ⟨M, Rf, K, L, n, s, X, Y, Z, z, zf, zv, ln, tx, T, w, rfl, ib, r32, nt, ct, mt, sc, sm, sh, mp, tr⟩
  refine wc_deep (show 0 + 3 ≤ 600 by omega) ?_
  refine c_size hG r32 ri sc (fun t et => ⟨hG.o (by decide) rfl, ?_⟩) (fun et => ⟨hG.o (by decide) rfl, ?_⟩)
  · refine wc_deep (show 0 + 3 ≤ 600 by omega) ?_
    refine m_size hG r32 ri sm (fun t' et' => ?_) (fun et' => by rw [et'] at et; cases et)
    rw [et] at et'; cases et'
    exact ⟨_, rfl, rfl, fin⟩
  · refine wc_deep (show 0 + 3 ≤ 600 by omega) ?_
    exact m_size hG r32 ri sm (fun t' et' => by rw [et'] at et; cases et) (fun _ => ⟨_, rfl, rfl, fin⟩)
theorem op_write (hI : Inv σ) (a : Int32) : pm_two 600 9 185 [.int a] Inv σ := by
  obtain ⟨i, ri, rfl⟩ := i32 a
  obtain ⟨M, Rf, K, L, n, s, X, Y, Z, z, zf, zv, ln, tx, T, w, rfl, ib, r32, nt, ct, mt, sc, sm, sh, mp, tr⟩ := hI
  have hG := ib.1.1
  have hR := ib.1.2.2.2.1
  have hY := ib.y
  have n9 := hG.1
  refine wc_deep (show 0 + 60 ≤ 600 by omega) ?_
  refine c_writeOp hG hR r32 ri sc (fun hn => ⟨hG.o (by decide) rfl, ?_⟩) (fun A eA M1 R1 K1 L1 n1 s1 z1 cx sh1 => ⟨cx.g.o (by decide) rfl, ?_⟩)
  · refine wc_deep (show 0 + 4 ≤ 600 by omega) ?_
    exact m_writeOp hG r32 ri sm (fun _ => ⟨_, rfl, rfl, M, Rf, K, L, n, s, X, Y, Z, z, zf, zv, ln, tx, T, w, rfl, ib, r32, nt, ct, mt, sc, sm, sh, mp, tr⟩) (fun A eA => by rw [hn] at eA; cases eA)
  · have e1 := cx.km ib.1 wc3_w4
    have ib1 := cx.ib ib
    obtain ⟨mt1, sm1, mp1⟩ := mod_kp e1 ⟨mt, sm, mp⟩
    have ct1 : CT M1 tx ln := ct.kp (cx.lv hR n9 (by omega) (by omega) (by unfold WC3 WC1; omega)) (fun i => cx.lv hR n9 (by omega) (by omega) (by unfold WC3 WC1; omega))
    have sc1 : SLC M1 T := sc.kp (fun p i p0 p1 hp => cx.lv hR n9 (by omega) (by omega) (by unfold WC3 WC1; omega))
    have tr1 := tr.kp hY (cx.kc ib.1 hY wc3_w4 (fun i _ _ => by unfold WC3 WC1; omega) (by unfold WC3 WC1; omega) (fun i => by unfold WC3 WC1; omega) (fun p i _ _ => by unfold WC3 WC1; omega)) (KM9.of e1) (Nat.le_refl _)
    refine wc_deep (show 0 + 4 ≤ 600 by omega) ?_
    refine m_writeOp cx.g cx.r32 ri sm1 (fun hn => by rw [hn] at eA; cases eA) (fun A' eA' M2 f2 mp2 r2 => ?_)
    rw [eA] at eA'; cases eA'
    have g2 : ∀ (p : Nat) (i : Int), p < 56 ∨ 100 ≤ p → M2 p i = M1 p i := fun p i hp => f2 p i (by omega) (by omega)
    have f3 : ∀ (p : Nat) (i : Int), ¬ (p = 58 ∨ (p = 56 ∧ i = 2)) → M2 p i = M1 p i := fun p i hp => f2 p i (by omega) (by omega)
    obtain ⟨nt2, ct2, sc2, sh2⟩ := cls_kp ib1.1 g2 ⟨cx.nt nt, ct1, sc1, sh1⟩
    exact ⟨_, rfl, rfl, M2, R1, K1, L1, n1, s1, X, Y, Z, z1, zf, zv, ln, tx, T, _, rfl, ib1, r2, nt2, ct2, ⟨by rw [f3 _ _ (by omega)]; exact mt1.1, mt1.2.1, fun i hi => by rw [f3 _ _ (by omega)]; exact mt1.2.2 i hi⟩, sc2, sm1.keep (fun i _ _ => f3 _ _ (by omega)) (fun i _ => f3 _ _ (by omega)), sh2, mp2, tr1.kp hY (KC9.of ib1.1 hY g2) (KM9.wr f3 (fun p i x => by omega)) (Nat.le_refl _)⟩
theorem op_charAt (hI : Inv σ) (a : Int32) : pm_two 600 10 186 [.int a] Inv σ := by
  obtain ⟨i, ri, rfl⟩ := i32 a
  obtain ⟨M, Rf, K, L, n, s, X, Y, Z, z, zf, zv, ln, tx, T, w, rfl, ib, r32, nt, ct, mt, sc, sm, sh, mp, tr⟩ := hI
  have hG := ib.1.1
  refine wc_deep (show 0 + 1 ≤ 600 by omega) ?_
  refine c_charAt hG ri sh.2.1 sh ⟨hG.o (by decide) rfl, ?_⟩
  refine wc_deep (show 0 + 1 ≤ 600 by omega) ?_
  exact m_charAt hG ri sh.2.1 mp ⟨_, rfl, rfl, M, Rf, K, L, n, s, X, Y, Z, z, zf, zv, ln, tx, T, w, rfl, ib, r32, nt, ct, mt, sc, sm, sh, mp, tr⟩
end PmI5
