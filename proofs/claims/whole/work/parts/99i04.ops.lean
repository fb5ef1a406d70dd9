/-! THE CALLS keep the invariant, and answer alike: text, types, page. -/
/-- what may be written without touching the class's term -/
def ok9 (Y p : Nat) (i : Int) : Prop := p < 100 ∧ p ≠ 5 ∧ ¬ (p = 1 ∧ 11 ≤ i ∧ i ≤ 14) ∧ ¬ (p = 4 ∧ i = 1) ∧ ¬ (Y + 1 ≤ p ∧ p ≤ Y + 6) ∧ p ≠ 43 ∧ ¬ (48 ≤ p ∧ p ≤ 55)
section PmI4
variable {M M' : pm_M} {Rf Rf' : Nat → Nat → Nat} {K L K' L' : Nat → Nat} {n s n' s' X Y Z z z' zf zv zf' zv' ln : Nat} {tx : Nat → Int} {T : Int → Option Ty} {w : List Int} {E : Nat → Int → Prop}
theorem KC9.wr (r : MR Z Rf K L n zf zv z) (e : ∀ (p : Nat) (i : Int), ¬ E p i → M' p i = M p i) (h : ∀ p i, E p i → ok9 Y p i) : KC9 M Rf M' Rf Y := by
  have q : ∀ (p : Nat) (i : Int), ¬ ok9 Y p i → M' p i = M p i := fun p i hn => e p i (fun x => hn (h p i x))
  refine ⟨fun i i0 i1 => q _ _ (fun x => x.2.2.1 ⟨rfl, i0, i1⟩), q _ _ (fun x => x.2.2.2.1 ⟨rfl, rfl⟩), fun i => q _ _ (fun x => x.2.1 rfl), fun p i p0 p1 => q _ _ (fun x => x.2.2.2.2.1 ⟨p0, p1⟩), fun p i p0 p1 => q _ _ (fun x => x.2.2.2.2.2.2 ⟨p0, by omega⟩), fun g i hg => q _ _ (fun x => ?_), q _ _ (fun x => x.2.2.2.2.2.1 rfl), q _ _ (fun x => x.2.2.2.2.2.1 rfl)⟩
  have a := r.2.2.1.2.1 g hg
  have b := x.1
  have c := x.2.2.2.2.2.2
  omega
theorem KM9.wr (e : ∀ (p : Nat) (i : Int), ¬ E p i → M' p i = M p i) (h : ∀ p i, E p i → ¬ (p = 56 ∧ (i = 4 ∨ i = 29 ∨ (43 ≤ i ∧ i ≤ 59))) ∧ ¬ (59 ≤ p ∧ p ≤ 67 ∧ 0 ≤ i ∧ i < 60) ∧ ¬ (87 ≤ p ∧ p ≤ 97)) : KM9 M M' :=
  ⟨e _ _ (fun x => (h _ _ x).1 ⟨rfl, Or.inl rfl⟩), e _ _ (fun x => (h _ _ x).1 ⟨rfl, Or.inr (Or.inl rfl)⟩), fun i i0 i1 => e _ _ (fun x => (h _ _ x).1 ⟨rfl, Or.inr (Or.inr ⟨i0, i1⟩)⟩), fun p i p0 p1 i0 i1 => e _ _ (fun x => (h _ _ x).2.1 ⟨p0, p1, i0, i1⟩), fun p i p0 p1 => e _ _ (fun x => (h _ _ x).2.2 ⟨p0, p1⟩)⟩
/-- the class's parts behind a call on the model -/
theorem cls_kp (r : MR Z Rf K L n zf zv z) (e : ∀ (p : Nat) (i : Int), p < 56 ∨ 100 ≤ p → M' p i = M p i) (x : ndf M Rf 1 1 tTop 0 ∧ CT M tx ln ∧ SLC M T ∧ SH M w) : ndf M' Rf 1 1 tTop 0 ∧ CT M' tx ln ∧ SLC M' T ∧ SH M' w :=
  ⟨ndf_kp r e x.1, x.2.1.kp (e _ _ (by omega)) (fun i => e _ _ (by omega)), x.2.2.1.kp (fun p i p0 p1 _ => e _ _ (by omega)), x.2.2.2.kp (e _ _ (by omega)) (fun i => e _ _ (by omega))⟩
theorem mod_kp (e : ∀ (p : Nat) (i : Int), 56 ≤ p → p < 100 → M' p i = M p i) (x : MT M tx ln ∧ SLM M T ∧ MP M w) : MT M' tx ln ∧ SLM M' T ∧ MP M' w := ⟨x.1.kp e, x.2.1.kp e, x.2.2.kp e⟩
theorem CX.nt {W : Nat → Int → Prop} (h : CX W M Rf K L n s z 1 M' Rf' K' L' n' s' z') (x : ndf M Rf 1 1 tTop 0) : ndf M' Rf' 1 1 tTop 0 := ndf_mono h.nodes (Int.le_refl _) (Nat.le_refl _) x
theorem mset_o (M : pm_M) {p q : Nat} {i j v : Int} (h : ¬ (q = p ∧ j = i)) : mset M p i v q j = M q j := if_neg h
theorem IB.y (ib : IB Rf K L n s X Y Z z zf zv) : Y = 16 ∨ Y = 23 := by have := ib.2.1; omega
theorem i32 (a : Int32) : ∃ x : Int, R32 x ∧ a = zI x := ⟨a.toInt, R32_of a, (zI_of a).symm⟩
end PmI4
section PmI4b
variable {σ : pm_S}
theorem op_type (hI : Inv σ) {a : Int32} (h0 : ¬ a < 0) (h1 : a ≤ 65535) : pm_two 600 1 135 [.int a] Inv σ := by
  obtain ⟨c, rc, rfl⟩ := i32 a
  have c0 : 0 ≤ c := by
    have : ¬ c < 0 := fun h => h0 ((zI_lt (b := 0) rc ⟨by omega, by omega⟩).mpr h)
    omega
  have c1 : c ≤ 65535 := (zI_le (b := 65535) rc ⟨by omega, by omega⟩).mp h1
  obtain ⟨M, Rf, K, L, n, s, X, Y, Z, z, zf, zv, ln, tx, T, w, rfl, ib, r32, nt, ct, mt, sc, sm, sh, mp, tr⟩ := hI
  have hG := ib.1.1
  have hY := ib.y
  have l6 := ct.2.1
  refine wc_deep (show 0 + 1 ≤ 600 by omega) ?_
  refine c_type hG ⟨c0, c1⟩ ct (fun hn => ⟨hG.o (by decide) rfl, ?_⟩) (fun a1 a2 a3 => ⟨hG.o (by decide) rfl, ?_⟩)
  · refine wc_deep (show 0 + 1 ≤ 600 by omega) ?_
    exact m_type hG ⟨c0, c1⟩ mt (fun _ => ⟨_, rfl, rfl, M, Rf, K, L, n, s, X, Y, Z, z, zf, zv, ln, tx, T, w, rfl, ib, r32, nt, ct, mt, sc, sm, sh, mp, tr⟩) (fun b1 b2 b3 => absurd ⟨b1, b2, b3⟩ hn)
  · have f1 : ∀ (p : Nat) (i : Int), ¬ ((p = 1 ∧ i = 8) ∨ p = 2) → mset (mset M 2 (ln : Int) c) 1 8 ((ln : Int) + 1) p i = M p i := fun p i hp => by rw [mset_o _ (fun e => hp (Or.inl e)), mset_o _ (fun e => hp (Or.inr e.1))]
    have r1 : ∀ p i, R32 (mset (mset M 2 (ln : Int) c) 1 8 ((ln : Int) + 1) p i) := mset_R32 (mset_R32 r32 rc) ⟨by omega, by omega⟩
    have ct1 := ct.add a3 a1 a2
    generalize mset (mset M 2 (ln : Int) c) 1 8 ((ln : Int) + 1) = M1 at f1 r1 ct1 ⊢
    have e1 : ∀ (p : Nat) (i : Int), 56 ≤ p → p < 100 → M1 p i = M p i := fun p i p0 _ => f1 p i (by omega)
    obtain ⟨mt1, sm1, mp1⟩ := mod_kp e1 ⟨mt, sm, mp⟩
    have sc1 : SLC M1 T := sc.kp (fun p i p0 p1 _ => f1 p i (by omega))
    have sh1 : SH M1 w := sh.kp (f1 _ _ (by omega)) (fun i => f1 _ _ (by omega))
    have nt1 : ndf M1 Rf 1 1 tTop 0 := ndf_mono (fun g hg i _ _ => f1 _ _ (by have := ib.1.2.2.2.1.2.1 g hg; omega)) (Int.le_refl _) (Nat.le_refl _) nt
    have tr1 := tr.kp hY (KC9.wr ib.1 f1 (fun p i x => by unfold ok9; omega)) (KM9.of e1) (Nat.le_refl _)
    refine wc_deep (show 0 + 1 ≤ 600 by omega) ?_
    refine m_type hG ⟨c0, c1⟩ mt1 (fun hn => absurd ⟨a1, a2, a3⟩ hn) (fun _ _ _ => ?_)
    have f2 : ∀ (p : Nat) (i : Int), ¬ ((p = 56 ∧ i = 0) ∨ p = 57) → mset (mset M1 57 (ln : Int) c) 56 0 ((ln : Int) + 1) p i = M1 p i := fun p i hp => by rw [mset_o _ (fun e => hp (Or.inl e)), mset_o _ (fun e => hp (Or.inr e.1))]
    have r2 : ∀ p i, R32 (mset (mset M1 57 (ln : Int) c) 56 0 ((ln : Int) + 1) p i) := mset_R32 (mset_R32 r1 rc) ⟨by omega, by omega⟩
    have mt2 := mt1.add a3 a1 a2
    generalize mset (mset M1 57 (ln : Int) c) 56 0 ((ln : Int) + 1) = M2 at f2 r2 mt2 ⊢
    obtain ⟨nt2, ct2, sc2, sh2⟩ := cls_kp ib.1 (fun p i _ => f2 p i (by omega)) ⟨nt1, ct1, sc1, sh1⟩
    exact ⟨_, rfl, rfl, M2, Rf, K, L, n, s, X, Y, Z, z, zf, zv, ln + 1, txs tx ln c, T, w, rfl, ib, r2, nt2, ct2, mt2, sc2, sm1.keep (fun i _ _ => f2 _ _ (by omega)) (fun i _ => f2 _ _ (by omega)), sh2, ⟨by rw [f2 _ _ (by omega)]; exact mp1.1, fun i hi => by rw [f2 _ _ (by omega)]; exact mp1.2 i hi⟩, tr1.kp hY (KC9.of ib.1 hY (fun p i _ => f2 p i (by omega))) (KM9.wr f2 (fun p i x => by omega)) (Nat.le_refl _)⟩
theorem op_readType (hI : Inv σ) (a : Int32) : pm_two 600 2 173 [.int a] Inv σ := by
  obtain ⟨k, rk, rfl⟩ := i32 a
  obtain ⟨M, Rf, K, L, n, s, X, Y, Z, z, zf, zv, ln, tx, T, w, rfl, ib, r32, nt, ct, mt, sc, sm, sh, mp, tr⟩ := hI
  have hG := ib.1.1
  have hR := ib.1.2.2.2.1
  have hY := ib.y
  have n9 := hG.1
  refine wc_deep (show 0 + 170 ≤ 600 by omega) ?_
  refine c_readType hG hR r32 nt rk sc ct (fun hn => ⟨hG.o (by decide) rfl, ?_⟩) (fun k0 k3 M1 R1 K1 L1 n1 s1 z1 cx e8 sc1 => ⟨cx.g.o (by decide) rfl, ?_⟩)
  · refine wc_deep (show 0 + 8 ≤ 600 by omega) ?_
    exact m_readType hG r32 rk sm mt (fun _ => ⟨_, rfl, rfl, M, Rf, K, L, n, s, X, Y, Z, z, zf, zv, ln, tx, T, w, rfl, ib, r32, nt, ct, mt, sc, sm, sh, mp, tr⟩) (fun b1 b2 => absurd ⟨b1, b2⟩ hn)
  · have w4 : ∀ p i, WRT p i → p ≤ 42 := fun p i x => by unfold WRT WRd at x; omega
    have e1 := cx.km ib.1 w4
    have ib1 := cx.ib ib
    obtain ⟨mt1, sm1, mp1⟩ := mod_kp e1 ⟨mt, sm, mp⟩
    have sh1 : SH M1 w := sh.kp (cx.lv hR n9 (by omega) (by omega) (by unfold WRT WRd; omega)) (fun i => cx.lv hR n9 (by omega) (by omega) (by unfold WRT WRd; omega))
    have tr1 := tr.kp hY (cx.kc ib.1 hY w4 (fun i _ _ => by unfold WRT WRd; omega) (by unfold WRT WRd; omega) (fun i => by unfold WRT WRd; omega) (fun p i _ _ => by unfold WRT WRd; omega)) (KM9.of e1) (Nat.le_refl _)
    refine wc_deep (show 0 + 8 ≤ 600 by omega) ?_
    refine m_readType cx.g cx.r32 rk sm1 mt1 (fun hn => absurd ⟨k0, k3⟩ hn) (fun _ _ M2 f2 e0 sm2 r2 => ?_)
    have g2 : ∀ (p : Nat) (i : Int), p < 56 ∨ 100 ≤ p → M2 p i = M1 p i := fun p i hp => f2 p i (by unfold WRm; omega)
    obtain ⟨nt2, ct2, sc2, sh2⟩ := cls_kp ib1.1 g2 ⟨cx.nt nt, (⟨e8, by omega, fun i hi => absurd hi (by omega)⟩ : CT M1 tx 0), sc1, sh1⟩
    exact ⟨_, rfl, rfl, M2, R1, K1, L1, n1, s1, X, Y, Z, z1, zf, zv, 0, tx, _, w, rfl, ib1, r2, nt2, ct2, ⟨e0, by omega, fun i hi => absurd hi (by omega)⟩, sc2, sm2, sh2, ⟨by rw [f2 _ _ (by unfold WRm; omega)]; exact mp1.1, fun i hi => by rw [f2 _ _ (by unfold WRm; omega)]; exact mp1.2 i hi⟩, tr1.kp hY (KC9.of ib1.1 hY g2) (KM9.wr f2 (fun p i x => by unfold WRm at x; omega)) (Nat.le_refl _)⟩
end PmI4b
