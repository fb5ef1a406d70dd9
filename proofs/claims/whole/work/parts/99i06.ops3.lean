/-! THE CALLS keep the invariant, and answer alike: the term, its type, its run. -/
/-- what is read keeps to the limits -/
def LIM : Prop := ∀ (tx : Nat → Int) (ln : Nat) (t : Ty), ln ≤ 60 → rdM tx ln = (-1, some t) → TL 24 t [] [] ∧ TN 24 t [] [] ≤ 14800 ∧ vN t ≤ 20
section PmI6
variable {M M' : pm_M} {Rf Rf' : Nat → Nat → Nat} {K L K' L' : Nat → Nat} {n s n' s' X Y Z z z' zf zv zf' zv' ln : Nat} {tx : Nat → Int} {T : Int → Option Ty} {w : List Int} {W : Nat → Int → Prop} {cn : Int}
theorem rdM_tw {t : Ty} (h : rdM tx ln = (-1, some t)) : TWf 24 0 [] t := by
  unfold rdM at h
  split at h
  · cases h
  · rename_i q a ha
    by_cases c : q < ln
    · rw [if_pos c] at h; cases h
    · rw [if_neg c] at h
      by_cases c2 : a.2 = true
      · rw [if_pos c2] at h
        have e : a.1 = t := by injection h with _ h; injection h
        have := pM_tw 23 [] 0 q a ha c2 (fun m hm => by cases hm)
        rw [e] at this
        exact this
      · rw [if_neg c2] at h; cases h
theorem TrI.h44 (h : TrI M Rf Y Z zv) : M 56 44 = 0 ∨ M 56 44 = 1 := by
  rcases h with ⟨-, -, -, -, h⟩ | ⟨t, cnt, a, b, -, -, -, -, -, h⟩
  · exact h
  · rcases h with ⟨-, -, h⟩ | ⟨A, st, c, tot, cF, -, -, -, -, r, -⟩
    · exact h
    · rcases r.2.2.2.2.2 with ⟨-, e⟩ | ⟨-, e⟩
      · exact Or.inr e
      · exact Or.inl e
theorem MR.rs2 {p f x : Nat} (r : MR Z Rf K L n zf zv z) (h6 : p ≠ 6) (h43 : p ≠ 43) (h51 : p ≠ 51) (hne : pm_RT.all (fun y => !(decide (y.1 = p) && decide (y.2.1 = f))) = true) : MR Z (rset Rf p f x) K L n zf zv z := by
  have e6 : ∀ g, rset Rf p f x 6 g = Rf 6 g := fun g => rset_o (fun q => h6 q.1.symm)
  have e43 : ∀ g, rset Rf p f x 43 g = Rf 43 g := fun g => rset_o (fun q => h43 q.1.symm)
  have e51 : ∀ g, rset Rf p f x 51 g = Rf 51 g := fun g => rset_o (fun q => h51 q.1.symm)
  obtain ⟨r1, r2, r3, r4, ⟨r5, r6⟩, r7, r8⟩ := r
  refine ⟨r1.rs hne, ⟨fun f hf => ?_, fun f hf => ?_, fun f g hf hg => ?_, r2.2.2.2⟩, ⟨fun f hf => ?_, fun f hf => ?_, fun f g hf hg => ?_, r3.2.2.2⟩, r4.rs h6, ⟨fun f g hf hg => ?_, fun f g hf hg => ?_⟩, by rw [e43]; exact r7, r8⟩
  · rw [e43]; exact r2.1 f hf
  · rw [e43]; exact r2.2.1 f hf
  · rw [e43, e43]; exact r2.2.2.1 f g hf hg
  · rw [e51]; exact r3.1 f hf
  · rw [e51]; exact r3.2.1 f hf
  · rw [e51, e51]; exact r3.2.2.1 f g hf hg
  · rw [e43, e51]; exact r5 f g hf hg
  · rw [e6, e43, e51]; exact r6 f g hf hg
theorem IB.rs38 {x : Nat} (ib : IB Rf K L n s X Y Z z zf zv) : IB (rset Rf 38 5 x) K L n s X Y Z z zf zv :=
  ⟨ib.1.rs2 (by decide) (by decide) (by decide) (by decide +kernel), ib.2.1, by rw [rset_o (by omega)]; exact ib.2.2.1, by rw [rset_o (by omega)]; exact ib.2.2.2.1, ib.2.2.2.2⟩
theorem IB.rt (ib : IB Rf K L n s X Y Z z zf zv) : IB (rfT Rf X Y) K L n s Y X Z z zf zv := by
  refine ⟨?_, by have := ib.2.1; omega, ?_, ?_, ib.2.2.2.2⟩
  · exact (((ib.1.rs2 (p := 38) (f := 5) (by decide) (by decide) (by decide) (by decide +kernel)).rs2 (p := 1) (f := 10) (by decide) (by decide) (by decide) (by decide +kernel)).rs2 (p := 1) (f := 9) (by decide) (by decide) (by decide) (by decide +kernel)).rs2 (p := 42) (f := 1) (by decide) (by decide) (by decide) (by decide +kernel)
  · unfold rfT; rw [rset_o (by omega), rset_s]
  · unfold rfT; rw [rset_o (by omega), rset_o (by omega), rset_s]
theorem CX.kc2 {R0 : Nat → Nat → Nat} (h : CX W M R0 K L n s z cn M' Rf' K' L' n' s' z') (r : MR Z R0 K L n zf zv z) (e51 : ∀ g, R0 51 g = Rf 51 g) (hY : Y = 16 ∨ Y = 23) (w4 : ∀ p i, W p i → p ≤ 42) (e1 : ∀ i : Int, 11 ≤ i → i ≤ 14 → M' 1 i = M 1 i) (e4 : M' 4 1 = M 4 1) (e5 : ∀ i, M' 5 i = M 5 i) (wY : ∀ p i, Y + 1 ≤ p → p ≤ Y + 6 → ¬ W p i) : KC9 M Rf M' Rf' Y := by
  have n9 := r.1.1
  have hR := r.2.2.2.1
  have rr := r.row
  refine ⟨e1, e4, e5, fun p i p0 p1 => h.lv hR n9 (by omega) (by omega) (wY p i p0 p1), fun p i p0 p1 => h.lv hR n9 (by omega) (by omega) (fun e => by have := w4 p i e; omega), fun g i hg => ?_, h.lv hR n9 (by omega) (by omega) (fun e => by have := w4 _ _ e; omega), h.lv hR n9 (by omega) (by omega) (fun e => by have := w4 _ _ e; omega)⟩
  have f51 : Rf' 51 g = R0 51 g := h.2.2.2.2.2.2.2.1 51 (by omega) g (by omega)
  rw [f51, ← e51]
  have a := rr g hg
  have b := r.2.2.1.2.1 g hg
  exact h.mem _ a.2 (fun f hf e => (r.2.2.2.2.1.2 f g hf hg).2 e.symm) i (fun e => by have := w4 _ _ e; omega)
end PmI6
section PmI6b
variable {σ : pm_S}
theorem wtt_w4 {X : Nat} (hX : X = 16 ∨ X = 23) : ∀ p i, WTT X p i → p ≤ 42 := fun p i x => by unfold WTT WRt at x; omega
theorem op_readTerm (hL : LIM) (hI : Inv σ) : pm_two 600 3 175 [] Inv σ := by
  obtain ⟨M, Rf, K, L, n, s, X, Y, Z, z, zf, zv, ln, tx, T, w, rfl, ib, r32, nt, ct, mt, sc, sm, sh, mp, tr⟩ := hI
  have hG := ib.1.1
  have hR := ib.1.2.2.2.1
  have hY := ib.y
  have n9 := hG.1
  have xy := ib.2.1
  have hX : X = 16 ∨ X = 23 := by omega
  have w4 := wtt_w4 hX
  refine wc_deep (show 0 + 500 ≤ 600 by omega) ?_
  refine c_readTerm xy hG hR r32 nt ct ib.2.2.1 ib.2.2.2.1 (fun t ht => ⟨(hL tx ln t ct.2.1 ht).1, (hL tx ln t ct.2.1 ht).2.1⟩) (fun hn M1 R1 K1 L1 n1 s1 z1 cx e8 k1 k4 => ⟨cx.g.o (by decide) rfl, ?_⟩) (fun t ht M1 R1 K1 L1 n1 s1 z1 cnt cx e8 e11 e13 tc ft => ⟨cx.g.o (by decide) rfl, ?_⟩)
  · have ib0 := ib.rs38 (x := X)
    have hR0 := ib0.1.2.2.2.1
    have e1 := cx.km ib0.1 w4
    have ib1 := cx.ib ib0
    obtain ⟨mt1, sm1, mp1⟩ := mod_kp e1 ⟨mt, sm, mp⟩
    have sc1 : SLC M1 T := sc.kp (fun p i p0 p1 _ => cx.lv hR0 n9 (by omega) (by omega) (by unfold WTT WRt; omega))
    have sh1 : SH M1 w := sh.kp (cx.lv hR0 n9 (by omega) (by omega) (by unfold WTT WRt; omega)) (fun i => cx.lv hR0 n9 (by omega) (by omega) (by unfold WTT WRt; omega))
    have tr1 := tr.kp hY (cx.kc2 (Rf := Rf) (Y := Y) ib0.1 (fun g => rset_o (by omega)) hY w4 (fun i i0 i1 => k1 i (by omega)) (k4 4 (Or.inl rfl) 1) (k4 5 (Or.inr rfl)) (fun p i _ _ => by unfold WTT WRt; omega)) (KM9.of e1) (Nat.le_refl _)
    refine wc_deep (show 0 + 8 ≤ 600 by omega) ?_
    refine m_readTerm cx.g cx.r32 mt1 (fun _ M2 f2 e0 r2 => ?_) (fun t ht => by rw [ht] at hn; cases hn)
    have g2 : ∀ (p : Nat) (i : Int), p < 56 ∨ 100 ≤ p → M2 p i = M1 p i := fun p i hp => f2 p i (by unfold WRt2; omega)
    obtain ⟨nt2, ct2, sc2, sh2⟩ := cls_kp ib1.1 g2 ⟨cx.nt (ndf_rs (by decide) nt), (⟨e8, by omega, fun i hi => absurd hi (by omega)⟩ : CT M1 tx 0), sc1, sh1⟩
    exact ⟨_, rfl, rfl, M2, R1, K1, L1, n1, s1, X, Y, Z, z1, zf, zv, 0, tx, T, w, rfl, ib1, r2, nt2, ct2, ⟨e0, by omega, fun i hi => absurd hi (by omega)⟩, sc2, sm1.keep (fun i _ _ => f2 _ _ (by unfold WRt2; omega)) (fun i _ => f2 _ _ (by unfold WRt2; omega)), sh2, ⟨by rw [f2 _ _ (by unfold WRt2; omega)]; exact mp1.1, fun i hi => by rw [f2 _ _ (by unfold WRt2; omega)]; exact mp1.2 i hi⟩, tr1.kp hY (KC9.of ib1.1 hY g2) (KM9.wr f2 (fun p i x => by unfold WRt2 at x; omega)) (Nat.le_refl _)⟩
  · have ib0 := ib.rt
    have hR0 := ib0.1.2.2.2.1
    have e1 := cx.km ib0.1 w4
    have ib1 := cx.ib ib0
    obtain ⟨mt1, sm1, mp1⟩ := mod_kp e1 ⟨mt, sm, mp⟩
    have sc1 : SLC M1 T := sc.kp (fun p i p0 p1 _ => cx.lv hR0 n9 (by omega) (by omega) (by unfold WTT WRt; omega))
    have sh1 : SH M1 w := sh.kp (cx.lv hR0 n9 (by omega) (by omega) (by unfold WTT WRt; omega)) (fun i => cx.lv hR0 n9 (by omega) (by omega) (by unfold WTT WRt; omega))
    have nt0 : ndf M (rfT Rf X Y) 1 1 tTop 0 := by
      unfold rfT
      exact ndf_rs (by decide) (ndf_rs (by decide) (ndf_rs (by decide) (ndf_rs (by decide) nt)))
    refine wc_deep (show 0 + 8 ≤ 600 by omega) ?_
    refine m_readTerm cx.g cx.r32 mt1 (fun hn => by rw [ht] at hn; cases hn) (fun t' ht' M2 a b f2 e0 e43 tm r2 => ?_)
    rw [ht] at ht'
    have et : t = t' := by injection ht' with _ h; injection h
    subst et
    have g2 : ∀ (p : Nat) (i : Int), p < 56 ∨ 100 ≤ p → M2 p i = M1 p i := fun p i hp => f2 p i (by unfold WRt3 WRt2; omega)
    obtain ⟨nt2, ct2, sc2, sh2⟩ := cls_kp ib1.1 g2 ⟨cx.nt nt0, (⟨e8, by omega, fun i hi => absurd hi (by omega)⟩ : CT M1 tx 0), sc1, sh1⟩
    have l3 := hL tx ln t ct.2.1 ht
    have h44 : M2 56 44 = 0 ∨ M2 56 44 = 1 := by
      rw [f2 56 44 (by unfold WRt3 WRt2; omega), e1 56 44 (by omega) (by omega)]; exact tr.h44
    have tr2 : TrI M2 R1 X Z zv := Or.inr ⟨t, cnt, a, b, ⟨rdM_tw ht, ⟨l3.1, by have := rdM_ch ht; have := ct.2.1; omega⟩, l3.2.2⟩, by rw [g2 _ _ (by omega)]; exact e11, tc.kp (fun p i p0 p1 => g2 p i (by omega)), ft.kp (g2 _ _ (by omega)) (g2 _ _ (by omega)) (fun i => g2 _ _ (by omega)), tm, Or.inl ⟨by rw [g2 _ _ (by omega)]; exact e13, e43, h44⟩⟩
    exact ⟨_, rfl, rfl, M2, R1, K1, L1, n1, s1, Y, X, Z, z1, zf, zv, 0, tx, T, w, rfl, ib1, r2, nt2, ct2, ⟨e0, by omega, fun i hi => absurd hi (by omega)⟩, sc2, sm1.keep (fun i _ _ => f2 _ _ (by unfold WRt3 WRt2; omega)) (fun i _ => f2 _ _ (by unfold WRt3 WRt2; omega)), sh2, ⟨by rw [f2 _ _ (by unfold WRt3 WRt2; omega)]; exact mp1.1, fun i hi => by rw [f2 _ _ (by unfold WRt3 WRt2; omega)]; exact mp1.2 i hi⟩, tr2⟩
end PmI6b
