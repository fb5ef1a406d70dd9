/-! THE INVARIANT of both objects, and what calls keep of it. -/
def Gd (t : Ty) : Prop := TWf 24 0 [] t ∧ (TL 24 t [] [] ∧ mch t ≤ 60) ∧ vN t ≤ 20
/-- the class's term and its run: as they were -/
def KC9 (M : pm_M) (Rf : Nat → Nat → Nat) (M' : pm_M) (Rf' : Nat → Nat → Nat) (Y : Nat) : Prop := (∀ i : Int, 11 ≤ i → i ≤ 14 → M' 1 i = M 1 i) ∧ M' 4 1 = M 4 1 ∧ (∀ i, M' 5 i = M 5 i) ∧ (∀ (p : Nat) (i : Int), Y + 1 ≤ p → p ≤ Y + 6 → M' p i = M p i) ∧ (∀ (p : Nat) (i : Int), 48 ≤ p → p ≤ 50 → M' p i = M p i) ∧ (∀ (g : Nat) (i : Int), g < 4 → M' (Rf' 51 g) i = M (Rf 51 g) i) ∧ M' 43 15 = M 43 15 ∧ M' 43 16 = M 43 16
/-- the model's -/
def KM9 (M M' : pm_M) : Prop := M' 56 4 = M 56 4 ∧ M' 56 29 = M 56 29 ∧ (∀ i : Int, 43 ≤ i → i ≤ 59 → M' 56 i = M 56 i) ∧ (∀ (p : Nat) (i : Int), 59 ≤ p → p ≤ 67 → 0 ≤ i → i < 60 → M' p i = M p i) ∧ (∀ (p : Nat) (i : Int), 87 ≤ p → p ≤ 97 → M' p i = M p i)
/-- the term and its run, on both sides -/
def TrI (M : pm_M) (Rf : Nat → Nat → Nat) (Y Z zv : Nat) : Prop := (M 1 11 = 0 ∧ M 56 4 = 0 ∧ M 1 13 = 0 ∧ M 56 43 = 0 ∧ (M 56 44 = 0 ∨ M 56 44 = 1)) ∨ ∃ (t : Ty) (cnt a b : Nat), Gd t ∧ M 1 11 = 1 ∧ TMc M Y cnt t ∧ FTc M (tyF 24 t [] []) ∧ TMm M a b t ∧ ((M 1 13 = 0 ∧ M 56 43 = 0 ∧ (M 56 44 = 0 ∨ M 56 44 = 1)) ∨ ∃ (A : Ty) (st : Nat) (c : Cf) (tot : Nat) (cF : Cf), M 1 13 = 1 ∧ Z = Y ∧ tyF 24 t [] [] = .inr A ∧ M 1 14 = (st : Int) ∧ RunM M a b t st c ∧ FinK M Rf Y cnt zv t tot cF)
def IB (Rf : Nat → Nat → Nat) (K L : Nat → Nat) (n s X Y Z z zf zv : Nat) : Prop := MR Z Rf K L n zf zv z ∧ ((X = 16 ∧ Y = 23) ∨ (X = 23 ∧ Y = 16)) ∧ Rf 1 9 = Y ∧ Rf 1 10 = X ∧ n + 88 ≤ 99 + z + zf + zv ∧ s ≤ 88622 + 10 * z + 25 * (zf + zv)
def IM (M : pm_M) (Rf : Nat → Nat → Nat) (Y Z zv ln : Nat) (tx : Nat → Int) (T : Int → Option Ty) (w : List Int) : Prop := (∀ p i, R32 (M p i)) ∧ ndf M Rf 1 1 tTop 0 ∧ CT M tx ln ∧ MT M tx ln ∧ SLC M T ∧ SLM M T ∧ SH M w ∧ MP M w ∧ TrI M Rf Y Z zv
def Inv (σ : pm_S) : Prop := ∃ (M : pm_M) (Rf : Nat → Nat → Nat) (K L : Nat → Nat) (n s X Y Z z zf zv ln : Nat) (tx : Nat → Int) (T : Int → Option Ty) (w : List Int), σ = (zM M, Rf, K, L, n, s) ∧ IB Rf K L n s X Y Z z zf zv ∧ IM M Rf Y Z zv ln tx T w
section PmI3
variable {M M' : pm_M} {Rf Rf' : Nat → Nat → Nat} {K L K' L' : Nat → Nat} {n s n' s' X Y Z z z' zf zv zf' zv' ln : Nat} {tx : Nat → Int} {T : Int → Option Ty} {w : List Int} {W : Nat → Int → Prop} {cn : Int}
theorem KTY.kp {kp kc : Nat} {t : Ty} (e1 : M' kp 1 = M kp 1) (e2 : ∀ i, M' kc i = M kc i) (h : KTY M kp kc t) : KTY M' kp kc t := KTY.same h e1 e2
theorem FTc.kp {r : Sum Nat Ty} (e1 : M' 1 12 = M 1 12) (e2 : M' 4 1 = M 4 1) (e3 : ∀ i, M' 5 i = M 5 i) (h : FTc M r) : FTc M' r := by
  cases r with
  | inl q => exact e1.trans h
  | inr A => exact ⟨e1.trans h.1, KTY.same h.2 e2 e3⟩
theorem TMc.kp {cnt : Nat} {t : Ty} (e : ∀ (p : Nat) (i : Int), Y + 1 ≤ p → p ≤ Y + 6 → M' p i = M p i) (h : TMc M Y cnt t) : TMc M' Y cnt t :=
  ⟨CNd.mono (fun q h1 h2 i _ _ => e q i h1 h2) (fun i _ _ => e _ i (by omega) (by omega)) (Int.le_refl _) (Int.le_refl _) (fun _ _ x => x) (Nat.le_refl _) h.1, h.2.1.same (Nat.le_refl _) (fun i _ _ => e _ i (by omega) (by omega)), h.2.2⟩
theorem FinK.kp {cnt tot : Nat} {t : Ty} {c : Cf} (hY : Y = 16 ∨ Y = 23) (k4 : ∀ (p : Nat) (i : Int), Y + 1 ≤ p → p ≤ Y + 6 → M' p i = M p i) (k5 : ∀ (p : Nat) (i : Int), 48 ≤ p → p ≤ 50 → M' p i = M p i) (k6 : ∀ (g : Nat) (i : Int), g < 4 → M' (Rf' 51 g) i = M (Rf 51 g) i) (k7 : M' 43 15 = M 43 15) (k8 : M' 43 16 = M 43 16) (hz : zv ≤ zv') (h : FinK M Rf Y cnt zv t tot c) : FinK M' Rf' Y cnt zv' t tot c := by
  obtain ⟨h1, h2, h3, h4⟩ := h
  refine ⟨h1, h2, by rw [k7]; exact h3, ?_⟩
  rcases h4 with ⟨v, vs, sc, H, a1, a2, a3, a4⟩ | ⟨b1, b2, b3⟩
  · refine Or.inl ⟨v, vs, sc, H, a1, HPk.keep ⟨fun p i p1 p2 => ?_, fun p i p1 p2 _ _ => ?_, fun i _ _ => ?_, fun i g _ hg => ?_⟩ (Nat.le_refl _) a2, by omega, by rw [k8]; exact a4⟩
    · unfold cvw
      rw [if_neg (by omega), if_neg (by omega), if_neg (by omega), if_neg (by omega), if_neg (by omega), if_neg (by omega)]
      exact k4 p i p1 p2
    · unfold cvw
      rw [if_neg (by omega), if_neg (by omega), if_pos ⟨p1, p2⟩, if_neg (by omega), if_neg (by omega), if_pos ⟨p1, p2⟩]
      exact k5 _ i (by omega) (by omega)
    · exact k6 0 i (by omega)
    · show cvw M' Rf' (91 + g) i = cvw M Rf (91 + g) i
      unfold cvw
      rw [if_neg (by omega), if_pos (by omega), if_neg (by omega), if_pos (by omega)]
      exact k6 _ i (by omega)
  · exact Or.inr ⟨b1, b2, by rw [k8]; exact b3⟩
theorem TrI.kp (hY : Y = 16 ∨ Y = 23) (k : KC9 M Rf M' Rf' Y) (m : KM9 M M') (hz : zv ≤ zv') (h : TrI M Rf Y Z zv) : TrI M' Rf' Y Z zv' := by
  obtain ⟨k1, k2, k3, k4, k5, k6, k7, k8⟩ := k
  obtain ⟨m1, m2, m3, m4, m5⟩ := m
  have e11 := k1 11 (by omega) (by omega)
  have e12 := k1 12 (by omega) (by omega)
  have e13 := k1 13 (by omega) (by omega)
  have e14 := k1 14 (by omega) (by omega)
  have f43 := m3 43 (by omega) (by omega)
  have f44 := m3 44 (by omega) (by omega)
  rcases h with ⟨h1, h2, h3, h4, h5⟩ | ⟨t, cnt, a, b, g, h1, tc, ft, tm, h2⟩
  · exact Or.inl ⟨by rw [e11]; exact h1, by rw [m1]; exact h2, by rw [e13]; exact h3, by rw [f43]; exact h4, by rw [f44]; exact h5⟩
  · have a6 := tm.2.2.2.2.1
    have b6 := tm.2.2.2.2.2.1
    have kn : Knm M M' a b := ⟨fun q i q1 q2 i0 i1 => m4 q i q1 (by omega) i0 (by omega), fun q i q1 q2 i0 i1 => m4 q i (by omega) q2 i0 (by omega)⟩
    refine Or.inr ⟨t, cnt, a, b, g, by rw [e11]; exact h1, tc.kp k4, ft.kp e12 k2 k3, tm.kn kn m1 m2, ?_⟩
    rcases h2 with ⟨h3, h4, h5⟩ | ⟨A, st, c, tot, cF, r1, r2, r3, r4, r5, r6⟩
    · exact Or.inl ⟨by rw [e13]; exact h3, by rw [f43]; exact h4, by rw [f44]; exact h5⟩
    · exact Or.inr ⟨A, st, c, tot, cF, by rw [e13]; exact r1, r2, r3, by rw [e14]; exact r4, r5.kn kn m5 m3, r6.kp hY k4 k5 k6 k7 k8 hz⟩
theorem MR.row (h : MR Z Rf K L n zf zv z) : ∀ g, g < 4 → Rf 43 g ≤ n ∧ Rf 51 g ≤ n := fun g hg => ⟨(h.2.1.1 g hg).2.1, (h.2.2.1.1 g hg).2.1⟩
/-- a call on the class's rooms: references, rows -/
theorem CX.mr (h : CX W M Rf K L n s z cn M' Rf' K' L' n' s' z') (r : MR Z Rf K L n zf zv z) : MR Z Rf' K' L' n' zf zv z' := by
  obtain ⟨h1, h2, h3, h4, h5, h6, h7, h8, h9, h10, h11, h12⟩ := h
  have n9 := r.1.1
  have rw' := r.row
  obtain ⟨r1, r2, r3, r4, ⟨r5, r6⟩, r7, r8⟩ := r
  have e43 : ∀ g, Rf' 43 g = Rf 43 g := fun g => h8 43 (by omega) g (by omega)
  have e51 : ∀ g, Rf' 51 g = Rf 51 g := fun g => h8 51 (by omega) g (by omega)
  have ar : ∀ {p k y : Nat}, pm_Ar K L n p k y → pm_Ar K' L' n' p k y := by
    intro p k y hp
    have := h7 p hp.2.1
    exact ⟨hp.1, by have := hp.2.1; omega, this.1.trans hp.2.2.1, this.2.trans hp.2.2.2⟩
  refine ⟨h1, ⟨fun f hf => ?_, fun f hf => ?_, fun f g hf hg => ?_, r2.2.2.2⟩, ⟨fun f hf => ?_, fun f hf => ?_, fun f g hf hg => ?_, r3.2.2.2⟩, h2, ⟨fun f g hf hg => ?_, fun f g hf hg => ?_⟩, by rw [e43]; exact r7, r8⟩
  · rw [e43]; exact ar (r2.1 f hf)
  · rw [e43]; exact r2.2.1 f hf
  · rw [e43, e43]; exact r2.2.2.1 f g hf hg
  · rw [e51]; exact ar (r3.1 f hf)
  · rw [e51]; exact r3.2.1 f hf
  · rw [e51, e51]; exact r3.2.2.1 f g hf hg
  · rw [e43, e51]; exact r5 f g hf hg
  · rw [e43, e51]
    have a := r6 f g hf hg
    have b := rw' g hg
    rcases h9 f hf with e | e
    · rw [e]; exact a
    · omega
theorem CX.ib (h : CX W M Rf K L n s z cn M' Rf' K' L' n' s' z') (i : IB Rf K L n s X Y Z z zf zv) : IB Rf' K' L' n' s' X Y Z z' zf zv := by
  obtain ⟨i1, i2, i3, i4, i5, i6⟩ := i
  have n9 := i1.1.1
  refine ⟨h.mr i1, i2, ?_, ?_, ?_, ?_⟩
  · rw [h.2.2.2.2.2.2.2.1 1 (by omega) 9 (by omega)]; exact i3
  · rw [h.2.2.2.2.2.2.2.1 1 (by omega) 10 (by omega)]; exact i4
  · have := h.2.2.2.2.1; omega
  · have a := h.2.2.2.2.2.1; have b := h.2.2.2.1; omega
/-- the places that a call leaves -/
theorem CX.lv (h : CX W M Rf K L n s z cn M' Rf' K' L' n' s' z') (hR : RmI Rf K L n z) (hn : 99 ≤ n) {p : Nat} {i : Int} (hp : p < 100) (h7 : p < 7 ∨ 11 < p) (hw : ¬ W p i) : M' p i = M p i :=
  h.mem p (by omega) (fun g hg e => by have := hR.2.1 g hg; omega) i hw
theorem CX.kc (h : CX W M Rf K L n s z cn M' Rf' K' L' n' s' z') (r : MR Z Rf K L n zf zv z) (hY : Y = 16 ∨ Y = 23) (w4 : ∀ p i, W p i → p ≤ 42) (w1 : ∀ i : Int, 11 ≤ i → i ≤ 14 → ¬ W 1 i) (w2 : ¬ W 4 1) (w5 : ∀ i, ¬ W 5 i) (wY : ∀ p i, Y + 1 ≤ p → p ≤ Y + 6 → ¬ W p i) : KC9 M Rf M' Rf' Y := by
  have n9 := r.1.1
  have hR := r.2.2.2.1
  have rr := r.row
  refine ⟨fun i i0 i1 => h.lv hR n9 (by omega) (by omega) (w1 i i0 i1), h.lv hR n9 (by omega) (by omega) w2, fun i => h.lv hR n9 (by omega) (by omega) (w5 i), fun p i p0 p1 => h.lv hR n9 (by omega) (by omega) (wY p i p0 p1), fun p i p0 p1 => h.lv hR n9 (by omega) (by omega) (fun e => by have := w4 p i e; omega), fun g i hg => ?_, h.lv hR n9 (by omega) (by omega) (fun e => by have := w4 _ _ e; omega), h.lv hR n9 (by omega) (by omega) (fun e => by have := w4 _ _ e; omega)⟩
  have e51 : Rf' 51 g = Rf 51 g := h.2.2.2.2.2.2.2.1 51 (by omega) g (by omega)
  rw [e51]
  have a := rr g hg
  have b := r.2.2.1.2.1 g hg
  exact h.mem _ a.2 (fun f hf e => (r.2.2.2.2.1.2 f g hf hg).2 e.symm) i (fun e => by have := w4 _ _ e; omega)
theorem CX.km (h : CX W M Rf K L n s z cn M' Rf' K' L' n' s' z') (r : MR Z Rf K L n zf zv z) (w4 : ∀ p i, W p i → p ≤ 42) : ∀ (p : Nat) (i : Int), 56 ≤ p → p < 100 → M' p i = M p i :=
  fun p i p0 p1 => h.lv r.2.2.2.1 r.1.1 p1 (by omega) (fun e => by have := w4 p i e; omega)
theorem KM9.of (e : ∀ (p : Nat) (i : Int), 56 ≤ p → p < 100 → M' p i = M p i) : KM9 M M' := ⟨e _ _ (by omega) (by omega), e _ _ (by omega) (by omega), fun i _ _ => e _ _ (by omega) (by omega), fun p i _ _ _ _ => e _ _ (by omega) (by omega), fun p i _ _ => e _ _ (by omega) (by omega)⟩
/-- a call on the model leaves the class's places -/
theorem KC9.of (r : MR Z Rf K L n zf zv z) (hY : Y = 16 ∨ Y = 23) (e : ∀ (p : Nat) (i : Int), p < 56 ∨ 100 ≤ p → M' p i = M p i) : KC9 M Rf M' Rf Y :=
  ⟨fun i _ _ => e _ _ (by omega), e _ _ (by omega), fun i => e _ _ (by omega), fun p i _ _ => e _ _ (by omega), fun p i _ _ => e _ _ (by omega), fun g i hg => e _ _ (by have := r.2.2.1.2.1 g hg; omega), e _ _ (by omega), e _ _ (by omega)⟩
theorem MT.kp (e : ∀ (p : Nat) (i : Int), 56 ≤ p → p < 100 → M' p i = M p i) (h : MT M tx ln) : MT M' tx ln := ⟨by rw [e _ _ (by omega) (by omega)]; exact h.1, h.2.1, fun i hi => by rw [e _ _ (by omega) (by omega)]; exact h.2.2 i hi⟩
theorem MP.kp (e : ∀ (p : Nat) (i : Int), 56 ≤ p → p < 100 → M' p i = M p i) (h : MP M w) : MP M' w := ⟨by rw [e _ _ (by omega) (by omega)]; exact h.1, fun i hi => by rw [e _ _ (by omega) (by omega)]; exact h.2 i hi⟩
theorem SLM.kp (e : ∀ (p : Nat) (i : Int), 56 ≤ p → p < 100 → M' p i = M p i) (h : SLM M T) : SLM M' T := h.keep (fun i _ _ => e _ _ (by omega) (by omega)) (fun i _ => e _ _ (by omega) (by omega))
theorem CT.kp (e8 : M' 1 8 = M 1 8) (e2 : ∀ i, M' 2 i = M 2 i) (h : CT M tx ln) : CT M' tx ln := ⟨by rw [e8]; exact h.1, h.2.1, fun i hi => by rw [e2]; exact h.2.2 i hi⟩
theorem SH.kp (e2 : M' 13 2 = M 13 2) (e : ∀ i, M' 14 i = M 14 i) (h : SH M w) : SH M' w := ⟨by rw [e2]; exact h.1, h.2.1, fun i hi => by rw [e]; exact h.2.2 i hi⟩
theorem SLC.kp (e : ∀ (p : Nat) (i : Int), 30 ≤ p → p ≤ 37 → ¬ (i = 2 ∧ p % 2 = 0) → M' p i = M p i) (h : SLC M T) : SLC M' T := by
  intro i hi
  have := h i hi
  cases et : T (i : Int) with
  | none =>
    rw [et] at this
    show M' (30 + 2 * i) 1 = 0
    rw [e _ _ (by omega) (by omega) (by omega)]; exact this
  | some t =>
    rw [et] at this
    exact KTY.same this (e _ _ (by omega) (by omega) (by omega)) (fun j => e _ _ (by omega) (by omega) (by omega))
theorem ndf_kp (r : MR Z Rf K L n zf zv z) (e : ∀ (p : Nat) (i : Int), p < 56 ∨ 100 ≤ p → M' p i = M p i) (h : ndf M Rf 1 1 tTop 0) : ndf M' Rf 1 1 tTop 0 :=
  ndf_mono (fun g hg i _ _ => e _ _ (by have := r.2.2.2.1.2.1 g hg; omega)) (Int.le_refl _) (Nat.le_refl _) h
end PmI3
