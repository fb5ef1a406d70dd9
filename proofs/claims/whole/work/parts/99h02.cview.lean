/-! THE CLASS: values are made, frames are pushed; the rows as they are seen. -/
/-- all rows of a run, apart from each other and from the rows of types -/
def MR (X : Nat) (Rf : Nat → Nat → Nat) (K L : Nat → Nat) (n zf zv zr : Nat) : Prop := pm_G Rf K L n ∧ RG 43 8 1464 Rf K L n zf ∧ RG 51 16 1220 Rf K L n zv ∧ RmI Rf K L n zr ∧ ((∀ f g, f < 4 → g < 4 → Rf 43 f ≠ Rf 51 g) ∧ ∀ f g, f < 5 → g < 4 → Rf 6 f ≠ Rf 43 g ∧ Rf 6 f ≠ Rf 51 g) ∧ Rf 43 8 = X ∧ (X = 16 ∨ X = 23)
/-- what a run may write besides its rows -/
def WMc (p : Nat) (i : Int) : Prop := (p = 43 ∧ 9 ≤ i ∧ i ≤ 16) ∨ (p = 51 ∧ i = 4) ∨ (48 ≤ p ∧ p ≤ 50)
def MX (X : Nat) (M : pm_M) (Rf : Nat → Nat → Nat) (K L : Nat → Nat) (n s zf zv zr : Nat) (M' : pm_M) (Rf' : Nat → Nat → Nat) (K' L' : Nat → Nat) (n' s' zf' zv' : Nat) : Prop := MR X Rf' K' L' n' zf' zv' zr ∧ (n ≤ n' ∧ zf ≤ zf' ∧ zv ≤ zv' ∧ n' + zf + zv ≤ n + zf' + zv' ∧ s' + 25 * (zf + zv) ≤ s + 25 * (zf' + zv')) ∧ (∀ p, p ≤ n → K' p = K p ∧ L' p = L p) ∧ (∀ p, p ≤ n → ∀ g, ¬ (p = 43 ∧ g < 4) → ¬ (p = 51 ∧ g < 4) → Rf' p g = Rf p g) ∧ (∀ g, g < 4 → (Rf' 43 g = Rf 43 g ∨ n < Rf' 43 g) ∧ (Rf' 51 g = Rf 51 g ∨ n < Rf' 51 g)) ∧ (∀ p, p ≤ n → (∀ g, g < 4 → p ≠ Rf 43 g ∧ p ≠ Rf 51 g) → ∀ i, ¬ WMc p i → M' p i = M p i) ∧ ∀ p i, R32 (M' p i)
section PmH2
variable {X : Nat} {M : pm_M} {Rf : Nat → Nat → Nat} {K L : Nat → Nat} {n s zf zv zr : Nat} {M' : pm_M} {Rf' : Nat → Nat → Nat} {K' L' : Nat → Nat} {n' s' zf' zv' : Nat} {M2 : pm_M} {R2 : Nat → Nat → Nat} {K2 L2 : Nat → Nat} {n2 s2 zf2 zv2 : Nat}
theorem MX.refl (h : MR X Rf K L n zf zv zr) (hM : ∀ p i, R32 (M p i)) : MX X M Rf K L n s zf zv zr M Rf K L n s zf zv := ⟨h, ⟨Nat.le_refl _, Nat.le_refl _, Nat.le_refl _, Nat.le_refl _, Nat.le_refl _⟩, fun p _ => ⟨rfl, rfl⟩, fun p _ g _ _ => rfl, fun g _ => ⟨Or.inl rfl, Or.inl rfl⟩, fun p _ _ i _ => rfl, hM⟩
theorem MX.trans (h : MX X M Rf K L n s zf zv zr M' Rf' K' L' n' s' zf' zv') (h2 : MX X M' Rf' K' L' n' s' zf' zv' zr M2 R2 K2 L2 n2 s2 zf2 zv2) : MX X M Rf K L n s zf zv zr M2 R2 K2 L2 n2 s2 zf2 zv2 := by
  obtain ⟨a1, ⟨b1, b2, b3, b4, b5⟩, a3, a4, a5, a6, a7⟩ := h
  obtain ⟨c1, ⟨d1, d2, d3, d4, d5⟩, c3, c4, c5, c6, c7⟩ := h2
  refine ⟨c1, ⟨by omega, by omega, by omega, by omega, by omega⟩, fun p hp => ⟨(c3 p (by omega)).1.trans (a3 p hp).1, (c3 p (by omega)).2.trans (a3 p hp).2⟩, fun p hp g h1 h2 => (c4 p (by omega) g h1 h2).trans (a4 p hp g h1 h2), fun g hg => ?_, fun p hp hr i hw => ?_, c7⟩
  · have u := a5 g hg
    have v := c5 g hg
    constructor
    · rcases v.1 with e | e
      · rw [e]; exact u.1
      · right; omega
    · rcases v.2 with e | e
      · rw [e]; exact u.2
      · right; omega
  · have hr' : ∀ g, g < 4 → p ≠ Rf' 43 g ∧ p ≠ Rf' 51 g := by
      intro g hg
      have u := a5 g hg
      have r := hr g hg
      constructor
      · rcases u.1 with e | e
        · rw [e]; exact r.1
        · omega
      · rcases u.2 with e | e
        · rw [e]; exact r.2
        · omega
    exact (c6 p (by omega) hr' i hw).trans (a6 p hp hr i hw)
theorem MR.low (h : MR X Rf K L n zf zv zr) {p : Nat} (hp : p ≤ 43 ∨ (48 ≤ p ∧ p ≤ 51) ∨ (56 ≤ p ∧ p < 100)) : ∀ g, g < 4 → p ≠ Rf 43 g ∧ p ≠ Rf 51 g := by
  intro g hg
  have u := h.2.1.2.1 g hg
  have v := h.2.2.1.2.1 g hg
  constructor <;> omega
theorem MX.set {p : Nat} {i v : Int} (h : MX X M Rf K L n s zf zv zr M' Rf' K' L' n' s' zf' zv') (hw : WMc p i) (hv : R32 v) : MX X M Rf K L n s zf zv zr (mset M' p i v) Rf' K' L' n' s' zf' zv' := by
  obtain ⟨a1, a2, a3, a4, a5, a6, a7⟩ := h
  refine ⟨a1, a2, a3, a4, a5, fun q hq hr j hj => ?_, mset_R32 a7 hv⟩
  unfold mset
  rw [if_neg (fun e => hj (by rw [e.1, e.2]; exact hw))]
  exact a6 q hq hr j hj
/-- the rows of a run as the model has them: 90 to 93 values, 94 to 97 frames, 87 to 89 scopes -/
def cvw (M : pm_M) (Rf : Nat → Nat → Nat) : pm_M := fun p i => if 94 ≤ p ∧ p ≤ 97 then M (Rf 43 (p - 94)) i else if 90 ≤ p ∧ p ≤ 93 then M (Rf 51 (p - 90)) i else if 87 ≤ p ∧ p ≤ 89 then M (p - 39) i else M p i
theorem cvw_f {g : Nat} {i : Int} (hg : g < 4) : cvw M Rf (94 + g) i = M (Rf 43 g) i := by
  unfold cvw
  rw [if_pos (by omega), show 94 + g - 94 = g by omega]
theorem cvw_v {g : Nat} {i : Int} (hg : g < 4) : cvw M Rf (90 + g) i = M (Rf 51 g) i := by
  unfold cvw
  rw [if_neg (by omega), if_pos (by omega), show 90 + g - 90 = g by omega]
theorem cvw_s {g : Nat} {i : Int} (hg : g < 3) : cvw M Rf (87 + g) i = M (48 + g) i := by
  unfold cvw
  rw [if_neg (by omega), if_neg (by omega), if_pos (by omega), show 87 + g - 39 = 48 + g by omega]
theorem cvw_o {p : Nat} {i : Int} (hp : p < 87) : cvw M Rf p i = M p i := by
  unfold cvw
  rw [if_neg (by omega), if_neg (by omega), if_neg (by omega)]
/-- the frames' rows and the values' rows grow: what stands there stays -/
theorem GG.mx {o zz m : Nat} (ho : o = 43 ∨ o = 51) (h : MR X Rf K L n zf zv zr) (hz : zz = (if o = 43 then zf else zv)) (hm : m = min (2 * zz) (if o = 43 then 1464 else 1220)) (hl : zz < m) (g : GG o M Rf K L n zz m 4 M' Rf' K' L' (n + 4)) : MX X M Rf K L n s zf zv zr M' Rf' K' L' (n + 4) (s + m + m + m + m) (if o = 43 then m else zf) (if o = 43 then zv else m) ∧ (∀ (p : Nat) (i : Int), (94 ≤ p ∧ p ≤ 97 → 0 ≤ i ∧ i < zf) → (90 ≤ p ∧ p ≤ 93 → 0 ≤ i ∧ i < zv) → p < 98 → cvw M' Rf' p i = cvw M Rf p i) := by
  obtain ⟨h1, h2, h3, h4, ⟨h5, h6⟩, h7, h8⟩ := h
  have hn := h1.1
  obtain ⟨g1, g2, g3, g4, g5, g6, g7⟩ := g
  have gl : 8 ≤ zz := by
    have u := h2.2.2.2.1
    have v := h3.2.2.2.1
    rw [hz]; split <;> omega
  have f43 := fun f hf => (h2.1 f hf).2.1
  have f51 := fun f hf => (h3.1 f hf).2.1
  have f6 := fun f hf => (h4.1 f hf).2.1
  have e6 : ∀ f, f < 5 → Rf' 6 f = Rf 6 f := fun f hf => g5 6 (by omega) f (by omega)
  have rm : RmI Rf' K' L' (n + 4) zr := by
    refine ⟨fun f hf => ?_, fun f hf => ?_, fun f f' hf hf' e => ?_, h4.2.2.2⟩
    · have u := h4.1 f hf
      rw [e6 f hf]
      exact ⟨u.1, by have := u.2.1; omega, by rw [(g3 _ u.2.1).1]; exact u.2.2.1, by rw [(g3 _ u.2.1).2]; exact u.2.2.2⟩
    · rw [e6 f hf]; exact h4.2.1 f hf
    · rw [e6 f hf, e6 f' hf'] at e; exact h4.2.2.1 f f' hf hf' e
  rcases ho with rfl | rfl
  · rw [if_pos rfl] at hz hm
    rw [if_pos rfl, if_pos rfl]
    have pzz := h2.2.2.2.2.2
    unfold pz at pzz
    have pzm : pz m ∨ m = 1464 := by unfold pz; omega
    have e51 : ∀ f, f < 4 → Rf' 51 f = Rf 51 f := fun f hf => g5 51 (by omega) f (by omega)
    have a43 : RG 43 8 1464 Rf' K' L' (n + 4) m := by
      refine ⟨fun f hf => ?_, fun f hf => ?_, fun f f' hf hf' e => ?_, by omega, by omega, pzm⟩
      · obtain ⟨q1, q2, q3, -⟩ := g6 f hf
        rw [q1]; exact ⟨by omega, by omega, q2, q3⟩
      · have := (g6 f hf).1; omega
      · have a := (g6 f hf).1
        have b := (g6 f' hf').1
        omega
    have a51 : RG 51 16 1220 Rf' K' L' (n + 4) zv := by
      refine ⟨fun f hf => ?_, fun f hf => ?_, fun f f' hf hf' e => ?_, h3.2.2.2⟩
      · have u := h3.1 f hf
        rw [e51 f hf]
        exact ⟨u.1, by have := u.2.1; omega, by rw [(g3 _ u.2.1).1]; exact u.2.2.1, by rw [(g3 _ u.2.1).2]; exact u.2.2.2⟩
      · rw [e51 f hf]; exact h3.2.1 f hf
      · rw [e51 f hf, e51 f' hf'] at e; exact h3.2.2.1 f f' hf hf' e
    refine ⟨⟨⟨g1, a43, a51, rm, ⟨fun f g hf hg => ?_, fun f g hf hg => ?_⟩, by rw [g5 43 (by omega) 8 (by omega)]; exact h7, h8⟩, ⟨by omega, by omega, by omega, by omega, by omega⟩, g3, fun p hp g q1 q2 => g5 p hp g q1, fun g hg => ⟨Or.inr (by have := (g6 g hg).1; omega), Or.inl (e51 g hg)⟩, fun p hp _ i _ => g4 p hp i, g7⟩, fun p i q1 q2 q3 => ?_⟩
    · have a := (g6 f hf).1
      have b := f51 g hg
      rw [e51 g hg]; omega
    · have a := (g6 g hg).1
      have b := f6 f hf
      rw [e6 f hf, e51 g hg]
      exact ⟨by omega, (h6 f g hf hg).2⟩
    · unfold cvw
      by_cases c1 : 94 ≤ p ∧ p ≤ 97
      · rw [if_pos c1, if_pos c1]
        obtain ⟨r1, -, -, r4⟩ := g6 (p - 94) (by omega)
        rw [r1]
        exact r4 i (q1 c1).1 (by have := (q1 c1).2; omega)
      · rw [if_neg c1, if_neg c1]
        by_cases c2 : 90 ≤ p ∧ p ≤ 93
        · rw [if_pos c2, if_pos c2, e51 (p - 90) (by omega)]
          exact g4 _ (f51 _ (by omega)) i
        · rw [if_neg c2, if_neg c2]
          by_cases c3 : 87 ≤ p ∧ p ≤ 89
          · rw [if_pos c3, if_pos c3]; exact g4 _ (by omega) i
          · rw [if_neg c3, if_neg c3]; exact g4 _ (by omega) i
  · rw [if_neg (by omega)] at hz hm
    rw [if_neg (by omega), if_neg (by omega)]
    have pzz := h3.2.2.2.2.2
    unfold pz at pzz
    have pzm : pz m ∨ m = 1220 := by unfold pz; omega
    have e43 : ∀ f, f < 4 → Rf' 43 f = Rf 43 f := fun f hf => g5 43 (by omega) f (by omega)
    have a51 : RG 51 16 1220 Rf' K' L' (n + 4) m := by
      have zl := h3.2.2.2.1
      refine ⟨fun f hf => ?_, fun f hf => ?_, fun f f' hf hf' e => ?_, by omega, by omega, pzm⟩
      · obtain ⟨q1, q2, q3, -⟩ := g6 f hf
        rw [q1]; exact ⟨by omega, by omega, q2, q3⟩
      · have := (g6 f hf).1; omega
      · have a := (g6 f hf).1
        have b := (g6 f' hf').1
        omega
    have a43 : RG 43 8 1464 Rf' K' L' (n + 4) zf := by
      refine ⟨fun f hf => ?_, fun f hf => ?_, fun f f' hf hf' e => ?_, h2.2.2.2⟩
      · have u := h2.1 f hf
        rw [e43 f hf]
        exact ⟨u.1, by have := u.2.1; omega, by rw [(g3 _ u.2.1).1]; exact u.2.2.1, by rw [(g3 _ u.2.1).2]; exact u.2.2.2⟩
      · rw [e43 f hf]; exact h2.2.1 f hf
      · rw [e43 f hf, e43 f' hf'] at e; exact h2.2.2.1 f f' hf hf' e
    refine ⟨⟨⟨g1, a43, a51, rm, ⟨fun f g hf hg => ?_, fun f g hf hg => ?_⟩, by rw [g5 43 (by omega) 8 (by omega)]; exact h7, h8⟩, ⟨by omega, by omega, by omega, by omega, by omega⟩, g3, fun p hp g q1 q2 => g5 p hp g q2, fun g hg => ⟨Or.inl (e43 g hg), Or.inr (by have := (g6 g hg).1; omega)⟩, fun p hp _ i _ => g4 p hp i, g7⟩, fun p i q1 q2 q3 => ?_⟩
    · have a := (g6 g hg).1
      have b := f43 f hf
      rw [e43 f hf]; omega
    · have a := (g6 g hg).1
      have b := f6 f hf
      rw [e6 f hf, e43 g hg]
      exact ⟨(h6 f g hf hg).1, by omega⟩
    · unfold cvw
      by_cases c1 : 94 ≤ p ∧ p ≤ 97
      · rw [if_pos c1, if_pos c1, e43 (p - 94) (by omega)]
        exact g4 _ (f43 _ (by omega)) i
      · rw [if_neg c1, if_neg c1]
        by_cases c2 : 90 ≤ p ∧ p ≤ 93
        · rw [if_pos c2, if_pos c2]
          obtain ⟨r1, -, -, r4⟩ := g6 (p - 90) (by omega)
          rw [r1]
          exact r4 i (q2 c2).1 (by have := (q2 c2).2; omega)
        · rw [if_neg c2, if_neg c2]
          by_cases c3 : 87 ≤ p ∧ p ≤ 89
          · rw [if_pos c3, if_pos c3]; exact g4 _ (by omega) i
          · rw [if_neg c3, if_neg c3]; exact g4 _ (by omega) i
end PmH2
