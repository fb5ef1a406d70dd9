/-! THE CLASS RUNS: what its rows of a run stand for. -/
/-- values that a term may make: functions, terms for every type, records -/
def vN : Ty → Nat
  | .nest _ (.tag k (.tag _ (.append x (.append y z)))) => (if k = 6 ∨ k = 8 ∨ k = 10 then 1 else 0) + (vN x + (vN y + vN z))
  | _ => 0
theorem vN_mN (p k m : Nat) (x y z : Ty) : vN (mN p k m x y z) = (if k = 6 ∨ k = 8 ∨ k = 10 then 1 else 0) + (vN x + (vN y + vN z)) := by
  unfold mN; rw [vN]
theorem vN_is {t : Ty} (h : t = mN (nPl t) (nKd t) (nMk t) (nX t) (nY t) (nZ t)) : vN t = (if nKd t = 6 ∨ nKd t = 8 ∨ nKd t = 10 then 1 else 0) + (vN (nX t) + (vN (nY t) + vN (nZ t))) := by
  have := vN_mN (nPl t) (nKd t) (nMk t) (nX t) (nY t) (nZ t)
  rwa [← h] at this
def vpR (t : Ty) (g : Nat) : Nat := (if g < 1 then vN (nY t) else 0) + (if g < 2 then vN (nZ t) else 0)
def vpF (f : Fr) : Nat := if nKd f.1 = 7 then (if f.2.2.2 = 0 then vN (nY f.1) else 0) else if nKd f.1 = 10 then vpR f.1 f.2.2.2 else 0
def vpK : List Fr → Nat
  | [] => 0
  | f :: k => vpF f + vpK k
def vpC : Cf → Nat
  | .inl (t, _, k) => vN t + vpK k
  | .inr (_, k) => vpK k
def NVc (V : pm_M) (X cnt F : Nat) (t : Ty) (j : Int) : Prop := CNd V X 0 (cnt : Int) (fun _ _ => True) F t j ∧ (∃ D sc, TWf F D sc t) ∧ (vN t ≤ 20 ∧ pnd t ≤ 60) ∧ F ≤ 24
def ECe (V : pm_M) (X cnt sc : Nat) (H : Int → Option Ty) : Ty → Int → Prop
  | .nest p (.append v r), e => (0 ≤ e ∧ e < sc) ∧ (0 ≤ V 87 e ∧ V 87 e < cnt) ∧ V (X + 2) (V 87 e) = p ∧ H (V 88 e) = some v ∧ V 89 e < e ∧ ECe V X cnt sc H r (V 89 e)
  | .nil, e => e = -1
  | _, _ => False
def VCk (V : pm_M) (X cnt sc : Nat) (H : Int → Option Ty) (i : Int) (v : Ty) : Prop := (∃ F t ρ, v = vC t ρ ∧ (nKd t = 6 ∨ nKd t = 8) ∧ NVc V X cnt F t (V 90 i) ∧ ECe V X cnt sc H ρ (V 91 i)) ∨ (∃ m x y z, v = vR m x y z ∧ m < 8 ∧ (0 ≤ V 90 i ∧ V 90 i < cnt) ∧ V (X + 1) (V 90 i) = 5 ∧ V (X + 3) (V 90 i) = (m : Int) ∧ ∀ g : Nat, g < 3 → bit m g = true → H (V (91 + g) i) = some (rP v g))
def HPk (V : pm_M) (X cnt vs sc : Nat) (H : Int → Option Ty) : Prop := ∀ i v, H i = some v → (0 ≤ i ∧ i < vs) ∧ VCk V X cnt sc H i v
def FrK (V : pm_M) (X cnt sc st : Nat) (H : Int → Option Ty) (f : Fr) (k : Nat) (lim : Int) : Prop := (nKd f.1 = 7 ∨ nKd f.1 = 9 ∨ nKd f.1 = 10 ∨ nKd f.1 = 11) ∧ (∃ F, NVc V X cnt F f.1 (V 94 k) ∧ k + F ≤ 24 * (st + 1)) ∧ ECe V X cnt sc H f.2.1 (V 95 k) ∧ (nKd f.1 = 7 → (f.2.2.2 = 0 → V 96 k = -1) ∧ (f.2.2.2 ≠ 0 → H (V 96 k) = some f.2.2.1)) ∧ (nKd f.1 = 10 → (f.2.2.2 < 3 ∧ bit (nMk f.1) f.2.2.2 = true) ∧ V 97 k = (f.2.2.2 : Int) ∧ (0 ≤ V 96 k ∧ V 96 k < lim) ∧ H (V 96 k) = none ∧ V 90 (V 96 k) = V 94 k ∧ (∃ x y z, f.2.2.1 = vR (nMk f.1) x y z) ∧ ∀ g : Nat, g < f.2.2.2 → bit (nMk f.1) g = true → H (V (91 + g) (V 96 k)) = some (rP f.2.2.1 g))
def FRk (V : pm_M) (X cnt sc st : Nat) (H : Int → Option Ty) : List Fr → Nat → Int → Prop
  | [], fr, _ => fr = 0
  | f :: k, fr, lim => ∃ q, fr = q + 1 ∧ FrK V X cnt sc st H f q lim ∧ FRk V X cnt sc st H k q (if nKd f.1 = 10 then V 96 (q : Int) else lim)
def CKc (V : pm_M) (X cnt sc st fr : Nat) (H : Int → Option Ty) : Cf → Prop
  | .inl (t, ρ, _) => V 43 13 = -1 ∧ (∃ F, NVc V X cnt F t (V 43 11) ∧ fr + F ≤ 24 * (st + 1)) ∧ ECe V X cnt sc H ρ (V 43 12)
  | .inr (v, _) => H (V 43 13) = some v
def BK (V : pm_M) (X cnt st vs sc fr zf zv : Nat) (H : Int → Option Ty) (k : List Fr) (pc : Nat) : Prop := (V 51 4 = (vs : Int) ∧ V 43 10 = (sc : Int) ∧ V 43 9 = (fr : Int) ∧ V 43 14 = 0 ∧ V 43 15 = (st : Int)) ∧ HPk V X cnt vs sc H ∧ (sc ≤ st ∧ st ≤ 60 ∧ vs ≤ zv ∧ fr ≤ zf ∧ vs + pc ≤ 20 * (st + 1)) ∧ FRk V X cnt sc st H k fr vs
def CK (V : pm_M) (X cnt st zf zv : Nat) (c : Cf) : Prop := ∃ (vs sc fr : Nat) (H : Int → Option Ty), BK V X cnt st vs sc fr zf zv H (cfK c) (vpC c) ∧ CKc V X cnt sc st fr H c
def Kpk (V V' : pm_M) (X vs sc : Nat) (H : Int → Option Ty) : Prop := (∀ (p : Nat) (i : Int), X + 1 ≤ p → p ≤ X + 6 → V' p i = V p i) ∧ (∀ (p : Nat) (i : Int), 87 ≤ p → p ≤ 89 → 0 ≤ i → i < sc → V' p i = V p i) ∧ (∀ i : Int, 0 ≤ i → i < vs → V' 90 i = V 90 i) ∧ (∀ (i : Int) (g : Nat), H i ≠ none → g < 3 → V' (91 + g) i = V (91 + g) i)
section PmH4
variable {V V' : pm_M} {X cnt vs sc sc' st st' fr : Nat} {H H' : Int → Option Ty}
theorem NVc.keep {F : Nat} {t : Ty} {j : Int} (k : ∀ (p : Nat) (i : Int), X + 1 ≤ p → p ≤ X + 6 → V' p i = V p i) (h : NVc V X cnt F t j) : NVc V' X cnt F t j := ⟨h.1.mono (fun q q1 q2 i _ _ => k q i q1 q2) (fun i _ _ => k (X + 2) i (by omega) (by omega)) (Int.le_refl _) (Int.le_refl _) (fun _ _ x => x) (Nat.le_refl _), h.2⟩
theorem ECe.keep (k0 : ∀ (p : Nat) (i : Int), X + 1 ≤ p → p ≤ X + 6 → V' p i = V p i) (k1 : ∀ (p : Nat) (i : Int), 87 ≤ p → p ≤ 89 → 0 ≤ i → i < sc → V' p i = V p i) (hh : Hle H H') (he : sc ≤ sc') : ∀ {ρ : Ty} {e : Int}, ECe V X cnt sc H ρ e → ECe V' X cnt sc' H' ρ e
  | .nest p (.append v r), e, h => by
    rw [ECe] at h ⊢
    obtain ⟨h1, h2, h3, h4, h5, h6⟩ := h
    rw [k1 87 e (by omega) (by omega) h1.1 h1.2, k1 88 e (by omega) (by omega) h1.1 h1.2, k1 89 e (by omega) (by omega) h1.1 h1.2, k0 (X + 2) _ (by omega) (by omega)]
    exact ⟨⟨h1.1, by omega⟩, h2, h3, hh _ _ h4, h5, h6.keep k0 k1 hh he⟩
  | .nil, e, h => by
    rw [ECe] at h ⊢
    exact h
  | .line, _, h => by simp [ECe] at h
  | .align _, _, h => by simp [ECe] at h
  | .text _, _, h => by simp [ECe] at h
  | .group _ _, _, h => by simp [ECe] at h
  | .append _ _, _, h => by simp [ECe] at h
  | .tag _ _, _, h => by simp [ECe] at h
  | .nest _ .nil, _, h => by simp [ECe] at h
  | .nest _ .line, _, h => by simp [ECe] at h
  | .nest _ (.align _), _, h => by simp [ECe] at h
  | .nest _ (.text _), _, h => by simp [ECe] at h
  | .nest _ (.nest _ _), _, h => by simp [ECe] at h
  | .nest _ (.group _ _), _, h => by simp [ECe] at h
  | .nest _ (.tag _ _), _, h => by simp [ECe] at h
theorem VCk.keep {i : Int} {v : Ty} (k : Kpk V V' X vs sc H) (hh : Hle H H') (he : sc ≤ sc') (hi : 0 ≤ i ∧ i < vs) (hn : H i = some v) (h : VCk V X cnt sc H i v) : VCk V' X cnt sc' H' i v := by
  obtain ⟨k0, k1, k2, k3⟩ := k
  have e0 := k2 i hi.1 hi.2
  have hne : H i ≠ none := by rw [hn]; exact fun e => by cases e
  rcases h with ⟨F, t, ρ, h1, h2, h3, h4⟩ | ⟨m, x, y, z, h1, h2, h3, h4, h5, h6⟩
  · exact Or.inl ⟨F, t, ρ, h1, h2, by rw [e0]; exact h3.keep k0, by have := k3 i 0 hne (by omega); rw [show V' 91 i = V 91 i from this]; exact h4.keep k0 k1 hh he⟩
  · refine Or.inr ⟨m, x, y, z, h1, h2, by rw [e0]; exact h3, by rw [e0, k0 (X + 1) _ (by omega) (by omega)]; exact h4, by rw [e0, k0 (X + 3) _ (by omega) (by omega)]; exact h5, fun g hg hb => ?_⟩
    rw [k3 i g hne hg]
    exact hh _ _ (h6 g hg hb)
theorem HPk.keep (k : Kpk V V' X vs sc H) (he : sc ≤ sc') (h : HPk V X cnt vs sc H) : HPk V' X cnt vs sc' H := fun i v hv => ⟨(h i v hv).1, (h i v hv).2.keep k (fun _ _ x => x) he (h i v hv).1 hv⟩
theorem HPk.up {vs' : Nat} {i : Int} {v : Ty} (k : Kpk V V' X vs sc H) (he : sc ≤ sc') (hv : vs ≤ vs') (hn : H i = none) (h : HPk V X cnt vs sc H) (hi : 0 ≤ i ∧ i < vs') (hc : VCk V' X cnt sc' (Hup H i v) i v) : HPk V' X cnt vs' sc' (Hup H i v) := by
  intro q w hw
  unfold Hup at hw
  by_cases c : q = i
  · rw [if_pos c] at hw
    cases hw
    rw [c]
    exact ⟨hi, hc⟩
  · rw [if_neg c] at hw
    have := h q w hw
    exact ⟨⟨this.1.1, by have := this.1.2; omega⟩, this.2.keep k (Hup.le hn) he this.1 hw⟩
theorem HPk.fresh (h : HPk V X cnt vs sc H) : H (vs : Int) = none := by
  cases e : H (vs : Int) with
  | none => rfl
  | some v => have := (h _ v e).1.2; omega
theorem FrK.keep {f : Fr} {q : Nat} {lim lim' : Int} (k : Kpk V V' X vs sc H) (kf : ∀ (p : Nat), 94 ≤ p → p ≤ 97 → V' p q = V p q) (hh : Hle H H') (he : sc ≤ sc') (hst : st ≤ st') (hl : lim ≤ lim') (hv : lim ≤ vs) (hs : nKd f.1 = 10 → H' (V 96 q) = none) (k93 : nKd f.1 = 10 → ∀ g : Nat, g < 3 → V' (91 + g) (V 96 q) = V (91 + g) (V 96 q)) (h : FrK V X cnt sc st H f q lim) : FrK V' X cnt sc' st' H' f q lim' := by
  obtain ⟨h2, ⟨F, h3, hF⟩, h4, h6, h7⟩ := h
  obtain ⟨k0, k1, k2, k3⟩ := k
  have e4 := kf 94 (by omega) (by omega)
  have e5 := kf 95 (by omega) (by omega)
  have e6 := kf 96 (by omega) (by omega)
  have e7 := kf 97 (by omega) (by omega)
  refine ⟨h2, ⟨F, by rw [e4]; exact h3.keep k0, by omega⟩, by rw [e5]; exact h4.keep k0 k1 hh he, fun e => ?_, fun e => ?_⟩
  · rw [e6]
    exact ⟨(h6 e).1, fun g0 => hh _ _ ((h6 e).2 g0)⟩
  · obtain ⟨g1, g2, g3, g4, g5, g7, g8⟩ := h7 e
    rw [e4, e6, e7]
    have v1 := k2 (V 96 q) g3.1 (by omega)
    refine ⟨g1, g2, ⟨g3.1, by omega⟩, hs e, by rw [v1]; exact g5, g7, fun g hg hb => ?_⟩
    rw [k93 e g (by omega)]
    exact hh _ _ (g8 g hg hb)
theorem FRk.keep (k : Kpk V V' X vs sc H) (hh : Hle H H') (he : sc ≤ sc') (hst : st ≤ st') : ∀ {l : List Fr} {fr : Nat} {lim lim' : Int}, lim ≤ lim' → lim ≤ vs → (∀ (p : Nat) (q : Int), 94 ≤ p → p ≤ 97 → 0 ≤ q → q < fr → V' p q = V p q) → (∀ i : Int, 0 ≤ i → i < lim → H i = none → H' i = none ∧ ∀ g : Nat, g < 3 → V' (91 + g) i = V (91 + g) i) → FRk V X cnt sc st H l fr lim → FRk V' X cnt sc' st' H' l fr lim'
  | [], fr, lim, lim', _, _, _, _, h => h
  | f :: l, fr, lim, lim', hl, hv, kf, hs, h => by
    obtain ⟨q, e, h1, h2⟩ := h
    have hq : (q : Int) < fr := by omega
    have e7 := kf 96 q (by omega) (by omega) (by omega) hq
    have w1 : nKd f.1 = 10 → (0 ≤ V 96 (q : Int) ∧ V 96 (q : Int) < lim) ∧ H (V 96 (q : Int)) = none := by
      intro e10
      obtain ⟨-, -, -, -, h7⟩ := h1
      obtain ⟨g1, g2, g3, g4, -⟩ := h7 e10
      exact ⟨g3, g4⟩
    refine ⟨q, e, h1.keep k (fun p p1 p2 => kf p q p1 p2 (by omega) hq) hh he hst hl hv (fun e10 => (hs _ (w1 e10).1.1 (w1 e10).1.2 (w1 e10).2).1) (fun e10 => (hs _ (w1 e10).1.1 (w1 e10).1.2 (w1 e10).2).2), ?_⟩
    rw [e7]
    by_cases c : nKd f.1 = 10
    · rw [if_pos c] at h2 ⊢
      have w := w1 c
      exact FRk.keep k hh he hst (Int.le_refl _) (by omega) (fun p r p1 p2 r0 r1 => kf p r p1 p2 r0 (by omega)) (fun i i0 i1 hn => hs i i0 (by omega) hn) h2
    · rw [if_neg c] at h2 ⊢
      exact FRk.keep k hh he hst hl hv (fun p r p1 p2 r0 r1 => kf p r p1 p2 r0 (by omega)) hs h2
theorem FRk.below {f : Fr} {k : List Fr} {q : Nat} {lim : Int} (h : FRk V X cnt sc st H (f :: k) (q + 1) lim) : FrK V X cnt sc st H f q lim ∧ FRk V X cnt sc st H k q (if nKd f.1 = 10 then V 96 (q : Int) else lim) := by
  obtain ⟨q', e, h1, h2⟩ := h
  have : q' = q := by omega
  subst this
  exact ⟨h1, h2⟩
end PmH4
