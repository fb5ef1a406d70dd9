/-! THE MODEL RUNS: what its rows of a run stand for. -/
/-- an environment along the binders around -/
def EA (N : pm_M) (es : Nat) (H : Int → Option Ty) : List (Nat × Int × Nat) → Ty → Int → Int → Prop
  | [], ρ, _, _ => ρ = .nil
  | x :: r, ρ, e, s => if x.1 = 1 then (0 ≤ e ∧ e < es) ∧ N 87 e = s ∧ ∃ v ρ', ρ = eN x.2.2 v ρ' ∧ H (N 88 e) = some v ∧ EA N es H r ρ' (N 89 e) (N 64 s) else EA N es H r ρ e (N 64 s)
/-- a value that is done -/
def VCe (N : pm_M) (a b es : Nat) (H : Int → Option Ty) (i : Int) (v : Ty) : Prop := (∃ t ρ j s ch, v = vC t ρ ∧ (nKd t = 6 ∨ nKd t = 8) ∧ N 90 i = (nKd t : Int) ∧ N 91 i = ((j : Nat) : Int) ∧ NV N a b t j s ch ∧ EA N es H ch ρ (N 92 i) s) ∨ (∃ m x y z, ∃ r : Nat, v = vR m x y z ∧ m < 8 ∧ N 90 i = 10 ∧ N 91 i = (r : Int) ∧ r < a ∧ N 60 (r : Int) = (m : Int) ∧ ∀ g : Nat, g < 3 → bit m g = true → H (N 93 (3 * i + g)) = some (rP v g))
def HP (N : pm_M) (a b vs es : Nat) (H : Int → Option Ty) : Prop := ∀ i v, H i = some v → (0 ≤ i ∧ i < vs) ∧ VCe N a b es H i v
/-- what waits in a frame; lim: the records that are being made have smaller numbers -/
def FrM (N : pm_M) (a b es : Nat) (H : Int → Option Ty) (f : Fr) (k lim : Int) : Prop := N 94 k = (nKd f.1 : Int) ∧ (nKd f.1 = 7 ∨ nKd f.1 = 9 ∨ nKd f.1 = 10 ∨ nKd f.1 = 11) ∧ ∃ j s ch, NV N a b f.1 j s ch ∧ EA N es H ch f.2.1 (N 96 k) s ∧ (nKd f.1 ≠ 10 → N 95 k = ((j : Nat) : Int)) ∧ (nKd f.1 = 7 → (f.2.2.2 = 0 → N 97 k = -1) ∧ (f.2.2.2 ≠ 0 → H (N 97 k) = some f.2.2.1)) ∧ (nKd f.1 = 10 → (f.2.2.2 < 3 ∧ bit (nMk f.1) f.2.2.2 = true) ∧ N 95 k = (pN f.1 j f.2.2.2 : Int) ∧ (0 ≤ N 97 k ∧ N 97 k < lim) ∧ H (N 97 k) = none ∧ N 90 (N 97 k) = 10 ∧ N 91 (N 97 k) = (j : Int) ∧ (∃ x y z, f.2.2.1 = vR (nMk f.1) x y z) ∧ ∀ g : Nat, g < f.2.2.2 → bit (nMk f.1) g = true → H (N 93 (3 * N 97 k + g)) = some (rP f.2.2.1 g))
def FRs (N : pm_M) (a b es : Nat) (H : Int → Option Ty) : List Fr → Nat → Int → Prop
  | [], fr, _ => fr = 0
  | f :: k, fr, lim => ∃ q, fr = q + 1 ∧ FrM N a b es H f (q : Int) lim ∧ FRs N a b es H k q (if nKd f.1 = 10 then N 97 (q : Int) else lim)
def cfK : Cf → List Fr
  | .inl (_, _, k) => k
  | .inr (_, k) => k
def CRc (N : pm_M) (a b es : Nat) (H : Int → Option Ty) : Cf → Prop
  | .inl (t, ρ, _) => N 56 49 = 0 ∧ ∃ j s ch, N 56 46 = ((j : Nat) : Int) ∧ NV N a b t j s ch ∧ EA N es H ch ρ (N 56 47) s
  | .inr (v, _) => N 56 49 = 1 ∧ H (N 56 48) = some v
/-- the model stands where the run stands, st steps made -/
def CR (N : pm_M) (a b st : Nat) (c : Cf) : Prop := ∃ (vs es fr : Nat) (H : Int → Option Ty), (N 56 54 = (vs : Int) ∧ N 56 50 = (es : Int) ∧ N 56 59 = (fr : Int)) ∧ HP N a b vs es H ∧ (es ≤ st ∧ vs + pdC c ≤ 60 + 60 * st ∧ fr + pdC c ≤ 60 + 60 * st) ∧ FRs N a b es H (cfK c) fr vs ∧ CRc N a b es H c
/-- what a move leaves as it is -/
def Kpm (N N' : pm_M) (vs es : Nat) (H : Int → Option Ty) : Prop := (∀ (p : Nat) (i : Int), 59 ≤ p → p ≤ 67 → N' p i = N p i) ∧ (∀ (p : Nat) (i : Int), 87 ≤ p → p ≤ 89 → 0 ≤ i → i < es → N' p i = N p i) ∧ (∀ (p : Nat) (i : Int), 90 ≤ p → p ≤ 92 → 0 ≤ i → i < vs → N' p i = N p i) ∧ (∀ (i : Int) (g : Nat), H i ≠ none → g < 3 → N' 93 (3 * i + g) = N 93 (3 * i + g))
def Hle (H H' : Int → Option Ty) : Prop := ∀ i v, H i = some v → H' i = some v
theorem NV.keep {N N' : pm_M} {a b j : Nat} {t : Ty} {s : Int} {ch : List (Nat × Int × Nat)} (k : ∀ (p : Nat) (i : Int), 59 ≤ p → p ≤ 67 → N' p i = N p i) (h : NV N a b t j s ch) : NV N' a b t j s ch := by
  obtain ⟨F, D, h1, h2⟩ := h
  exact ⟨F, D, h1.kpg (fun q i q1 q2 _ _ => k q i (by omega) (by omega)) (fun q i q1 q2 _ _ => k q i (by omega) (by omega)), h2⟩
theorem EA.keep {N N' : pm_M} {es es' : Nat} {H H' : Int → Option Ty} (k0 : ∀ (p : Nat) (i : Int), 59 ≤ p → p ≤ 67 → N' p i = N p i) (k1 : ∀ (p : Nat) (i : Int), 87 ≤ p → p ≤ 89 → 0 ≤ i → i < es → N' p i = N p i) (hh : Hle H H') (he : es ≤ es') : ∀ {ch : List (Nat × Int × Nat)} {ρ : Ty} {e s : Int}, EA N es H ch ρ e s → EA N' es' H' ch ρ e s
  | [], ρ, e, s, h => h
  | x :: r, ρ, e, s, h => by
    have h : if x.1 = 1 then (0 ≤ e ∧ e < es) ∧ N 87 e = s ∧ ∃ v ρ', ρ = eN x.2.2 v ρ' ∧ H (N 88 e) = some v ∧ EA N es H r ρ' (N 89 e) (N 64 s) else EA N es H r ρ e (N 64 s) := h
    show if x.1 = 1 then (0 ≤ e ∧ e < es') ∧ N' 87 e = s ∧ ∃ v ρ', ρ = eN x.2.2 v ρ' ∧ H' (N' 88 e) = some v ∧ EA N' es' H' r ρ' (N' 89 e) (N' 64 s) else EA N' es' H' r ρ e (N' 64 s)
    by_cases c : x.1 = 1
    · rw [if_pos c] at h ⊢
      obtain ⟨h1, h2, v, ρ', h3, h4, h5⟩ := h
      rw [k1 87 e (by omega) (by omega) h1.1 h1.2, k1 88 e (by omega) (by omega) h1.1 h1.2, k1 89 e (by omega) (by omega) h1.1 h1.2, k0 64 s (by omega) (by omega)]
      exact ⟨⟨h1.1, by omega⟩, h2, v, ρ', h3, hh _ _ h4, EA.keep k0 k1 hh he h5⟩
    · rw [if_neg c] at h ⊢
      rw [k0 64 s (by omega) (by omega)]
      exact EA.keep k0 k1 hh he h
theorem VCe.keep {N N' : pm_M} {a b vs es es' : Nat} {H H' : Int → Option Ty} {i : Int} {v : Ty} (k : Kpm N N' vs es H) (hh : Hle H H') (he : es ≤ es') (hi : 0 ≤ i ∧ i < vs) (hn : H i = some v) (h : VCe N a b es H i v) : VCe N' a b es' H' i v := by
  obtain ⟨k0, k1, k2, k3⟩ := k
  have e0 := k2 90 i (by omega) (by omega) hi.1 hi.2
  have e1 := k2 91 i (by omega) (by omega) hi.1 hi.2
  have e2 := k2 92 i (by omega) (by omega) hi.1 hi.2
  rcases h with ⟨t, ρ, j, s, ch, h1, h2, h3, h4, h5, h6⟩ | ⟨m, x, y, z, r, h1, h2, h3, h4, h5, h6, h7⟩
  · exact Or.inl ⟨t, ρ, j, s, ch, h1, h2, by rw [e0]; exact h3, by rw [e1]; exact h4, h5.keep k0, by rw [e2]; exact h6.keep k0 k1 hh he⟩
  · refine Or.inr ⟨m, x, y, z, r, h1, h2, by rw [e0]; exact h3, by rw [e1]; exact h4, h5, by rw [k0 60 r (by omega) (by omega)]; exact h6, fun g hg hb => ?_⟩
    rw [k3 i g (by rw [hn]; exact fun e => by cases e) hg]
    exact hh _ _ (h7 g hg hb)
theorem HP.keep {N N' : pm_M} {a b vs es es' : Nat} {H : Int → Option Ty} (k : Kpm N N' vs es H) (he : es ≤ es') (h : HP N a b vs es H) : HP N' a b vs es' H := fun i v hv => ⟨(h i v hv).1, (h i v hv).2.keep k (fun _ _ x => x) he (h i v hv).1 hv⟩
/-- a value more -/
def Hup (H : Int → Option Ty) (i : Int) (v : Ty) : Int → Option Ty := fun k => if k = i then some v else H k
theorem Hup.le {H : Int → Option Ty} {i : Int} {v : Ty} (h : H i = none) : Hle H (Hup H i v) := by
  intro k w hk
  unfold Hup
  by_cases c : k = i
  · rw [c, h] at hk; cases hk
  · rw [if_neg c]; exact hk
theorem HP.up {N N' : pm_M} {a b vs vs' es es' : Nat} {H : Int → Option Ty} {i : Int} {v : Ty} (k : Kpm N N' vs es H) (he : es ≤ es') (hv : vs ≤ vs') (hn : H i = none) (h : HP N a b vs es H) (hi : 0 ≤ i ∧ i < vs') (hc : VCe N' a b es' (Hup H i v) i v) : HP N' a b vs' es' (Hup H i v) := by
  intro q w hw
  unfold Hup at hw
  by_cases c : q = i
  · rw [if_pos c] at hw
    cases hw
    rw [c]
    exact ⟨hi, hc⟩
  · rw [if_neg c] at hw
    have := h q w hw
    exact ⟨⟨this.1.1, by have := this.1.2; omega⟩, this.2.keep k (Hup.le hn) he this.1 hw⟩
theorem HP.fresh {N : pm_M} {a b vs es : Nat} {H : Int → Option Ty} (h : HP N a b vs es H) : H (vs : Int) = none := by
  cases e : H (vs : Int) with
  | none => rfl
  | some v => have := (h _ v e).1.2; omega
theorem FrM.keep {N N' : pm_M} {a b vs es es' : Nat} {H H' : Int → Option Ty} {f : Fr} {q lim lim' : Int} (k : Kpm N N' vs es H) (kf : ∀ (p : Nat), 94 ≤ p → p ≤ 97 → N' p q = N p q) (hh : Hle H H') (he : es ≤ es') (hl : lim ≤ lim') (hv : lim ≤ vs) (hs : nKd f.1 = 10 → H' (N 97 q) = none) (k93 : nKd f.1 = 10 → ∀ g : Nat, g < 3 → N' 93 (3 * N 97 q + g) = N 93 (3 * N 97 q + g)) (h : FrM N a b es H f q lim) : FrM N' a b es' H' f q lim' := by
  obtain ⟨h1, h2, j, s, ch, h3, h4, h5, h6, h7⟩ := h
  obtain ⟨k0, k1, k2, k3⟩ := k
  have e4 := kf 94 (by omega) (by omega)
  have e5 := kf 95 (by omega) (by omega)
  have e6 := kf 96 (by omega) (by omega)
  have e7 := kf 97 (by omega) (by omega)
  refine ⟨by rw [e4]; exact h1, h2, j, s, ch, h3.keep k0, by rw [e6]; exact h4.keep k0 k1 hh he, by rw [e5]; exact h5, fun e => ?_, fun e => ?_⟩
  · rw [e7]
    exact ⟨(h6 e).1, fun g0 => hh _ _ ((h6 e).2 g0)⟩
  · obtain ⟨g1, g2, g3, g4, g5, g6, g7, g8⟩ := h7 e
    rw [e5, e7]
    have v1 := k2 90 (N 97 q) (by omega) (by omega) g3.1 (by omega)
    have v2 := k2 91 (N 97 q) (by omega) (by omega) g3.1 (by omega)
    refine ⟨g1, g2, ⟨g3.1, by omega⟩, hs e, by rw [v1]; exact g5, by rw [v2]; exact g6, g7, fun g hg hb => ?_⟩
    rw [k93 e g (by omega)]
    exact hh _ _ (g8 g hg hb)
theorem FRs.keep {N N' : pm_M} {a b vs es es' : Nat} {H H' : Int → Option Ty} (k : Kpm N N' vs es H) (hh : Hle H H') (he : es ≤ es') : ∀ {l : List Fr} {fr : Nat} {lim lim' : Int}, lim ≤ lim' → lim ≤ vs → (∀ (p : Nat) (q : Int), 94 ≤ p → p ≤ 97 → 0 ≤ q → q < fr → N' p q = N p q) → (∀ i : Int, 0 ≤ i → i < lim → H i = none → H' i = none ∧ ∀ g : Nat, g < 3 → N' 93 (3 * i + g) = N 93 (3 * i + g)) → FRs N a b es H l fr lim → FRs N' a b es' H' l fr lim'
  | [], fr, lim, lim', _, _, _, _, h => h
  | f :: l, fr, lim, lim', hl, hv, kf, hs, h => by
    obtain ⟨q, e, h1, h2⟩ := h
    have hq : (q : Int) < fr := by omega
    have e7 := kf 97 q (by omega) (by omega) (by omega) hq
    have w1 : nKd f.1 = 10 → (0 ≤ N 97 (q : Int) ∧ N 97 (q : Int) < lim) ∧ H (N 97 (q : Int)) = none := by
      intro e10
      obtain ⟨-, -, j, s, ch, -, -, -, -, h7⟩ := h1
      obtain ⟨g1, g2, g3, g4, -⟩ := h7 e10
      exact ⟨g3, g4⟩
    refine ⟨q, e, h1.keep k (fun p p1 p2 => kf p q p1 p2 (by omega) hq) hh he hl hv (fun e10 => (hs _ (w1 e10).1.1 (w1 e10).1.2 (w1 e10).2).1) (fun e10 => (hs _ (w1 e10).1.1 (w1 e10).1.2 (w1 e10).2).2), ?_⟩
    rw [e7]
    by_cases c : nKd f.1 = 10
    · rw [if_pos c] at h2 ⊢
      have w := w1 c
      exact FRs.keep k hh he (Int.le_refl _) (by omega) (fun p r p1 p2 r0 r1 => kf p r p1 p2 r0 (by omega)) (fun i i0 i1 hn => hs i i0 (by omega) hn) h2
    · rw [if_neg c] at h2 ⊢
      exact FRs.keep k hh he hl hv (fun p r p1 p2 r0 r1 => kf p r p1 p2 r0 (by omega)) hs h2
