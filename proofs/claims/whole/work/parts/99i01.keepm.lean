/-! THE INVARIANT: what the model's run needs of the memory. -/
/-- nodes a, scopes b of the term: as they were -/
def Knm (N N' : pm_M) (a b : Nat) : Prop := (∀ (q : Nat) (i : Int), 59 ≤ q → q ≤ 63 → 0 ≤ i → i < a → N' q i = N q i) ∧ (∀ (q : Nat) (i : Int), 64 ≤ q → q ≤ 67 → 0 ≤ i → i < b → N' q i = N q i)
section PmI1
variable {N N' : pm_M} {a b : Nat}
theorem EA.kn {es : Nat} {H : Int → Option Ty} (k0 : Knm N N' a b) (k1 : ∀ (p : Nat) (i : Int), 87 ≤ p → p ≤ 97 → N' p i = N p i) : ∀ {ch : List (Nat × Int × Nat)} {ρ : Ty} {e s : Int}, SCh 0 N a b s ch → EA N es H ch ρ e s → EA N' es H ch ρ e s
  | [], ρ, e, s, _, h => h
  | x :: r, ρ, e, s, hc, h => by
    obtain ⟨c1, -, -, -, -, -, -, c8⟩ := hc
    have h : if x.1 = 1 then (0 ≤ e ∧ e < es) ∧ N 87 e = s ∧ ∃ v ρ', ρ = eN x.2.2 v ρ' ∧ H (N 88 e) = some v ∧ EA N es H r ρ' (N 89 e) (N 64 s) else EA N es H r ρ e (N 64 s) := h
    show if x.1 = 1 then (0 ≤ e ∧ e < es) ∧ N' 87 e = s ∧ ∃ v ρ', ρ = eN x.2.2 v ρ' ∧ H (N' 88 e) = some v ∧ EA N' es H r ρ' (N' 89 e) (N' 64 s) else EA N' es H r ρ e (N' 64 s)
    have e64 := k0.2 64 s (by omega) (by omega) (by omega) (by omega)
    by_cases c : x.1 = 1
    · rw [if_pos c] at h ⊢
      obtain ⟨h1, h2, v, ρ', h3, h4, h5⟩ := h
      rw [k1 87 e (by omega) (by omega), k1 88 e (by omega) (by omega), k1 89 e (by omega) (by omega), e64]
      exact ⟨h1, h2, v, ρ', h3, h4, EA.kn k0 k1 c8 h5⟩
    · rw [if_neg c] at h ⊢
      rw [e64]
      exact EA.kn k0 k1 c8 h
theorem NV.sch {t : Ty} {j : Nat} {s : Int} {ch : List (Nat × Int × Nat)} (h : NV N a b t j s ch) : SCh 0 N a b s ch := by
  obtain ⟨F, D, h1, -⟩ := h
  cases F with
  | zero => exact h1.elim
  | succ F => exact h1.1.2.2.2.2
theorem NV.kn {t : Ty} {j : Nat} {s : Int} {ch : List (Nat × Int × Nat)} (k0 : Knm N N' a b) (h : NV N a b t j s ch) : NV N' a b t j s ch := by
  obtain ⟨F, D, h1, h2⟩ := h
  exact ⟨F, D, h1.kpg k0.1 k0.2, h2⟩
theorem VCe.kn {es : Nat} {H : Int → Option Ty} {i : Int} {v : Ty} (k0 : Knm N N' a b) (k1 : ∀ (p : Nat) (i : Int), 87 ≤ p → p ≤ 97 → N' p i = N p i) (h : VCe N a b es H i v) : VCe N' a b es H i v := by
  have e0 := k1 90 i (by omega) (by omega)
  have e1 := k1 91 i (by omega) (by omega)
  have e2 := k1 92 i (by omega) (by omega)
  rcases h with ⟨t, ρ, j, s, ch, h1, h2, h3, h4, h5, h6⟩ | ⟨m, x, y, z, r, h1, h2, h3, h4, h5, h6, h7⟩
  · exact Or.inl ⟨t, ρ, j, s, ch, h1, h2, by rw [e0]; exact h3, by rw [e1]; exact h4, h5.kn k0, by rw [e2]; exact h6.kn k0 k1 h5.sch⟩
  · refine Or.inr ⟨m, x, y, z, r, h1, h2, by rw [e0]; exact h3, by rw [e1]; exact h4, h5, by rw [k0.1 60 r (by omega) (by omega) (by omega) (by omega)]; exact h6, fun g hg hb => ?_⟩
    rw [k1 93 _ (by omega) (by omega)]
    exact h7 g hg hb
theorem FrM.kn {es : Nat} {H : Int → Option Ty} {f : Fr} {q lim : Int} (k0 : Knm N N' a b) (k1 : ∀ (p : Nat) (i : Int), 87 ≤ p → p ≤ 97 → N' p i = N p i) (h : FrM N a b es H f q lim) : FrM N' a b es H f q lim := by
  obtain ⟨h1, h2, j, s, ch, h3, h4, h5, h6, h7⟩ := h
  have e4 := k1 94 q (by omega) (by omega)
  have e5 := k1 95 q (by omega) (by omega)
  have e6 := k1 96 q (by omega) (by omega)
  have e7 := k1 97 q (by omega) (by omega)
  refine ⟨by rw [e4]; exact h1, h2, j, s, ch, h3.kn k0, by rw [e6]; exact h4.kn k0 k1 h3.sch, by rw [e5]; exact h5, by rw [e7]; exact h6, fun e => ?_⟩
  obtain ⟨g1, g2, g3, g4, g5, g6, g7, g8⟩ := h7 e
  rw [e5, e7]
  refine ⟨g1, g2, g3, g4, by rw [k1 90 _ (by omega) (by omega)]; exact g5, by rw [k1 91 _ (by omega) (by omega)]; exact g6, g7, fun g hg hb => ?_⟩
  rw [k1 93 _ (by omega) (by omega)]
  exact g8 g hg hb
theorem FRs.kn {es : Nat} {H : Int → Option Ty} (k0 : Knm N N' a b) (k1 : ∀ (p : Nat) (i : Int), 87 ≤ p → p ≤ 97 → N' p i = N p i) : ∀ {l : List Fr} {fr : Nat} {lim : Int}, FRs N a b es H l fr lim → FRs N' a b es H l fr lim
  | [], fr, lim, h => h
  | f :: l, fr, lim, h => by
    obtain ⟨q, e, h1, h2⟩ := h
    refine ⟨q, e, h1.kn k0 k1, ?_⟩
    rw [k1 97 _ (by omega) (by omega)]
    exact FRs.kn k0 k1 h2
theorem CR.kn {st : Nat} {c : Cf} (k0 : Knm N N' a b) (k1 : ∀ (p : Nat) (i : Int), 87 ≤ p → p ≤ 97 → N' p i = N p i) (k2 : ∀ i : Int, 43 ≤ i → i ≤ 59 → N' 56 i = N 56 i) (h : CR N a b st c) : CR N' a b st c := by
  obtain ⟨vs, es, fr, H, ⟨c1, c2, c3⟩, hh, cb, fs, hc⟩ := h
  refine ⟨vs, es, fr, H, ⟨by rw [k2 54 (by omega) (by omega)]; exact c1, by rw [k2 50 (by omega) (by omega)]; exact c2, by rw [k2 59 (by omega) (by omega)]; exact c3⟩, fun i v hv => ⟨(hh i v hv).1, (hh i v hv).2.kn k0 k1⟩, cb, fs.kn k0 k1, ?_⟩
  cases c with
  | inl x =>
    obtain ⟨t, ρ, kk⟩ := x
    obtain ⟨e49, j, s, ch, e46, nv, ea⟩ := hc
    exact ⟨by rw [k2 49 (by omega) (by omega)]; exact e49, j, s, ch, by rw [k2 46 (by omega) (by omega)]; exact e46, nv.kn k0, by rw [k2 47 (by omega) (by omega)]; exact ea.kn k0 k1 nv.sch⟩
  | inr x =>
    obtain ⟨v, kk⟩ := x
    exact ⟨by rw [k2 49 (by omega) (by omega)]; exact hc.1, by rw [k2 48 (by omega) (by omega)]; exact hc.2⟩
theorem RunM.kn {T : Ty} {st : Nat} {c : Cf} (k0 : Knm N N' a b) (k1 : ∀ (p : Nat) (i : Int), 87 ≤ p → p ≤ 97 → N' p i = N p i) (k2 : ∀ i : Int, 43 ≤ i → i ≤ 59 → N' 56 i = N 56 i) (h : RunM N a b T st c) : RunM N' a b T st c := by
  obtain ⟨h1, h2, h3, h4, h5, h6⟩ := h
  exact ⟨by rw [k2 43 (by omega) (by omega)]; exact h1, by rw [k2 45 (by omega) (by omega)]; exact h2, h3, h4, h5.kn k0 k1 k2, by rw [k2 44 (by omega) (by omega)]; exact h6⟩
theorem TMm.kn {t : Ty} (k0 : Knm N N' a b) (e4 : N' 56 4 = N 56 4) (e29 : N' 56 29 = N 56 29) (h : TMm N a b t) : TMm N' a b t := by
  obtain ⟨h1, h2, h3, h4, h5, h6, h7, h8, h9, h10⟩ := h
  exact ⟨by rw [e4]; exact h1, by rw [e29]; exact h2, h3, h4, h5, h6, h7.kpg k0.1 k0.2 (by omega), h8, h9.kpg k0.1 k0.2, h10.same k0.1 k0.2⟩
theorem RunM.stl {T : Ty} {st : Nat} {c : Cf} (h : RunM N a b T st c) : Stl c := by
  rcases h.2.2.2.2.2 with ⟨hv, -⟩ | ⟨hm, -⟩
  · exact Or.inl hv
  · exact Or.inr hm
end PmI1
