/-! A TERM THAT HAS A TYPE RUNS WELL. -/
theorem mv_5 {t ρ v : Ty} {k : List Fr} (h : nKd t = 5) (e : elk ρ (nMk t) = some v) : mv (.inl (t, ρ, k)) = some (false, .inr (v, k)) := by
  show mvE t ρ k = _
  unfold mvE
  rw [if_pos h, e]; rfl
theorem mv_6 {t ρ : Ty} {k : List Fr} (h : nKd t = 6 ∨ nKd t = 8) : mv (.inl (t, ρ, k)) = some (false, .inr (vC t ρ, k)) := by
  show mvE t ρ k = _
  unfold mvE
  rw [if_neg (by omega), if_pos h]
theorem mv_x {t ρ : Ty} {k : List Fr} (h : nKd t = 7 ∨ nKd t = 9 ∨ nKd t = 11) : mv (.inl (t, ρ, k)) = some (false, .inl (nX t, ρ, (t, ρ, .nil, 0) :: k)) := by
  show mvE t ρ k = _
  unfold mvE
  rw [if_neg (by omega), if_neg (by omega), if_neg (by omega), if_neg (by omega)]
theorem mv_12 {t ρ : Ty} {k : List Fr} (h : nKd t = 12) : mv (.inl (t, ρ, k)) = some (true, .inl (if nMk t = 0 then nX t else nY t, ρ, k)) := by
  show mvE t ρ k = _
  unfold mvE
  rw [if_neg (by omega), if_neg (by omega), if_neg (by omega), if_pos h]
/-- where a record is gone on with, from label g on -/
def rGo (t ρ w : Ty) (k : List Fr) (g : Nat) : Cf := if nxl (nMk t) g < 3 then .inl (nP t (nxl (nMk t) g), ρ, (t, ρ, w, nxl (nMk t) g) :: k) else .inr (w, k)
theorem mv_10 {t ρ : Ty} {k : List Fr} (h : nKd t = 10) : mv (.inl (t, ρ, k)) = some (false, rGo t ρ (vR (nMk t) .nil .nil .nil) k 0) := by
  show mvE t ρ k = _
  unfold mvE rGo
  rw [if_neg (by omega), if_neg (by omega), if_pos h]
  by_cases c : nxl (nMk t) 0 < 3
  · rw [if_pos c, if_pos c]
  · rw [if_neg c, if_neg c]
theorem mvR_7a {t ρ w v : Ty} {k : List Fr} (h : nKd t = 7) : mv (.inr (v, (t, ρ, w, 0) :: k)) = some (false, .inl (nY t, ρ, (t, ρ, v, 1) :: k)) := by
  show mvR v ((t, ρ, w, 0) :: k) = _
  rw [mvR]
  rw [if_pos h, if_pos rfl]
theorem mvR_7b {t ρ t' ρ' v : Ty} {k : List Fr} (h : nKd t = 7) (h' : nKd t' = 6) : mv (.inr (v, (t, ρ, vC t' ρ', 1) :: k)) = some (true, .inl (nY t', eN (nPl t') v ρ', k)) := by
  show mvR v ((t, ρ, vC t' ρ', 1) :: k) = _
  rw [mvR]
  rw [if_pos h, if_neg (by omega), if_pos (show isC (vC t' ρ') 6 = true by show (nKd t' == 6) = true; rw [h']; rfl)]
  rfl
theorem mvR_9 {t ρ t' ρ' w : Ty} {g : Nat} {k : List Fr} (h : nKd t = 9) (h' : nKd t' = 8) : mv (.inr (vC t' ρ', (t, ρ, w, g) :: k)) = some (true, .inl (nY t', ρ', k)) := by
  show mvR (vC t' ρ') ((t, ρ, w, g) :: k) = _
  rw [mvR]
  rw [if_neg (by omega), if_pos h, if_pos (show isC (vC t' ρ') 8 = true by show (nKd t' == 8) = true; rw [h']; rfl)]
  rfl
theorem mvR_11 {t ρ w v : Ty} {g : Nat} {k : List Fr} (h : nKd t = 11) (h' : isR v (nMk t) = true) : mv (.inr (v, (t, ρ, w, g) :: k)) = some (true, .inr (rP v (nMk t), k)) := by
  show mvR v ((t, ρ, w, g) :: k) = _
  rw [mvR]
  rw [if_neg (by omega), if_neg (by omega), if_pos h, if_pos h']
theorem mvR_10 {t ρ w v : Ty} {g : Nat} {k : List Fr} (h : nKd t = 10) : mv (.inr (v, (t, ρ, w, g) :: k)) = some (false, rGo t ρ (sP w g v) k (g + 1)) := by
  show mvR v ((t, ρ, w, g) :: k) = _
  rw [mvR]; unfold rGo
  rw [if_neg (by omega), if_neg (by omega), if_neg (by omega)]
  by_cases c : nxl (nMk t) (g + 1) < 3
  · rw [if_pos c, if_pos c]
  · rw [if_neg c, if_neg c]
theorem nxl_a : ∀ m, m < 8 → ∀ g, g < 4 → (nxl m g ≤ 3 ∧ (nxl m g = 3 ∨ (g ≤ nxl m g ∧ bit m (nxl m g) = true))) := by decide
theorem nxl_b : ∀ m, m < 8 → ∀ g, g < 4 → ∀ i, i < 3 → (i < g ∨ nxl m g ≤ i ∨ bit m i = false) := by decide
theorem nxl_in {m g : Nat} (hm : m < 8) (hg : g < 4) (h : nxl m g < 3) : g ≤ nxl m g ∧ bit m (nxl m g) = true ∧ ∀ i, i < 3 → g ≤ i → i < nxl m g → bit m i = false := by
  rcases (nxl_a m hm g hg).2 with c | c
  · omega
  · refine ⟨c.1, c.2, fun i hi h1 h2 => ?_⟩
    rcases nxl_b m hm g hg i hi with q | q | q
    · omega
    · omega
    · exact q
theorem nxl_out {m g : Nat} (hm : m < 8) (hg : g < 4) (h : ¬ nxl m g < 3) : ∀ i, i < 3 → g ≤ i → bit m i = false := by
  intro i hi h1
  rcases nxl_b m hm g hg i hi with q | q | q
  · omega
  · omega
  · exact q
theorem rP_sP {m g i : Nat} {a b c v : Ty} (hi : i < 3) (hg : g < 3) : rP (sP (vR m a b c) g v) i = if i = g then v else rP (vR m a b c) i := by
  have h1 : g = 0 ∨ g = 1 ∨ g = 2 := by omega
  have h2 : i = 0 ∨ i = 1 ∨ i = 2 := by omega
  rcases h1 with rfl | rfl | rfl <;> rcases h2 with rfl | rfl | rfl <;> rfl
theorem sP_is (m g : Nat) (a b c v : Ty) : ∃ a' b' c', sP (vR m a b c) g v = vR m a' b' c' := by
  show ∃ a' b' c', (if g = 0 then vR m v b c else if g = 1 then vR m a v c else vR m a b v) = _
  by_cases c0 : g = 0
  · rw [if_pos c0]; exact ⟨_, _, _, rfl⟩
  · rw [if_neg c0]
    by_cases c1 : g = 1
    · rw [if_pos c1]; exact ⟨_, _, _, rfl⟩
    · rw [if_neg c1]; exact ⟨_, _, _, rfl⟩
/-- the environment has a value for every variable -/
def EnvOk (Γ : List Ty) (Δ : List (Nat × Ty × Nat)) (ξ : List Pr) (n : Nat) (ρ : Ty) : Prop := ∀ m A d, dlk Δ m = some (A, d) → ∃ v, elk ρ m = some v ∧ sem ξ (lft d (Γ.length - d) A) n v
theorem EnvOk.le {Γ : List Ty} {Δ : List (Nat × Ty × Nat)} {ξ : List Pr} {n m : Nat} {ρ : Ty} (h : EnvOk Γ Δ ξ n ρ) (he : TE Γ Δ) (hm : mdl Γ ξ) (hl : m ≤ n) : EnvOk Γ Δ ξ m ρ := by
  intro q A d hd
  obtain ⟨v, e, hv⟩ := h q A d hd
  obtain ⟨e1, e2, e3⟩ := he.2.2 _ (dlk_mem hd)
  have e1 : d ≤ Γ.length := e1
  have e2 : ok d A = true := e2
  have ho := ok_lft d (Γ.length - d) A 0 e2
  rw [show d + (Γ.length - d) + 0 = ξ.length by rw [hm.1]; omega] at ho
  exact ⟨v, e, (sem_dc ξ hm.dcs _ _ (Nat.le_refl _) ho).le hl hv⟩
theorem EnvOk.lam {Γ : List Ty} {Δ : List (Nat × Ty × Nat)} {ξ : List Pr} {n p : Nat} {ρ w A : Ty} (h : EnvOk Γ Δ ξ n ρ) (hm : mdl Γ ξ) (hA : ok Γ.length A = true) (hw : sem ξ A n w) : EnvOk Γ ((p, A, Γ.length) :: Δ) ξ n (eN p w ρ) := by
  intro m B d hd
  have hd : (if p = m then some (A, Γ.length) else dlk Δ m) = some (B, d) := hd
  rw [elk_eN]
  by_cases c : p = m
  · rw [if_pos c] at hd ⊢
    cases hd
    refine ⟨w, rfl, ?_⟩
    have e := sem_bnd ξ Γ.length A (by rw [hm.1]; exact Nat.le_refl _) hA
    rw [hm.1] at e
    rw [e, Nat.sub_self]
    exact hw
  · rw [if_neg c] at hd ⊢
    exact h m B d hd
theorem EnvOk.all {Γ : List Ty} {Δ : List (Nat × Ty × Nat)} {ξ : List Pr} {n : Nat} {ρ C : Ty} {p : Pr} (h : EnvOk Γ Δ ξ n ρ) (he : TE Γ Δ) (hm : mdl Γ ξ) : EnvOk (C :: Γ) Δ (p :: ξ) n ρ := by
  intro m B d hd
  obtain ⟨v, e, hv⟩ := h m B d hd
  obtain ⟨e1, e2, e3⟩ := he.2.2 _ (dlk_mem hd)
  have e1 : d ≤ Γ.length := e1
  have e2 : ok d B = true := e2
  refine ⟨v, e, ?_⟩
  have q1 := sem_bnd (p :: ξ) d B (by rw [List.length_cons, hm.1]; omega) e2
  have q2 := sem_bnd ξ d B (by rw [hm.1]; omega) e2
  rw [List.length_cons, hm.1, show Γ.length + 1 - d = (Γ.length - d) + 1 by omega, List.drop_succ_cons] at q1
  rw [hm.1] at q2
  rw [List.length_cons, show Γ.length + 1 - d = (Γ.length - d) + 1 by omega, q1, ← q2]
  exact hv
/-- a record, part by part -/
theorem rec_go {ξ : List Pr} {t ρ : Ty} {k : List Fr} {n : Nat} {X : Nat → Ty} (h : nKd t = 10) (hk8 : nMk t < 8) (hd : ∀ i, i < 3 → dc (sem ξ (X i))) (hx : ∀ i, i < 3 → bit (nMk t) i = true → Ex (sem ξ (X i)) n (nP t i) ρ) (hn : ∀ i, i < 3 → bit (nMk t) i = false → X i = .nil) (hk : ∀ m, m ≤ n → ∀ v, sem ξ (tRec (nMk t) (X 0) (X 1) (X 2)) m v → Sf m (.inr (v, k))) : ∀ (q g : Nat), g + q = 3 → ∀ (j : Nat) (a b c : Ty), j ≤ n → (∀ i, i < 3 → i < g → bit (nMk t) i = true → sem ξ (X i) j (rP (vR (nMk t) a b c) i)) → Sf j (rGo t ρ (vR (nMk t) a b c) k g)
  | q, g, hq, j, a, b, c, hj, hp => by
    unfold rGo
    by_cases cc : nxl (nMk t) g < 3
    · rw [if_pos cc]
      obtain ⟨i1, i2, i3⟩ := nxl_in hk8 (g := g) (by omega) cc
      refine hx _ cc i2 j hj _ (fun m hm v hv => ?_)
      cases m with
      | zero => trivial
      | succ m =>
        refine Sf.step (mvR_10 h) ?_
        obtain ⟨a', b', c', e⟩ := sP_is (nMk t) (nxl (nMk t) g) a b c v
        have hq' : q ≠ 0 := by omega
        rw [e]
        refine rec_go h hk8 hd hx hn hk (3 - (nxl (nMk t) g + 1)) (nxl (nMk t) g + 1) (by omega) m a' b' c' (by omega) (fun i hi hi2 hb => ?_)
        rw [← e, rP_sP hi cc]
        by_cases ci : i = nxl (nMk t) g
        · rw [if_pos ci, ci]; exact hd _ cc m v hv
        · rw [if_neg ci]
          have hig : i < g := by
            by_cases cg : i < g
            · exact cg
            · have := i3 i hi (by omega) (by omega)
              rw [hb] at this; cases this
          exact (hd i hi).le (by omega) (hp i hi hig hb)
    · rw [if_neg cc]
      have i3 := nxl_out hk8 (g := g) (by omega) cc
      refine hk j hj _ ?_
      have key : ∀ i, i < 3 → sem ξ (X i) j (rP (vR (nMk t) a b c) i) := by
        intro i hi
        by_cases hb : bit (nMk t) i = true
        · refine hp i hi ?_ hb
          by_cases cg : i < g
          · exact cg
          · have := i3 i hi (by omega)
            rw [hb] at this; cases this
        · rw [hn i hi (by simpa using hb), sem_nil]; trivial
      rw [sem_rec]
      exact ⟨nMk t, a, b, c, rfl, fun g hg hb => hb, key 0 (by omega), key 1 (by omega), key 2 (by omega)⟩
termination_by q => q
