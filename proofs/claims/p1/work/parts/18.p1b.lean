/-! readType and readTerm on fresh objects, computed. -/
def p1_post (σ : pm_S) : Prop := σ.2.2.2.2.1 ≤ 600000 ∧ σ.2.2.2.2.2 ≤ 7302250
/-- two calls, computed, that answer alike -/
def pm_ck (j1 j2 : Nat) (a : List Value) (σ : pm_S) : Bool := match pm_call 3000 30 j1 (.ref 1 :: a) σ with
  | some (some (.int x), σ1) => decide (56 ≤ σ1.2.2.2.2.1) && (decide (σ1.2.2.1 56 = 19) && (match pm_call 3000 30 j2 (.ref 56 :: a) σ1 with
    | some (some (.int y), σ2) => decide (x = y) && (decide (σ2.2.2.2.2.1 ≤ 600000) && decide (σ2.2.2.2.2.2 ≤ 7302250))
    | _ => false))
  | _ => false
theorem pm_ck_two {j1 j2 : Nat} {a : List Value} {σ : pm_S} (h : pm_ck j1 j2 a σ = true) : pm_two 30 j1 j2 a p1_post σ := by
  unfold pm_ck at h
  split at h
  · rename_i x σ1 hc
    simp only [Bool.and_eq_true, decide_eq_true_eq] at h
    obtain ⟨h1, h2, h3⟩ := h
    refine wc_run (Nat.le_refl _) hc ⟨⟨by decide, h1, h2⟩, ?_⟩
    split at h3
    · rename_i y σ2 hc2
      simp only [Bool.and_eq_true, decide_eq_true_eq] at h3
      obtain ⟨rfl, h4, h5⟩ := h3
      exact wc_run (Nat.le_refl _) hc2 ⟨x, rfl, rfl, h4, h5⟩
    · cases h3
  · cases h
theorem p1_ck : (pm_ck 2 173 [.int 0] pm_s4 && (pm_ck 2 173 [.int 1] pm_s4 && (pm_ck 2 173 [.int 2] pm_s4 && (pm_ck 2 173 [.int 3] pm_s4 && pm_ck 3 175 [] pm_s4)))) = true := by decide +kernel
theorem p1_cks : pm_ck 2 173 [.int 0] pm_s4 = true ∧ pm_ck 2 173 [.int 1] pm_s4 = true ∧ pm_ck 2 173 [.int 2] pm_s4 = true ∧ pm_ck 2 173 [.int 3] pm_s4 = true ∧ pm_ck 3 175 [] pm_s4 = true := by
  have h := p1_ck
  rw [Bool.and_eq_true, Bool.and_eq_true, Bool.and_eq_true, Bool.and_eq_true] at h
  exact h
theorem p1_tm : pm_two 30 3 175 [] p1_post pm_s4 := pm_ck_two p1_cks.2.2.2.2
