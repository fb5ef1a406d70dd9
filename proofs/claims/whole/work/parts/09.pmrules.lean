/-! RULES: what must hold for the picture machine to come to an answer with Q; one rule an instruction; no fuel in sight. -/
theorem pm_exec_mono {X : pm_X} {C C' : pm_O} (hC : ∀ j as σ x, C j as σ = some x → C' j as σ = some x) : ∀ (f f' : Nat), f ≤ f' → ∀ (mi pc : Nat) (ls : pm_L) (st : List Value) (σ : pm_S) (x : Option Value × pm_S), pm_exec X C f mi pc ls st σ = some x → pm_exec X C' f' mi pc ls st σ = some x
  | 0, _, _, _, _, _, _, _, _, h => by cases h
  | f + 1, 0, hf, _, _, _, _, _, _, _ => by omega
  | f + 1, f' + 1, hf, mi, pc, ls, st, σ, x, h => by
    have ih := pm_exec_mono (X := X) hC f f' (by omega)
    unfold pm_exec at h ⊢
    cases hd : decode (pm_code mi) pc with
    | error e => rw [hd] at h; cases h
    | ok il =>
      obtain ⟨i, len⟩ := il
      rw [hd] at h
      simp only at h ⊢
      cases hr : pm_ret (pm_rk mi) i st with
      | some r => rw [hr] at h; exact h
      | none =>
        rw [hr] at h
        simp only at h ⊢
        cases hi : pm_inv (pm_ow mi) i st σ with
        | some q =>
          obtain ⟨j, as, rest⟩ := q
          rw [hi] at h
          simp only at h ⊢
          by_cases hl : len = 3
          · rw [if_pos hl] at h ⊢
            cases hc : C j as σ with
            | none => rw [hc] at h; cases h
            | some y =>
              rw [hc] at h
              rw [hC _ _ _ _ hc]
              exact ih _ _ _ _ _ _ h
          · rw [if_neg hl] at h; cases h
        | none =>
          rw [hi] at h
          simp only at h ⊢
          cases hs : pm_step X (pm_ow mi) (pm_kd mi) pc len i ls st σ with
          | none => rw [hs] at h; cases h
          | some y =>
            obtain ⟨a1, a2, a3, a4⟩ := y
            rw [hs] at h
            exact ih _ _ _ _ _ _ h
theorem pm_call_mono {F F' : Nat} (hF : F ≤ F') : ∀ (d d' : Nat), d ≤ d' → ∀ (j : Nat) (as : List Value) (σ : pm_S) (x : Option Value × pm_S), pm_call F d j as σ = some x → pm_call F' d' j as σ = some x
  | 0, _, _, _, _, _, _, h => by cases h
  | d + 1, 0, hd, _, _, _, _, _ => by omega
  | d + 1, d' + 1, hd, j, as, σ, x, h => by
    unfold pm_call at h ⊢
    split at h
    · rename_i hc
      rw [if_pos hc]
      exact pm_exec_mono (pm_call_mono hF d d' (by omega)) F F' hF _ _ _ _ _ _ h
    · cases h
def pm_Wp (X : pm_X) (d mi pc : Nat) (ls : pm_L) (st : List Value) (σ : pm_S) (Q : Option Value → pm_S → Prop) : Prop := ∃ (F f : Nat) (r : Option Value) (σ' : pm_S), pm_exec X (pm_call F d) f mi pc ls st σ = some (r, σ') ∧ Q r σ'
def pm_Wc (d j : Nat) (as : List Value) (σ : pm_S) (Q : Option Value → pm_S → Prop) : Prop := ∃ (F : Nat) (r : Option Value) (σ' : pm_S), pm_call F d j as σ = some (r, σ') ∧ Q r σ'
section PmR
variable {X : pm_X} {d mi pc len : Nat} {ls : pm_L} {st : List Value} {σ : pm_S} {Q Q' : Option Value → pm_S → Prop} {i : Jvm.ClassFile.Instr}
theorem wc_mono {j : Nat} {as : List Value} (h : pm_Wc d j as σ Q) (hq : ∀ r σ', Q r σ' → Q' r σ') : pm_Wc d j as σ Q' := by
  obtain ⟨F, r, σ', h1, h2⟩ := h
  exact ⟨F, r, σ', h1, hq _ _ h2⟩
theorem wc_deep {j d' : Nat} {as : List Value} (hd : d ≤ d') (h : pm_Wc d j as σ Q) : pm_Wc d' j as σ Q := by
  obtain ⟨F, r, σ', h1, h2⟩ := h
  exact ⟨F, r, σ', pm_call_mono (Nat.le_refl _) d d' hd _ _ _ _ h1, h2⟩
theorem wp_mono (h : pm_Wp X d mi pc ls st σ Q) (hq : ∀ r σ', Q r σ' → Q' r σ') : pm_Wp X d mi pc ls st σ Q' := by
  obtain ⟨F, f, r, σ', h1, h2⟩ := h
  exact ⟨F, f, r, σ', h1, hq _ _ h2⟩
theorem wc_of {j : Nat} {as : List Value} (hj : j < pm_cnt) (h1 : as.length ≤ pm_max j) (h2 : as.all pm_vc = true) (h : pm_Wp none d j 0 (pm_in j as) [] σ Q) : pm_Wc (d + 1) j as σ Q := by
  obtain ⟨F, f, r, σ', g1, g2⟩ := h
  refine ⟨max F f, r, σ', ?_, g2⟩
  unfold pm_call
  rw [if_pos (by simp [hj, h1, h2])]
  exact pm_exec_mono (pm_call_mono (Nat.le_max_left _ _) d d (Nat.le_refl _)) f _ (Nat.le_max_right _ _) _ _ _ _ _ _ g1
theorem wp_ret {r : Option Value} (hd : decode (pm_code mi) pc = .ok (i, 1)) (hr : pm_ret (pm_rk mi) i st = some r) (h : Q r σ) : pm_Wp X d mi pc ls st σ Q := by
  refine ⟨0, 1, r, σ, ?_, h⟩
  unfold pm_exec
  rw [hd]
  simp only
  rw [hr]
  rfl
theorem wp_call {j : Nat} {as rest : List Value} (hd : decode (pm_code mi) pc = .ok (i, 3)) (hr : pm_ret (pm_rk mi) i st = none) (hi : pm_inv (pm_ow mi) i st σ = some (j, as, rest)) (h : pm_Wc d j as σ (fun r σ1 => pm_Wp X d mi (pc + 3) ls (r.toList ++ rest) σ1 Q)) : pm_Wp X d mi pc ls st σ Q := by
  obtain ⟨F1, r1, σ1, g1, F2, f, r, σ', g2, g3⟩ := h
  refine ⟨max F1 F2, f + 1, r, σ', ?_, g3⟩
  unfold pm_exec
  rw [hd]
  simp only
  rw [hr]
  simp only
  rw [hi]
  simp only [if_true]
  rw [pm_call_mono (Nat.le_max_left _ _) d d (Nat.le_refl _) _ _ _ _ g1]
  exact pm_exec_mono (pm_call_mono (Nat.le_max_right _ _) d d (Nat.le_refl _)) f f (Nat.le_refl _) _ _ _ _ _ _ g2
theorem wp_step {pc' : Nat} {ls' : pm_L} {st' : List Value} {σ1 : pm_S} (hd : decode (pm_code mi) pc = .ok (i, len)) (hr : pm_ret (pm_rk mi) i st = none) (hi : pm_inv (pm_ow mi) i st σ = none) (hs : pm_step X (pm_ow mi) (pm_kd mi) pc len i ls st σ = some (pc', ls', st', σ1)) (h : pm_Wp X d mi pc' ls' st' σ1 Q) : pm_Wp X d mi pc ls st σ Q := by
  obtain ⟨F, f, r, σ', g1, g2⟩ := h
  refine ⟨F, f + 1, r, σ', ?_, g2⟩
  unfold pm_exec
  rw [hd]
  simp only
  rw [hr]
  simp only
  rw [hi]
  simp only
  rw [hs]
  exact g1
/-- some steps at once, neither calls nor returns: by computing -/
def pm_adv (X : pm_X) (mi : Nat) : Nat → Nat × pm_L × List Value × pm_S → Option (Nat × pm_L × List Value × pm_S)
  | 0, g => some g
  | n + 1, g => match decode (pm_code mi) g.1 with
    | .ok (i, len) => match pm_ret (pm_rk mi) i g.2.2.1 with
      | some _ => none
      | none => match pm_inv (pm_ow mi) i g.2.2.1 g.2.2.2 with
        | some _ => none
        | none => match pm_step X (pm_ow mi) (pm_kd mi) g.1 len i g.2.1 g.2.2.1 g.2.2.2 with
          | some g' => pm_adv X mi n g'
          | none => none
    | .error _ => none
theorem wp_adv : ∀ (n : Nat) (pc : Nat) (ls : pm_L) (st : List Value) (σ : pm_S) (g : Nat × pm_L × List Value × pm_S), pm_adv X mi n (pc, ls, st, σ) = some g → pm_Wp X d mi g.1 g.2.1 g.2.2.1 g.2.2.2 Q → pm_Wp X d mi pc ls st σ Q
  | 0, _, _, _, _, _, h, k => by cases h; exact k
  | n + 1, pc, ls, st, σ, g, h, k => by
    unfold pm_adv at h
    simp only at h
    split at h
    · rename_i i len hd
      split at h
      · cases h
      · rename_i hr
        split at h
        · cases h
        · rename_i hi
          split at h
          · rename_i g' hs
            obtain ⟨a1, a2, a3, a4⟩ := g'
            exact wp_step hd hr hi hs (wp_adv n a1 a2 a3 a4 g h k)
          · cases h
    · cases h
end PmR
