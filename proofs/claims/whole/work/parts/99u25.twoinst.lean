/-! TWO INSTANCES OF ONE BODY: their join is small where the arguments are. -/
/-- worth at most G -/
def Sml (G : Nat) (Γ : List Ty) (c : Ty) : Prop := (∀ b, mz b 1 Γ c ≤ G) ∧ gz Γ c ≤ G
/-- two arguments: one is worth little, or both are the same, or one is a variable whose bound is of another kind than the other one -/
def PRl (G : Nat) (Γ : List Ty) (c d : Ty) : Prop := (ok Γ.length c = true ∧ ok Γ.length d = true ∧ (flat c).length ≤ 16) ∧ (flat d).length ≤ 16 ∧ (Sml G Γ c ∨ Sml G Γ d ∨ c = d ∨ VK Γ c d ∨ VK Γ d c)
section PmUz
variable {G : Nat} {Γ : List Ty}
theorem PRl.sy (c d : Ty) (h : PRl G Γ c d) : PRl G Γ d c := by
  obtain ⟨⟨a1, a2, a3⟩, a4, a5⟩ := h
  refine ⟨⟨a2, a1, a4⟩, a3, ?_⟩
  rcases a5 with h | h | h | h | h
  · exact Or.inr (Or.inl h)
  · exact Or.inl h
  · exact Or.inr (Or.inr (Or.inl h.symm))
  · exact Or.inr (Or.inr (Or.inr (Or.inr h)))
  · exact Or.inr (Or.inr (Or.inr (Or.inl h)))
theorem sfx_app (Δ : List Ty) : sfx (Δ ++ Γ) Γ.length = Γ := by
  unfold sfx
  rw [List.length_append, Nat.add_sub_cancel]
  exact List.drop_left
theorem nz_ext {t0 s2 : Nat} {n1 hf : Nat → Nat} (hm : ∀ y y', y ≤ y' → hf y ≤ hf y') {c : Ty} (o : ok Γ.length c = true) (Δ : List Ty) : nz t0 n1 s2 hf (onz t0 n1 s2 hf (Δ ++ Γ)) (lft Γ.length Δ.length c) ≤ nz t0 n1 s2 hf (onz t0 n1 s2 hf Γ) c := by
  have l0 := onz_len t0 n1 s2 hf Γ
  have l1 := onz_len t0 n1 s2 hf (Δ ++ Γ)
  rw [List.length_append] at l1
  refine nz_lfm hm _ c _ _ (Nat.le_refl _) (by rw [l0]; exact Nat.le_refl _) (by rw [l0, l1]; omega) (by rw [l0]; exact o) (fun i hi => ?_)
  rw [l0] at hi
  rw [if_neg (by omega), onz_sub (Δ ++ Γ) Γ.length i (by rw [List.length_append]; omega) hi, sfx_app]
  exact Nat.le_refl _
theorem Sml.ext {c : Ty} (o : ok Γ.length c = true) (h : Sml G Γ c) (Δ : List Ty) : Sml G (Δ ++ Γ) (lft Γ.length Δ.length c) := ⟨fun b => Nat.le_trans (nz_ext (vlr_mono b 1) o Δ) (h.1 b), Nat.le_trans (nz_ext (fun y y' hy => hy) o Δ) h.2⟩
theorem sml_trx {c d : Ty} (tb : TB 1 (Γ, c, d)) (h : Sml G Γ c ∨ Sml G Γ d) : trx (Γ, c, d) ≤ G := by
  rcases h with h | h
  · exact Nat.le_trans (trx_nzS true tb) (h.1 true)
  · exact Nat.le_trans (trx_nzT true tb) (h.1 true)
theorem sml_gm {c d : Ty} {w : Nat} (w1 : w ≤ 1) (tb : TB 1 (Γ, c, d)) (h : Sml G Γ c ∨ Sml G Γ d) : gm (w, Γ, c, d) ≤ G ∧ gn (w, Γ, c, d) ≤ G := by
  rcases h with h | h
  · exact ⟨Nat.le_trans (Nat.le_trans (gm_rowsS (Nat.le_refl 1) (z := (w, Γ, c, d)) tb w1) (urm_nz (b := true) (e := 1) (w := w) tb.1.1 tb.1.2.1)) (h.1 true), Nat.le_trans (Nat.le_trans (gn_S (z := (w, Γ, c, d)) tb.1 w1) (ugS_nz tb.1.1 tb.1.2.1)) h.2⟩
  · exact ⟨Nat.le_trans (Nat.le_trans (gm_rowsT (Nat.le_refl 1) (z := (w, Γ, c, d)) tb w1) (urm_nz (b := false) (e := 1) (w := w) tb.1.1 tb.1.2.2)) (h.1 false), Nat.le_trans (Nat.le_trans (gn_T (z := (w, Γ, c, d)) tb.1 w1) (ugT_nz tb.1.1 tb.1.2.2)) h.2⟩
theorem PRl.hl (G16 : 16 ≤ G) (c d : Ty) (h : PRl G Γ c d) (Δ : List Ty) (tb : TB 1 (Δ ++ Γ, lft Γ.length Δ.length c, lft Γ.length Δ.length d)) : trx (Δ ++ Γ, lft Γ.length Δ.length c, lft Γ.length Δ.length d) ≤ G := by
  obtain ⟨⟨a1, a2, a3⟩, a4, a5⟩ := h
  rcases a5 with h | h | h | h | h
  rotate_left 3
  · have q := (h.all (w := 0) a2 Δ tb.1 (by decide)).1.1
    omega
  · have q := (h.all (w := 0) a1 Δ ⟨tb.1.1, tb.1.2.2, tb.1.2.1⟩ (by decide)).1.2
    omega
  · exact sml_trx tb (Or.inl (h.ext a1 Δ))
  · exact sml_trx tb (Or.inr (h.ext a2 Δ))
  · subst h
    have q := trf_refl (twt (Δ ++ Γ, lft Γ.length Δ.length c, lft Γ.length Δ.length c)) (Δ ++ Γ) (lft Γ.length Δ.length c) tb.1.1 tb.1.2.1
    have q2 := nsc_len _ (lft Γ.length Δ.length c) _ (Nat.le_refl _) tb.1.2.1
    have q3 : (flat (lft Γ.length Δ.length c)).length = (flat c).length := by rw [flat_lft, List.length_map]
    have q : trx (Δ ++ Γ, lft Γ.length Δ.length c, lft Γ.length Δ.length c) ≤ nsc (lft Γ.length Δ.length c) := q
    omega
theorem PRl.hg (G16 : 16 ≤ G) (c d : Ty) (h : PRl G Γ c d) (Δ : List Ty) (tb : TB 1 (Δ ++ Γ, lft Γ.length Δ.length c, lft Γ.length Δ.length d)) (w : Nat) (w1 : w ≤ 1) : gm (w, Δ ++ Γ, lft Γ.length Δ.length c, lft Γ.length Δ.length d) ≤ G ∧ gn (w, Δ ++ Γ, lft Γ.length Δ.length c, lft Γ.length Δ.length d) ≤ G := by
  obtain ⟨⟨a1, a2, a3⟩, a4, a5⟩ := h
  rcases a5 with h | h | h | h | h
  rotate_left 3
  · have q := (h.all (w := w) a2 Δ tb.1 w1).2.1
    exact ⟨by omega, by omega⟩
  · have q := (h.all (w := w) a1 Δ ⟨tb.1.1, tb.1.2.2, tb.1.2.1⟩ w1).2.2
    exact ⟨by omega, by omega⟩
  · exact sml_gm w1 tb (Or.inl (h.ext a1 Δ))
  · exact sml_gm w1 tb (Or.inr (h.ext a2 Δ))
  · subst h
    have q3 : (flat (lft Γ.length Δ.length c)).length = (flat c).length := by rw [flat_lft, List.length_map]
    have q := gm_refl (w := w) (Γ := Δ ++ Γ) (S := lft Γ.length Δ.length c) tb.1.1 tb.1.2.1 (by omega) (by omega)
    exact ⟨by omega, by omega⟩
/-- a join of two instances -/
theorem LJ_inst (G16 : 16 ≤ G) (G37 : G ≤ 37) {t c d : Ty} (h : PRl G Γ c d) (o : ok (Γ.length + 1) t = true) (lt : (flat t).length ≤ 16) (tb : TB 1 (Γ, sbt Γ.length c 0 t, sbt Γ.length d 0 t)) (hx : cch Γ ≤ 56) (lS : (flat (sbt Γ.length c 0 t)).length ≤ 16) (lT : (flat (sbt Γ.length d 0 t)).length ≤ 16) : LJ Γ (sbt Γ.length c 0 t) (sbt Γ.length d 0 t) := by
  have a1 := hgt_ctx tb.1.1 tb.1.2.1 lS hx
  have a2 := hgt_ctx tb.1.1 tb.1.2.2 lT hx
  have q := ali_gm (G := G) (Γ := Γ) (e := 1) (PR := PRl G Γ) (by omega) PRl.sy (PRl.hl G16) (PRl.hg G16) _ t c d [] 0 (by decide) (Nat.le_refl _) h o tb
  have m : G * (flat t).length ≤ 37 * 16 := Nat.mul_le_mul G37 lt
  have q : gm (0, Γ, sbt Γ.length c 0 t, sbt Γ.length d 0 t) ≤ G * (flat t).length ∧ gn (0, Γ, sbt Γ.length c 0 t, sbt Γ.length d 0 t) ≤ G * (flat t).length := q
  refine ⟨Nat.le_trans (Nat.add_le_add a1 a2) (by decide), ?_, ?_⟩
  · omega
  · omega
end PmUz
