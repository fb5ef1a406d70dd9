/-! A JOIN OF TWO TYPES THAT AGREE DOWN TO PAIRS OF WHICH ONE IS WORTH LITTLE, OR BOTH ARE THE SAME. -/
def PRd (G : Nat) (Γ : List Ty) (c d : Ty) : Prop := Sml G Γ c ∨ Sml G Γ d ∨ (c = d ∧ (flat c).length ≤ 16) ∨ VK Γ c d ∨ VK Γ d c
section PmVg
variable {G : Nat} {Γ : List Ty}
theorem PRd.sy (Γ : List Ty) (c d : Ty) (h : PRd G Γ c d) : PRd G Γ d c := by
  rcases h with h | h | h | h | h
  · exact Or.inr (Or.inl h)
  · exact Or.inl h
  · exact Or.inr (Or.inr (Or.inl ⟨h.1.symm, h.1 ▸ h.2⟩))
  · exact Or.inr (Or.inr (Or.inr (Or.inr h)))
  · exact Or.inr (Or.inr (Or.inr (Or.inl h)))
theorem VK.here {c d : Ty} {w : Nat} (v : VK Γ c d) (tk : tok (Γ, c, d)) (w1 : w ≤ 1) : (trx (Γ, c, d) ≤ 2 ∧ trx (Γ, d, c) ≤ 2) ∧ (gm (w, Γ, c, d) ≤ 2 ∧ gn (w, Γ, c, d) ≤ 2) ∧ gm (w, Γ, d, c) ≤ 2 ∧ gn (w, Γ, d, c) ≤ 2 := by
  obtain ⟨j, hj, rfl, h0, h1, h2, h3, h4⟩ := v
  have q := var_kind (w := w) w1 tk h0 (by omega) h2 h3 h4
  omega
theorem PRd.hl (G16 : 16 ≤ G) (Γ : List Ty) (c d : Ty) (h : PRd G Γ c d) (tb : TB 1 (Γ, c, d)) : trx (Γ, c, d) ≤ G := by
  rcases h with h | h | h | h | h
  · exact sml_trx tb (Or.inl h)
  · exact sml_trx tb (Or.inr h)
  · obtain ⟨rfl, hl⟩ := h
    have q : trx (Γ, c, c) ≤ nsc c := trf_refl (twt (Γ, c, c)) Γ c tb.1.1 tb.1.2.1
    have q2 := nsc_len _ c _ (Nat.le_refl _) tb.1.2.1
    omega
  · have q := (h.here (w := 0) tb.1 (by decide)).1.1
    omega
  · have q := (h.here (w := 0) ⟨tb.1.1, tb.1.2.2, tb.1.2.1⟩ (by decide)).1.2
    omega
theorem PRd.hg (G16 : 16 ≤ G) (Γ : List Ty) (c d : Ty) (h : PRd G Γ c d) (tb : TB 1 (Γ, c, d)) (w : Nat) (w1 : w ≤ 1) : gm (w, Γ, c, d) ≤ G ∧ gn (w, Γ, c, d) ≤ G := by
  rcases h with h | h | h | h | h
  · exact sml_gm w1 tb (Or.inl h)
  · exact sml_gm w1 tb (Or.inr h)
  · obtain ⟨rfl, hl⟩ := h
    have q := gm_refl (w := w) (Γ := Γ) (S := c) tb.1.1 tb.1.2.1 hl (by omega)
    exact ⟨by omega, by omega⟩
  · have q := (h.here (w := w) tb.1 w1).2.1
    exact ⟨by omega, by omega⟩
  · have q := (h.here (w := w) ⟨tb.1.1, tb.1.2.2, tb.1.2.1⟩ w1).2.2
    exact ⟨by omega, by omega⟩
theorem LJ_agr (G16 : 16 ≤ G) {f n : Nat} {S T : Ty} (hn : G * n ≤ 597) (h : Agr (PRd G) f Γ S T n) (tb : TB 1 (Γ, S, T)) (hx : cch Γ ≤ 56) (lS : (flat S).length ≤ 16) (lT : (flat T).length ≤ 16) : LJ Γ S T := by
  have a1 := hgt_ctx tb.1.1 tb.1.2.1 lS hx
  have a2 := hgt_ctx tb.1.1 tb.1.2.2 lT hx
  have q := agr_gm (G := G) (e := 1) (PR := PRd G) (by omega) PRd.sy (PRd.hl G16) (PRd.hg G16) f Γ S T n 0 (by decide) h tb
  exact ⟨Nat.le_trans (Nat.add_le_add a1 a2) (by decide), by omega, by omega⟩
theorem LB_agr (G16 : 16 ≤ G) {f n : Nat} {S T : Ty} (hn : G * n ≤ 887) (h : Agr (PRd G) f Γ S T n) (tb : TB 1 (Γ, S, T)) (hx : cch Γ ≤ 56) (lS : (flat S).length ≤ 16) (lT : (flat T).length ≤ 16) : LB Γ S T := by
  have a1 := hgt_ctx tb.1.1 tb.1.2.1 lS hx
  have a2 := hgt_ctx tb.1.1 tb.1.2.2 lT hx
  have q := agr_trx (G := G) (e := 1) (PR := PRd G) (by omega) PRd.sy (PRd.hl G16) f Γ S T n h tb
  have a4 := len_cch Γ
  exact ⟨Nat.le_trans (Nat.add_le_add a1 a2) (by decide), by omega, by omega⟩
end PmVg
