/-! PAIRS WITHOUT A CHOICE, one scheme with bound Top looked at: which way is taken. -/
section PmWe
variable {f : Nat} {x y C : Ty} {Γ0 Δ1 : List Ty} {Δ : List (Nat × Ty × Nat)}
theorem noh_kq {κ : Ty → Bool} : ∀ (f : Nat) (t : Ty) (D : Nat) (τ : Nat → Bool), (flat t).length ≤ f → ok D t = true → noh 0 t = true → kq 0 κ τ D t = true
  | 0, t, D, τ, hf, o, _ => by have := flat_pos o; omega
  | f + 1, t, D, τ, hf, o, h1 => by
    have ih := fun t D τ => noh_kq (κ := κ) f t D τ
    rcases ok_cases o with rfl | ⟨j, hj, rfl⟩ | ⟨a, c, rfl, ha, hb⟩ | ⟨a, c, rfl, ha, hb⟩ | ⟨m, x, y, z, hm, rfl, g0, g1, g2⟩
    · exact kq_top _ _
    · exact kq_var _ _ _
    · rw [flat_fun, List.length_cons, List.length_append] at hf
      have h1 := noh_fun.mp h1
      exact kq_fun.mpr ⟨ih a D τ (by omega) ha h1.1, ih c D τ (by omega) hb h1.2⟩
    · rw [flat_all, List.length_cons, List.length_append] at hf
      have h1 := noh_all.mp h1
      exact kq_all.mpr ⟨fun e => absurd e h1.1, ih a D τ (by omega) ha h1.2.1, ih c (D + 1) _ (by omega) hb h1.2.2⟩
    · rw [flat_rec, List.length_cons, List.length_append, List.length_append] at hf
      have h1 := noh_rec.mp h1
      have key : ∀ (i : Nat) (p : Ty), (flat p).length ≤ f → okl D m i p → noh 0 p = true → kq 0 κ τ D p = true := by
        intro i p hp ho a1
        unfold okl at ho
        by_cases hb : bit m i = true
        · rw [if_pos hb] at ho
          exact ih p D τ hp ho a1
        · rw [if_neg hb] at ho
          rw [ho]
          exact kq_nil _ _
      exact kq_rec.mpr ⟨key 0 x (by omega) g0 h1.1, key 1 y (by omega) g1 h1.2.1, key 2 z (by omega) g2 h1.2.2⟩
theorem hd_long {d : Nat} {t : Ty} (o : ok d t = true) (h : 2 ≤ tch t) : hd t ≠ 0 ∧ hd t < 16 := by
  rcases ok_cases o with rfl | ⟨j, hj, rfl⟩ | ⟨a, c, rfl, ha, hb⟩ | ⟨a, c, rfl, ha, hb⟩ | ⟨m, x, y, z, hm, rfl, g0, g1, g2⟩
  · rw [tch_top] at h; omega
  · rw [tch_var] at h; omega
  · rw [hd_fun]; omega
  · rw [hd_all]; omega
  · rw [hd_rec]; omega
theorem HKd_or (hc : okc (cxs Δ1 Γ0 (tAll tTop C))) (k2 : 2 ≤ tch C) (n0 : ∀ b ∈ Γ0, noh 0 b = true) : HKd 0 tTop C Γ0 ∨ phf (Kis (kdt C)) C = true ∨ phl (updt (tauc Γ0) Γ0.length tTop) (Γ0.length + 1) C = true := by
  obtain ⟨oc0, oA⟩ := okc_low Δ1 hc
  have oC := (ok_all.mp oA).2
  obtain ⟨c0, c16⟩ := hd_long oC k2
  cases h1 : phf (Kis (kdt C)) C with
  | true => exact Or.inr (Or.inl rfl)
  | false =>
    cases h2 : phl (updt (tauc Γ0) Γ0.length tTop) (Γ0.length + 1) C with
    | true => exact Or.inr (Or.inr rfl)
    | false =>
      refine Or.inl ⟨⟨by decide, hd_top⟩, ⟨c0, c16⟩, fun j hj => ?_, kq_top _ _, kq_kind oC c16 _ C _ _ (Nat.le_refl _) oC h1 h2⟩
      exact noh_kq _ _ j _ (Nat.le_refl _) (okc_bnd oc0 hj) (n0 _ (bnd_mem Γ0 j hj))
/-- what is left of such pairs: a kind that no table has, a variable as a body, or a body that is too long -/
def Rst (C : Ty) (Γ0 : List Ty) (q1 q2 : Nat) : Prop := zfk 0 (tch C) q1 q2 = false ∧ (phl (updt (tauc Γ0) Γ0.length tTop) (Γ0.length + 1) C = true ∨ (kdt C = 2 ∧ phf (Kis 2) C = true) ∨ (35 ≤ tch C ∧ phf (Kis (kdt C)) C = true))
theorem pair_cf (x1 : TWf f (cxs Δ1 Γ0 (tAll tTop C)).length (Δ.map (fun a => a.1)) x) (x2 : TWf f (cxs Δ1 Γ0 (tAll tTop C)).length (Δ.map (fun a => a.1)) y) (he : TE (cxs Δ1 Γ0 (tAll tTop C)) Δ) (y1 : NAt f x) (y2 : NAt f y) (hv : noac (cxs Δ1 Γ0 (tAll tTop C))) (hd' : ∀ a ∈ Δ, noal a.2.1 = true) (c1 : CFt f x) (c2 : CFt f y) (s1 : smp f x) (s2 : smp f y) (n0 : ∀ b ∈ Γ0, noh 0 b = true) (k18 : 18 ≤ tch C) (h5 : 5 ≤ dch Δ) (hb : cch (cxs Δ1 Γ0 (tAll tTop C)) + dch Δ + (2 + (mch x + mch y)) ≤ 60) (h47 : cch (cxs Δ1 Γ0 (tAll tTop C)) ≤ 47) : PRn f x y (cxs Δ1 Γ0 (tAll tTop C)) Δ ∨ Rst C Γ0 (cch Γ0) (cch Δ1) := by
  obtain ⟨oc0, oA⟩ := okc_low Δ1 he.1
  have oC := (ok_all.mp oA).2
  have hs : (mch x ≤ mch y ∧ smp f x) ∨ (mch y ≤ mch x ∧ smp f y) := by
    by_cases c : mch x ≤ mch y
    · exact Or.inl ⟨c, s1⟩
    · exact Or.inr ⟨by omega, s2⟩
  have fl := fun z => Or.inl (b := Rst C Γ0 (cch Γ0) (cch Δ1)) (pair_flag x1 x2 he y1 y2 hv hd' hs z k18 h5 hb h47)
  rcases HKd_or he.1 (by omega) n0 with H | hp | hl
  · exact Or.inl (pair_long H x1 x2 he y1 y2 hv hd' c1 c2 s1 s2 k18 h5 hb h47)
  · cases hz : zfk 0 (tch C) (cch Γ0) (cch Δ1) with
    | true => exact fl (Or.inr (Or.inr (Or.inr ⟨phf_any _ C _ (Nat.le_refl _) oC hp, hz⟩)))
    | false =>
      by_cases c35 : 35 ≤ tch C
      · exact Or.inr ⟨hz, Or.inr (Or.inr ⟨c35, hp⟩)⟩
      · rcases kdt_cases oC with ⟨k, h⟩ | ⟨k, h⟩ | ⟨k, h⟩ | ⟨k, h⟩ | ⟨k, h⟩
        · rcases h with rfl | ⟨j, -, rfl⟩
          · rw [tch_top] at k18; omega
          · rw [tch_var] at k18; omega
        · rw [k] at hp
          exact fl (Or.inr (Or.inl ⟨k, hp, by omega⟩))
        · rw [k] at hp
          exact fl (Or.inr (Or.inr (Or.inl ⟨k, hp, by omega⟩)))
        · rw [k] at hp
          exact Or.inr ⟨hz, Or.inr (Or.inl ⟨k, hp⟩)⟩
        · rw [k] at hp
          exact fl (Or.inl ⟨k, hp, by omega⟩)
  · cases hz : zfk 0 (tch C) (cch Γ0) (cch Δ1) with
    | true => exact fl (Or.inr (Or.inr (Or.inr ⟨phl_any _ C _ _ (Nat.le_refl _) oC hl, hz⟩)))
    | false => exact Or.inr ⟨hz, Or.inl hl⟩
end PmWe
