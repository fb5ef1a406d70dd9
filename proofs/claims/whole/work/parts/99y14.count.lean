/-! SCHEMES WITH BOUND TOP, choices and operations: how many characters they take. -/
section PmWe
variable {f : Nat} {x y C : Ty} {Γ0 Δ1 : List Ty} {Δ : List (Nat × Ty × Nat)}
theorem noh_kq {κ : Ty → Bool} : ∀ (f : Nat) (t : Ty) (D : Nat) (τ : Nat → Bool), (flat t).length ≤ f → ok D t = true → noh 0 t = true → kq 0 κ τ D t = true
  | 0, t, D, τ, hf, o, _ => by have := flat_pos o; omega
  | f + 1, t, D, τ, hf, o, h1 => by
    have ih := fun t D τ => noh_kq (κ := κ) f t D τ
    rcases ok_cases o with rfl | ⟨j, hj, rfl⟩ | ⟨a, c, rfl, ha, hb⟩ | ⟨a, c, rfl, ha, hb⟩ | ⟨m, x, y, z, hm, rfl, g0, g1, g2⟩
    · exact kq_top _ _
    · exact kq_var _ _ _
    · rw [flat_fun, List.length_cons, List.length_append] at hf
      have h1 := noh_fun.mp h1
      exact kq_fun.mpr ⟨ih a D τ (by omega) ha h1.1, ih c D τ (by omega) hb h1.2⟩
    · rw [flat_all, List.length_cons, List.length_append] at hf
      have h1 := noh_all.mp h1
      exact kq_all.mpr ⟨fun e => absurd e h1.1, ih a D τ (by omega) ha h1.2.1, ih c (D + 1) _ (by omega) hb h1.2.2⟩
    · rw [flat_rec, List.length_cons, List.length_append, List.length_append] at hf
      have h1 := noh_rec.mp h1
      have key : ∀ (i : Nat) (p : Ty), (flat p).length ≤ f → okl D m i p → noh 0 p = true → kq 0 κ τ D p = true := by
        intro i p hp ho a1
        unfold okl at ho
        by_cases hb : bit m i = true
        · rw [if_pos hb] at ho
          exact ih p D τ hp ho a1
        · rw [if_neg hb] at ho
          rw [ho]
          exact kq_nil _ _
      exact kq_rec.mpr ⟨key 0 x (by omega) g0 h1.1, key 1 y (by omega) g1 h1.2.1, key 2 z (by omega) g2 h1.2.2⟩
theorem hd_long {d : Nat} {t : Ty} (o : ok d t = true) (h : 2 ≤ tch t) : hd t ≠ 0 ∧ hd t < 16 := by
  rcases ok_cases o with rfl | ⟨j, hj, rfl⟩ | ⟨a, c, rfl, ha, hb⟩ | ⟨a, c, rfl, ha, hb⟩ | ⟨m, x, y, z, hm, rfl, g0, g1, g2⟩
  · rw [tch_top] at h; omega
  · rw [tch_var] at h; omega
  · rw [hd_fun]; omega
  · rw [hd_all]; omega
  · rw [hd_rec]; omega
theorem HKd_or (hc : okc (cxs Δ1 Γ0 (tAll tTop C))) (k2 : 2 ≤ tch C) (n0 : ∀ b ∈ Γ0, noh 0 b = true) : HKd 0 tTop C Γ0 ∨ phf (Kis (kdt C)) C = true ∨ phl (updt (tauc Γ0) Γ0.length tTop) (Γ0.length + 1) C = true := by
  obtain ⟨oc0, oA⟩ := okc_low Δ1 hc
  have oC := (ok_all.mp oA).2
  obtain ⟨c0, c16⟩ := hd_long oC k2
  cases h1 : phf (Kis (kdt C)) C with
  | true => exact Or.inr (Or.inl rfl)
  | false =>
    cases h2 : phl (updt (tauc Γ0) Γ0.length tTop) (Γ0.length + 1) C with
    | true => exact Or.inr (Or.inr rfl)
    | false =>
      refine Or.inl ⟨⟨by decide, hd_top⟩, ⟨c0, c16⟩, fun j hj => ?_, kq_top _ _, kq_kind oC c16 _ C _ _ (Nat.le_refl _) oC h1 h2⟩
      exact noh_kq _ _ j _ (Nat.le_refl _) (okc_bnd oc0 hj) (n0 _ (bnd_mem Γ0 j hj))
end PmWe
/-- a text with such a scheme has six characters -/
theorem noh_six {d : Nat} {b : Ty} (o : ok d b = true) (h : noh 0 b = false) : 6 ≤ tch b := by
  by_cases c : 6 ≤ tch b
  · exact c
  · exfalso
    obtain ⟨p, hp, -⟩ := fk_any1 o (by omega) (nph b h)
    have key : ∀ k, k < 6 → frg xfa1 k = [] := by decide +kernel
    rw [key _ (by omega)] at hp
    cases hp
section PmWx
variable {f : Nat} {x y C : Ty} {Γ0 Δ1 : List Ty} {Δ : List (Nat × Ty × Nat)}
theorem HKd_noh (hc : okc (cxs Δ1 Γ0 (tAll tTop C))) (k2 : 2 ≤ tch C) (nC : noh 0 C = true) (n0 : ∀ b ∈ Γ0, noh 0 b = true) : HKd 0 tTop C Γ0 := by
  obtain ⟨oc0, oA⟩ := okc_low Δ1 hc
  have oC := (ok_all.mp oA).2
  refine ⟨⟨by decide, hd_top⟩, hd_long oC k2, fun j hj => ?_, kq_top _ _, noh_kq _ C _ _ (Nat.le_refl _) oC nC⟩
  exact noh_kq _ _ j _ (Nat.le_refl _) (okc_bnd oc0 hj) (n0 _ (bnd_mem Γ0 j hj))
end PmWx
/-! HOW MANY CHARACTERS a scheme with bound Top, a choice, an operation take in a term. -/
/-- no operation -/
def NOp : Nat → Ty → Prop
  | 0, _ => True
  | f + 1, t => (nKd t = 6 ∨ nKd t = 8 → NOp f (nY t)) ∧ (nKd t ≠ 7 ∧ nKd t ≠ 9 ∧ nKd t ≠ 11) ∧ (nKd t = 10 → ∀ g, g < 3 → bit (nMk t) g = true → NOp f (nP t g)) ∧ (nKd t = 12 → NOp f (nX t) ∧ NOp f (nY t))
theorem NOp_CO : ∀ (f : Nat) (t : Ty), NOp f t → COk f t 0
  | 0, _, _ => trivial
  | f + 1, t, ⟨a, b, c, d⟩ => ⟨fun k => NOp_CO f _ (a k), fun k => absurd k (by omega), fun k g hg hb => NOp_CO f _ (c k g hg hb), fun k => ⟨rfl, NOp_CO f _ (d k).1, NOp_CO f _ (d k).2⟩⟩
theorem CF_all : ∀ (f : Nat) (t : Ty) (n : Nat), CFt f t → COk f t n := CF_CO
theorem NOp_EX : ∀ (f : Nat) (t : Ty) (Γ : List Ty) (Δ : List (Nat × Ty × Nat)), NOp f t → EX0 f t Γ Δ
  | 0, _, _, _, _ => trivial
  | f + 1, t, Γ, Δ, ⟨a, b, c, d⟩ => ⟨fun k => NOp_EX f _ _ _ (a (Or.inl k)), fun k => absurd k (by omega), fun k => NOp_EX f _ _ _ (a (Or.inr k)), fun k => absurd k (by omega), fun k g hg hb => NOp_EX f _ _ _ (c k g hg hb), fun k => ⟨NOp_EX f _ _ _ (d k).1, NOp_EX f _ _ _ (d k).2⟩⟩
/-- a: a scheme with bound Top, b: a choice, c: an operation -/
theorem chr_min : ∀ (f D : Nat) (sc : List Nat) (t : Ty), TWf f D sc t → ∃ a b c, 1 + a + b + c ≤ mch t ∧ (NHt 0 f t ∨ 5 ≤ a) ∧ (CFt f t ∨ 3 ≤ b) ∧ (NOp f t ∨ 2 ≤ c)
  | 0, _, _, _, h => h.elim
  | f + 1, D, sc, t, h => by
    have ih := fun D sc t => chr_min f D sc t
    obtain ⟨⟨kk, e, nl, -⟩, -, w6, w7, w8, w9, w10, w11, -⟩ := h
    have em := mch_is e
    by_cases k5 : nKd t = 5
    · rw [if_pos k5] at em
      exact ⟨0, 0, 0, by omega, Or.inl ⟨fun c => by omega, fun c => by omega, fun c => by omega, fun c => by omega, fun c => by omega, fun c => by omega⟩, Or.inl ⟨fun c => by omega, fun c => by omega, fun c => by omega, by omega⟩, Or.inl ⟨fun c => by omega, by omega, fun c => by omega, fun c => by omega⟩⟩
    rw [if_neg k5] at em
    by_cases k6 : nKd t = 6
    · rw [if_pos (Or.inl k6)] at em
      obtain ⟨-, o, -, wy⟩ := w6 k6
      obtain ⟨a, b, c, l, h1, h2, h3⟩ := ih _ _ _ wy
      have B : CFt (f + 1) t ∨ 3 ≤ b := h2.imp (fun q => ⟨fun _ => q, fun c => by omega, fun c => by omega, by omega⟩) id
      have C : NOp (f + 1) t ∨ 2 ≤ c := h3.imp (fun q => ⟨fun _ => q, by omega, fun c => by omega, fun c => by omega⟩) id
      by_cases n : noh 0 (nX t) = true
      · exact ⟨a, b, c, by omega, h1.imp (fun q => ⟨fun _ => ⟨n, q⟩, fun c => by omega, fun c => by omega, fun c => by omega, fun c => by omega, fun c => by omega⟩) id, B, C⟩
      · have := noh_six o (by simpa using n)
        exact ⟨5, b, c, by omega, Or.inr (Nat.le_refl _), B, C⟩
    by_cases k8 : nKd t = 8
    · rw [if_pos (Or.inr k8)] at em
      obtain ⟨o, -, wy⟩ := w8 k8
      obtain ⟨a, b, c, l, h1, h2, h3⟩ := ih _ _ _ wy
      have p := tch_pos o
      have B : CFt (f + 1) t ∨ 3 ≤ b := h2.imp (fun q => ⟨fun _ => q, fun c => by omega, fun c => by omega, by omega⟩) id
      have C : NOp (f + 1) t ∨ 2 ≤ c := h3.imp (fun q => ⟨fun _ => q, by omega, fun c => by omega, fun c => by omega⟩) id
      exact ⟨5, b, c, by omega, Or.inr (Nat.le_refl _), B, C⟩
    rw [if_neg (by omega)] at em
    by_cases k9 : nKd t = 9
    · rw [if_pos k9] at em
      obtain ⟨wx, o, -⟩ := w9 k9
      obtain ⟨a, b, c, l, h1, h2, h3⟩ := ih _ _ _ wx
      have p := tch_pos o
      have B : CFt (f + 1) t ∨ 3 ≤ b := h2.imp (fun q => ⟨fun c => by omega, fun _ => q, fun c => by omega, by omega⟩) id
      by_cases n : noh 0 (nY t) = true
      · exact ⟨a, b, 2, by omega, h1.imp (fun q => ⟨fun c => by omega, fun c => by omega, fun c => by omega, fun _ => ⟨q, n⟩, fun c => by omega, fun c => by omega⟩) id, B, Or.inr (Nat.le_refl _)⟩
      · have := noh_six o (by simpa using n)
        exact ⟨5, b, 2, by omega, Or.inr (Nat.le_refl _), B, Or.inr (Nat.le_refl _)⟩
    rw [if_neg k9] at em
    by_cases k10 : nKd t = 10
    · rw [if_pos k10] at em
      have part : ∀ g, g < 3 → ∃ a b c, a + b + c ≤ mch (nP t g) ∧ (bit (nMk t) g = true → (NHt 0 f (nP t g) ∨ 5 ≤ a) ∧ (CFt f (nP t g) ∨ 3 ≤ b) ∧ (NOp f (nP t g) ∨ 2 ≤ c)) := by
        intro g hg
        by_cases q : bit (nMk t) g = true
        · obtain ⟨a, b, c, l, h1, h2, h3⟩ := ih _ _ _ ((w10 k10).2 g hg q)
          exact ⟨a, b, c, by omega, fun _ => ⟨h1, h2, h3⟩⟩
        · exact ⟨0, 0, 0, Nat.zero_le _, fun c => absurd c q⟩
      obtain ⟨a0, b0, c0, l0, p0⟩ := part 0 (by decide)
      obtain ⟨a1, b1, c1, l1, p1⟩ := part 1 (by decide)
      obtain ⟨a2, b2, c2, l2, p2⟩ := part 2 (by decide)
      have l0 : a0 + b0 + c0 ≤ mch (nX t) := l0
      have l1 : a1 + b1 + c1 ≤ mch (nY t) := l1
      have l2 : a2 + b2 + c2 ≤ mch (nZ t) := l2
      have one : 1 ≤ (if nMk t = 0 then 2 else 1 + 3 * nlb (nMk t)) := by split <;> omega
      have all : ∀ (P : Nat → Prop) (n : Nat) (x0 x1 x2 : Nat), (bit (nMk t) 0 = true → P 0 ∨ n ≤ x0) → (bit (nMk t) 1 = true → P 1 ∨ n ≤ x1) → (bit (nMk t) 2 = true → P 2 ∨ n ≤ x2) → (∀ g, g < 3 → bit (nMk t) g = true → P g) ∨ n ≤ x0 + x1 + x2 := by
        intro P n x0 x1 x2 q0 q1 q2
        by_cases c : n ≤ x0 + x1 + x2
        · exact Or.inr c
        · refine Or.inl (fun g hg hb => ?_)
          match g, hg, hb with
          | 0, _, hb => exact (q0 hb).resolve_right (by omega)
          | 1, _, hb => exact (q1 hb).resolve_right (by omega)
          | 2, _, hb => exact (q2 hb).resolve_right (by omega)
      refine ⟨a0 + a1 + a2, b0 + b1 + b2, c0 + c1 + c2, by omega, ?_, ?_, ?_⟩
      · exact (all (fun g => NHt 0 f (nP t g)) 5 a0 a1 a2 (fun h => (p0 h).1) (fun h => (p1 h).1) (fun h => (p2 h).1)).imp (fun q => ⟨fun c => by omega, fun c => by omega, fun c => by omega, fun c => by omega, fun _ => q, fun c => by omega⟩) id
      · exact (all (fun g => CFt f (nP t g)) 3 b0 b1 b2 (fun h => (p0 h).2.1) (fun h => (p1 h).2.1) (fun h => (p2 h).2.1)).imp (fun q => ⟨fun c => by omega, fun c => by omega, fun _ => q, by omega⟩) id
      · exact (all (fun g => NOp f (nP t g)) 2 c0 c1 c2 (fun h => (p0 h).2.2) (fun h => (p1 h).2.2) (fun h => (p2 h).2.2)).imp (fun q => ⟨fun c => by omega, by omega, fun _ => q, fun c => by omega⟩) id
    rw [if_neg k10] at em
    by_cases k11 : nKd t = 11
    · obtain ⟨-, wx⟩ := w11 k11
      obtain ⟨a, b, c, l, h1, h2, h3⟩ := ih _ _ _ wx
      exact ⟨a, b, 2, by omega, h1.imp (fun q => ⟨fun c => by omega, fun c => by omega, fun c => by omega, fun c => by omega, fun c => by omega, fun _ => q⟩) id, h2.imp (fun q => ⟨fun c => by omega, fun _ => q, fun c => by omega, by omega⟩) id, Or.inr (Nat.le_refl _)⟩
    have k7 : nKd t = 7 ∨ nKd t = 12 := by omega
    obtain ⟨wx, wy⟩ := w7 k7
    obtain ⟨a, b, c, l, h1, h2, h3⟩ := ih _ _ _ wx
    obtain ⟨a', b', c', l', h1', h2', h3'⟩ := ih _ _ _ wy
    have A : NHt 0 (f + 1) t ∨ 5 ≤ a + a' := by
      rcases h1 with q | q
      · rcases h1' with q' | q'
        · exact Or.inl ⟨fun c => by omega, fun _ => ⟨q, q'⟩, fun c => by omega, fun c => by omega, fun c => by omega, fun c => by omega⟩
        · exact Or.inr (by omega)
      · exact Or.inr (by omega)
    rcases k7 with k7 | k7
    · exact ⟨a + a', b, 2, by omega, A, h2.imp (fun q => ⟨fun c => by omega, fun _ => q, fun c => by omega, by omega⟩) id, Or.inr (Nat.le_refl _)⟩
    · refine ⟨a + a', 3, c + c', by omega, A, Or.inr (Nat.le_refl _), ?_⟩
      rcases h3 with q | q
      · rcases h3' with q' | q'
        · exact Or.inl ⟨fun c => by omega, by omega, fun c => by omega, fun _ => ⟨q, q'⟩⟩
        · exact Or.inr (by omega)
      · exact Or.inr (by omega)
/-- one name around, no choice of a name with itself: a choice takes five characters, one under an operation seven -/
theorem chr_one : ∀ (f D p : Nat) (t : Ty), TWf f D [p] t → TNo f t → (CFt f t ∨ 5 ≤ mch t) ∧ (COk f t 0 ∨ 7 ≤ mch t)
  | 0, _, _, _, h, _ => h.elim
  | f + 1, D, p, t, h, tn => by
    have ih := fun D t => chr_one f D p t
    obtain ⟨⟨kk, e, nl, -⟩, -, w6, w7, w8, w9, w10, w11, -⟩ := h
    obtain ⟨n6, n7, n9, n10, n12⟩ := tn
    have em := mch_is e
    by_cases k5 : nKd t = 5
    · exact ⟨Or.inl ⟨fun c => by omega, fun c => by omega, fun c => by omega, by omega⟩, Or.inl ⟨fun c => by omega, fun c => by omega, fun c => by omega, fun c => by omega⟩⟩
    rw [if_neg k5] at em
    by_cases k6 : nKd t = 6
    · rw [if_pos (Or.inl k6)] at em
      obtain ⟨-, o, -, wy⟩ := w6 k6
      have := tch_pos o
      obtain ⟨a, b, c, l, -, h2, h3⟩ := chr_min f _ _ _ wy
      refine ⟨?_, ?_⟩
      · rcases h2 with q | q
        · exact Or.inl ⟨fun _ => q, fun c => by omega, fun c => by omega, by omega⟩
        · exact Or.inr (by omega)
      · rcases h2 with q | q
        · exact Or.inl ⟨fun _ => CF_CO f _ _ q, fun c => by omega, fun c => by omega, fun c => by omega⟩
        · exact Or.inr (by omega)
    by_cases k8 : nKd t = 8
    · rw [if_pos (Or.inr k8)] at em
      obtain ⟨o, -, wy⟩ := w8 k8
      obtain ⟨h1, h2⟩ := ih _ _ wy (n6 (Or.inr k8))
      exact ⟨h1.imp (fun q => ⟨fun _ => q, fun c => by omega, fun c => by omega, by omega⟩) (fun q => by omega), h2.imp (fun q => ⟨fun _ => q, fun c => by omega, fun c => by omega, fun c => by omega⟩) (fun q => by omega)⟩
    rw [if_neg (by omega)] at em
    by_cases k9 : nKd t = 9
    · rw [if_pos k9] at em
      obtain ⟨wx, o, -⟩ := w9 k9
      have := tch_pos o
      obtain ⟨h1, -⟩ := ih _ _ wx (n9 (Or.inl k9))
      exact ⟨h1.imp (fun q => ⟨fun c => by omega, fun _ => q, fun c => by omega, by omega⟩) (fun q => by omega), h1.imp (fun q => ⟨fun c => by omega, fun _ => CF_CO f _ _ q, fun c => by omega, fun c => by omega⟩) (fun q => by omega)⟩
    rw [if_neg k9] at em
    by_cases k10 : nKd t = 10
    · rw [if_pos k10] at em
      have big : ∀ g, g < 3 → mch (nP t g) ≤ mch (nX t) + (mch (nY t) + mch (nZ t)) := by
        intro g hg
        match g, hg with
        | 0, _ => show mch (nX t) ≤ _; omega
        | 1, _ => show mch (nY t) ≤ _; omega
        | 2, _ => show mch (nZ t) ≤ _; omega
      refine ⟨?_, ?_⟩
      · by_cases c : 5 ≤ mch t
        · exact Or.inr c
        · refine Or.inl ⟨fun c => by omega, fun c => by omega, fun _ g hg hb => ?_, by omega⟩
          have b := big g hg
          exact (ih _ _ ((w10 k10).2 g hg hb) (n10 k10 g hg hb)).1.resolve_right (by omega)
      · by_cases c : 7 ≤ mch t
        · exact Or.inr c
        · refine Or.inl ⟨fun c => by omega, fun c => by omega, fun _ g hg hb => ?_, fun c => by omega⟩
          have b := big g hg
          exact (ih _ _ ((w10 k10).2 g hg hb) (n10 k10 g hg hb)).2.resolve_right (by omega)
    rw [if_neg k10] at em
    by_cases k11 : nKd t = 11
    · obtain ⟨-, wx⟩ := w11 k11
      obtain ⟨h1, -⟩ := ih _ _ wx (n9 (Or.inr k11))
      exact ⟨h1.imp (fun q => ⟨fun c => by omega, fun _ => q, fun c => by omega, by omega⟩) (fun q => by omega), h1.imp (fun q => ⟨fun c => by omega, fun _ => CF_CO f _ _ q, fun c => by omega, fun c => by omega⟩) (fun q => by omega)⟩
    have k7 : nKd t = 7 ∨ nKd t = 12 := by omega
    obtain ⟨wx, wy⟩ := w7 k7
    obtain ⟨nx, ny⟩ := n7 k7
    obtain ⟨h1, h2⟩ := ih _ _ wx nx
    obtain ⟨h1', h2'⟩ := ih _ _ wy ny
    have px : 1 ≤ mch (nX t) := by
      cases f with
      | zero => exact wx.elim
      | succ f => exact mch_pos wx
    have py : 1 ≤ mch (nY t) := by
      cases f with
      | zero => exact wy.elim
      | succ f => exact mch_pos wy
    rcases k7 with k7 | k7
    · exact ⟨h1.imp (fun q => ⟨fun c => by omega, fun _ => q, fun c => by omega, by omega⟩) (fun q => by omega), h1.imp (fun q => ⟨fun c => by omega, fun _ => CF_CO f _ _ q, fun c => by omega, fun c => by omega⟩) (fun q => by omega)⟩
    · have three : 3 ≤ mch (nX t) + mch (nY t) := by
        by_cases q : 3 ≤ mch (nX t) + mch (nY t)
        · exact q
        · exfalso
          have word : ∀ u, TWf f D [p] u → mch u = 1 → nKd u = 5 ∧ nMk u = p := by
            intro u wu u1
            cases f with
            | zero => exact wu.elim
            | succ f =>
              by_cases k : nKd u = 5
              · have := wu.2.1 k
                rw [List.mem_singleton] at this
                exact ⟨k, this⟩
              · have := mch_two wu k
                omega
          obtain ⟨a1, a2⟩ := word _ wx (by omega)
          obtain ⟨a3, a4⟩ := word _ wy (by omega)
          exact n12 k7 (smW_is.mpr ⟨a1, a3, by rw [a2, a4]⟩)
      refine ⟨Or.inr (by omega), ?_⟩
      rcases h2 with q | q
      · rcases h2' with q' | q'
        · exact Or.inl ⟨fun c => by omega, fun c => by omega, fun c => by omega, fun _ => ⟨rfl, q, q'⟩⟩
        · exact Or.inr (by omega)
      · exact Or.inr (by omega)
/-- a choice under an operation -/
theorem co_six {f D : Nat} {sc : List Nat} {t : Ty} (w : TWf f D sc t) : COk f t 0 ∨ 6 ≤ mch t := by
  obtain ⟨a, b, c, l, -, h2, h3⟩ := chr_min f D sc t w
  rcases h2 with q | q
  · exact Or.inl (CF_CO f t 0 q)
  · rcases h3 with r | r
    · exact Or.inl (NOp_CO f t r)
    · exact Or.inr (by omega)
