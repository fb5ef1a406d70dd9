/-! WHAT IS LEFT, the choice with an empty record done. -/
def RsJ (f : Nat) (x y C : Ty) (Γ0 Δ1 : List Ty) (Δ : List (Nat × Ty × Nat)) : Prop := LFn f x y C Γ0 Δ1 Δ ∧ phf (fun _ => true) C = true ∧ Δ ≠ [] ∧ (((kdt C = 1 ∨ kdt C = 4) ∧ tch C = 30 ∧ Γ0 = [] ∧ Δ1 = [] ∧ mch x = 7 ∧ mch y = 7) ∨ (kdt C = 2 ∧ memt exL (tch C) (cch Γ0) (cch Δ1) = true ∧ ¬ OVq 1 tTop C Dsm Γ0) ∨ (memt exS (tch C) (cch Γ0) (cch Δ1) = true ∧ (kdt C = 2 ∨ (kdt C = 3 ∧ OVq 1 tTop C Dsm Γ0)))) ∨ (LFn f x y C Γ0 Δ1 Δ ∧ phf (fun _ => true) C = true ∧ kdt C = 2 ∧ ndk (cch Γ0) (cch Δ1) = true ∧ ¬ OVq 1 tTop C Dsm Γ0 ∧ memt t27 (tch C) (cch Γ0) (cch Δ1) = true)
def LeftJ (f : Nat) (x y : Ty) (Γ : List Ty) (Δ : List (Nat × Ty × Nat)) : Prop := ∃ (Δ1 Γ0 : List Ty) (b : Ty), Γ = cxs Δ1 Γ0 b ∧ nsch b = false ∧ ((∀ a ∈ Γ0, nsch a = true ∨ tch a ≤ tch b) ∧ ∀ a ∈ Δ1, nsch a = true ∨ tch a ≤ tch b) ∧ ((∀ B C, b ≠ tAll B C) ∨ (∃ B C, b = tAll B C ∧ B ≠ tTop) ∨ ∃ (C : Ty), b = tAll tTop C ∧ RsJ f x y C Γ0 Δ1 Δ)
def RESTi : Prop := ∀ (f : Nat) (x y : Ty) (Γ : List Ty) (Δ : List (Nat × Ty × Nat)), TWf f Γ.length (Δ.map (fun a => a.1)) x → TWf f Γ.length (Δ.map (fun a => a.1)) y → TE Γ Δ → NAt f x → NAt f y → noac Γ → (∀ a ∈ Δ, noal a.2.1 = true) → TNo f x → TNo f y → 3 ≤ mch x → 3 ≤ mch y → (mch x ≤ mch y → ¬ NOp f x) → (¬ mch x ≤ mch y → ¬ NOp f y) → 20 ≤ cch Γ → cch Γ ≤ 47 → cch Γ + dch Δ + (2 + (mch x + mch y)) ≤ 60 → NoO f x y Γ Δ → (¬ ((mch x ≤ mch y → CHo f x []) ∧ (¬ mch x ≤ mch y → CHo f y [])) ∨ LeftJ f x y Γ Δ) → PRn f x y Γ Δ
theorem resth_of (R : RESTi) : RESTh := by
  intro f x y Γ Δ x1 x2 he y1 y2 hv hd' tx ty m3 n3 no1 no2 h20 h47 hb ng hL
  have rest := R f x y Γ Δ x1 x2 he y1 y2 hv hd' tx ty m3 n3 no1 no2 h20 h47 hb ng
  rcases hL with h | ⟨Δ1, Γ0, b, e, nb, hs, h⟩
  · exact rest (Or.inl h)
  have out : ((∀ B C, b ≠ tAll B C) ∨ (∃ B C, b = tAll B C ∧ B ≠ tTop) ∨ ∃ (C : Ty), b = tAll tTop C ∧ RsJ f x y C Γ0 Δ1 Δ) → PRn f x y Γ Δ := fun q => rest (Or.inr ⟨Δ1, Γ0, b, e, nb, hs, q⟩)
  rcases h with h | h | ⟨C, eb, h⟩
  · exact out (Or.inl h)
  · exact out (Or.inr (Or.inl h))
  have oui : RsJ f x y C Γ0 Δ1 Δ → PRn f x y Γ Δ := fun q => out (Or.inr (Or.inr ⟨C, eb, q⟩))
  subst eb
  subst e
  rcases h with ⟨lf, hp, nΔ, h⟩ | h
  · rcases h with h | h | h | ⟨k, H, q1, q2, q3⟩
    · exact oui (Or.inl ⟨lf, hp, nΔ, Or.inl h⟩)
    · exact oui (Or.inl ⟨lf, hp, nΔ, Or.inr (Or.inl h)⟩)
    · exact oui (Or.inl ⟨lf, hp, nΔ, Or.inr (Or.inr h)⟩)
    · exact pair_five H x1 x2 he y1 y2 hv hd' tx ty nΔ q1 m3 n3 q2 hb h47 q3
  · exact oui (Or.inr h)
theorem pairn_oi (R : RESTi) : PAIRn := pairn_oh (resth_of R)
/-! AN OPERATION IS WORTH NO MORE THAN WHAT IT IS DONE TO, by nature (instances aside). -/
section PmHc
variable {f b c : Nat} {t : Ty} {Γ : List Ty} {Δ : List (Nat × Ty × Nat)}
theorem op_nz {t0 s2 : Nat} {n1 h : Nat → Nat} {ω : List Nat} {A : Ty} (hv : CV t0 n1 s2 h ω Γ) (w : TWf (f + 1) Γ.length (Δ.map (fun a => a.1)) t) (he : TE Γ Δ) (k : nKd t = 7 ∨ nKd t = 11) (e0 : tyF (f + 1) t Γ Δ = .inr A) : ∃ S, tyF f (nX t) Γ Δ = .inr S ∧ nz t0 n1 s2 h ω A ≤ nz t0 n1 s2 h ω S := by
  obtain ⟨w0, w5, w6, w7, w8, w9, w10, w11, w12⟩ := w
  have io := fun t' Γ' Δ' A' => tyF_ok f t' Γ' Δ' A'
  unfold tyF at e0
  rcases k with c7 | c11
  · rw [if_neg (by omega), if_neg (by omega), if_pos c7] at e0
    obtain ⟨S, hS, h1⟩ := tbd_in e0
    obtain ⟨T, hT, h1⟩ := tbd_in h1
    obtain ⟨e, l⟩ := tyO_in h1
    obtain ⟨x1, x2⟩ := w7 (Or.inl c7)
    obtain ⟨s1, s2'⟩ := io _ _ _ _ x1 he hS
    obtain ⟨o1, o2⟩ := expo_ok he.1 he.2.1 Γ.length S s1 s2'
    have q2 := expo_nz he.1 hv Γ.length S s1
    refine ⟨S, hS, ?_⟩
    unfold tyA at e
    by_cases c : hd (expo Γ Γ.length S) = 1 ∧ bel Γ T (k1 (expo Γ Γ.length S)) = true
    · rw [if_pos c] at e
      injection e with e
      subst e
      obtain ⟨a, b, e2, ha, hb⟩ := hd_is_fun o1 c.1
      rw [e2, nz_fun] at q2
      rw [e2]
      show nz t0 n1 s2 h ω b ≤ _
      omega
    · rw [if_neg c] at e; cases e
  · rw [if_neg (by omega), if_neg (by omega), if_neg (by omega), if_neg (by omega), if_neg (by omega), if_neg (by omega), if_pos c11] at e0
    obtain ⟨S, hS, h1⟩ := tbd_in e0
    obtain ⟨e, l⟩ := tyO_in h1
    obtain ⟨m3, x1⟩ := w11 c11
    obtain ⟨s1, s2'⟩ := io _ _ _ _ x1 he hS
    obtain ⟨o1, o2⟩ := expo_ok he.1 he.2.1 Γ.length S s1 s2'
    have q2 := expo_nz he.1 hv Γ.length S s1
    refine ⟨S, hS, ?_⟩
    unfold tyD at e
    by_cases c : (8 ≤ hd (expo Γ Γ.length S) ∧ hd (expo Γ Γ.length S) < 16) ∧ bit (hd (expo Γ Γ.length S) - 8) (nMk t) = true
    · rw [if_pos c] at e
      injection e with e
      subst e
      obtain ⟨m, x, y, w, hm', e2⟩ := hd_is_rec o1 c.1.1 c.1.2
      rw [e2, nz_rec] at q2
      rw [e2]
      rcases (show nMk t = 0 ∨ nMk t = 1 ∨ nMk t = 2 by omega) with e | e | e
      · rw [e, (pt_rec hm' x y w).1]; omega
      · rw [e, (pt_rec hm' x y w).2.1]; omega
      · rw [e, (pt_rec hm' x y w).2.2]; omega
    · rw [if_neg c] at e; cases e
theorem NtV_op (w : TWf (f + 1) Γ.length (Δ.map (fun a => a.1)) t) (he : TE Γ Δ) (k : nKd t = 7 ∨ nKd t = 11) (z : NtV Γ Δ f (nX t) b c) : NtV Γ Δ (f + 1) t b c := by
  intro A hA
  refine ⟨fun d => ?_, ?_⟩
  · obtain ⟨S, hS, q⟩ := op_nz (onz_cv (NC_rows d 1) he.1) w he k hA
    exact Nat.le_trans q ((z S hS).1 d)
  · obtain ⟨S, hS, q⟩ := op_nz (onz_cv NC_goals he.1) w he k hA
    exact Nat.le_trans q (z S hS).2
/-- what is left of a term when the outer operations without arguments are taken away -/
def pee : Nat → Ty → Nat × Ty
  | 0, t => (0, t)
  | f + 1, t => if nKd t = 7 ∨ nKd t = 11 then pee f (nX t) else (f + 1, t)
theorem NtV_pee : ∀ (f : Nat) (t : Ty), TWf f Γ.length (Δ.map (fun a => a.1)) t → TE Γ Δ → NtV Γ Δ (pee f t).1 (pee f t).2 b c → NtV Γ Δ f t b c
  | 0, _, w, _, _ => w.elim
  | f + 1, t, w, he, z => by
    unfold pee at z
    by_cases k : nKd t = 7 ∨ nKd t = 11
    · rw [if_pos k] at z
      have x1 : TWf f Γ.length (Δ.map (fun a => a.1)) (nX t) := by
        rcases k with c | c
        · exact (w.2.2.2.1 (Or.inl c)).1
        · exact (w.2.2.2.2.2.2.2.1 c).2
      exact NtV_op w he k (NtV_pee f (nX t) x1 he z)
    · rw [if_neg k] at z
      exact z
theorem pee_ok : ∀ (f D : Nat) (sc : List Nat) (t : Ty), TWf f D sc t → (TWf (pee f t).1 D sc (pee f t).2 ∧ mch (pee f t).2 ≤ mch t) ∧ ((pee f t).2 = t ∨ mch (pee f t).2 + 2 ≤ mch t) ∧ (TNo f t → TNo (pee f t).1 (pee f t).2) ∧ nKd (pee f t).2 ≠ 7 ∧ nKd (pee f t).2 ≠ 11
  | 0, _, _, _, w => w.elim
  | f + 1, D, sc, t, w => by
    unfold pee
    by_cases k : nKd t = 7 ∨ nKd t = 11
    · rw [if_pos k]
      have x1 : TWf f D sc (nX t) := by
        rcases k with c | c
        · exact (w.2.2.2.1 (Or.inl c)).1
        · exact (w.2.2.2.2.2.2.2.1 c).2
      obtain ⟨⟨q1, q2⟩, q3, q4, q5⟩ := pee_ok f D sc (nX t) x1
      have em := mch_is w.1.2.1
      rw [if_neg (by omega), if_neg (by omega), if_neg (by omega), if_neg (by omega)] at em
      refine ⟨⟨q1, by omega⟩, Or.inr (by omega), fun tn => q4 ?_, q5⟩
      obtain ⟨n6, n7, n9, n10, n12⟩ := tn
      rcases k with c | c
      · exact (n7 (Or.inl c)).1
      · exact n9 (Or.inr c)
    · rw [if_neg k]
      exact ⟨⟨w, Nat.le_refl _⟩, Or.inl rfl, fun q => q, fun c => k (Or.inl c), fun c => k (Or.inr c)⟩
end PmHc
