/-! NO NAMES AROUND, no scheme with bound Top in C: nothing is left. -/
def lD9 (co : Bool) (m k q1 q2 : Nat) : Bool := npl true true co m k q1 q2 || ((Nat.beq (9 + k + q1 + q2) 36 && Nat.beq m 11) || (Nat.ble 40 (9 + k + q1 + q2) && Nat.ble 8 m))
theorem k9D : ckl xe1 (fun k q1 q2 => Nat.blt k 18 || (ndk q1 q2 || (List.range 20).all (fun m => Nat.blt m 3 || (Nat.blt 58 (9 + k + q1 + q2 + 2 * m) || (lD9 true m k q1 q2 && lD9 false m k q1 q2))))) = true := by decide +kernel
theorem lD9_get {co : Bool} {m k q1 q2 : Nat} (hn : npl true true co m k q1 q2 = false) (k18 : 18 ≤ k) (nd : ndk q1 q2 = false) (m3 : 3 ≤ m) (hc : 9 + k + q1 + q2 + 2 * m ≤ 58) (k38 : k ≤ 38) : (9 + k + q1 + q2 = 36 ∧ m = 11) ∨ (40 ≤ 9 + k + q1 + q2 ∧ 8 ≤ m) := by
  have hn0 := hn
  unfold npl at hn
  rw [if_pos rfl, Bool.or_eq_false_iff] at hn
  have q := ckl_get k9D k38 hn.1
  rw [Bool.or_eq_true, Bool.or_eq_true, nd] at q
  rcases q with q | q | q
  · exact (blt_no k18 q).elim
  · cases q
  · have q := rng_all q (i := m) (by omega)
    rw [Bool.or_eq_true, Bool.or_eq_true, Bool.and_eq_true] at q
    rcases q with q | q | q
    · exact (blt_no m3 q).elim
    · exact (blt_no hc q).elim
    · have r : lD9 co m k q1 q2 = true := by
        cases co
        · exact q.2
        · exact q.1
      unfold lD9 at r
      rw [hn0, Bool.false_or, Bool.or_eq_true, Bool.and_eq_true, Bool.and_eq_true] at r
      exact r.imp (fun h => ⟨Nat.eq_of_beq_eq_true h.1, Nat.eq_of_beq_eq_true h.2⟩) (fun h => ⟨Nat.le_of_ble_eq_true h.1, Nat.le_of_ble_eq_true h.2⟩)
section PmZe
variable {f : Nat} {x y C : Ty} {Γ0 Δ1 : List Ty} {Δ : List (Nat × Ty × Nat)}
theorem pair_D (nΔ : Δ = []) (nC : noh 0 C = true) (k18 : 18 ≤ tch C) (x1 : TWf f (cxs Δ1 Γ0 (tAll tTop C)).length (Δ.map (fun a => a.1)) x) (x2 : TWf f (cxs Δ1 Γ0 (tAll tTop C)).length (Δ.map (fun a => a.1)) y) (he : TE (cxs Δ1 Γ0 (tAll tTop C)) Δ) (y1 : NAt f x) (y2 : NAt f y) (hv : noac (cxs Δ1 Γ0 (tAll tTop C))) (hd' : ∀ a ∈ Δ, noal a.2.1 = true) (t1 : TNo f x) (t2 : TNo f y) (ch1 : mch x ≤ mch y → CHo f x []) (ch2 : ¬ mch x ≤ mch y → CHo f y []) (ho : (∀ b ∈ Γ0, nsch b = true ∨ (true = true ∧ tch b ≤ tch C + 5)) ∧ ∀ b ∈ Δ1, nsch b = true ∨ (true = true ∧ tch b ≤ tch C + 5)) (m3 : 3 ≤ mch x) (n3 : 3 ≤ mch y) (hb : cch (cxs Δ1 Γ0 (tAll tTop C)) + dch Δ + (2 + (mch x + mch y)) ≤ 60) (h20 : 20 ≤ cch (cxs Δ1 Γ0 (tAll tTop C))) (h49 : cch (cxs Δ1 Γ0 (tAll tTop C)) ≤ 47) (lf : LFn f x y C Γ0 Δ1 Δ) : PRn f x y (cxs Δ1 Γ0 (tAll tTop C)) Δ := by
  have ec := ec_top C Γ0 Δ1
  have nt : NtV (cxs Δ1 Γ0 (tAll tTop C)) Δ f x 887 597 ∨ NtV (cxs Δ1 Γ0 (tAll tTop C)) Δ f y 887 597 → PRn f x y (cxs Δ1 Γ0 (tAll tTop C)) Δ := pair_ntv x1 x2 he y1 y2 hv hd' (by omega)
  by_cases f0 : ∃ b ∈ Γ0, noh 0 b = false
  · rcases pair_F nC f0 x1 x2 he y1 y2 hv hd' t1 t2 ho.1 m3 n3 hb h20 h49 lf with q | q
    · exact q
    · exact absurd nΔ q.1
  have n0 : ∀ b ∈ Γ0, noh 0 b = true := by
    intro b hb1
    cases h : noh 0 b with
    | true => rfl
    | false => exact absurd ⟨b, hb1, h⟩ f0
  have H := HKd_noh he.1 (by omega) nC n0
  cases nd : ndk (cch Γ0) (cch Δ1) with
  | true => exact pair_nodes H x1 x2 he y1 y2 hv hd' nd h49
  | false =>
  have d0 : dch Δ = 0 := by rw [nΔ]; rfl
  have hb' : cch (cxs Δ1 Γ0 (tAll tTop C)) + dch Δ + (2 + (mch y + mch x)) ≤ 60 := by omega
  have len : (cch (cxs Δ1 Γ0 (tAll tTop C)) = 36 ∧ mch x ≤ 11 ∧ mch y ≤ 11) ∨ (mch x ≤ 10 ∧ mch y ≤ 10) := by
    obtain ⟨s, co, hs, ⟨l1, l2⟩, hco, hn⟩ := lf
    have hE : Δ.isEmpty = true := List.isEmpty_iff.mpr nΔ
    rw [hE] at hn
    have s3 : 3 ≤ mch s := by
      rcases hs with e | e
      · rw [e]; exact m3
      · rw [e]; exact n3
    rcases lD9_get hn k18 nd s3 (by omega) (by omega) with ⟨q1, q2⟩ | ⟨q1, q2⟩
    · left; omega
    · right; omega
  have key : (NtV (cxs Δ1 Γ0 (tAll tTop C)) Δ f x 887 597 ∨ NtV (cxs Δ1 Γ0 (tAll tTop C)) Δ f y 887 597) ∨ ((∀ b ∈ Δ1, noh 0 b = true) ∧ gdk (cch Γ0) (cch Δ1) = true) := by
    by_cases c : mch x ≤ mch y
    · rcases E_su (u := y) nC n0 x1 he (ch1 c) ho c m3 hb h20 h49 nd nΔ with h | ⟨-, -, h2, h3⟩
      · exact Or.inl (Or.inl h)
      · exact Or.inr ⟨h2, h3⟩
    · rcases E_su (u := x) nC n0 x2 he (ch2 c) ho (by omega) n3 hb' h20 h49 nd nΔ with h | ⟨-, -, h2, h3⟩
      · exact Or.inl (Or.inr h)
      · exact Or.inr ⟨h2, h3⟩
  rcases key with h | ⟨n1, hg⟩
  · exact nt h
  have sg : SGc 0 tTop C tTop Γ0 Δ1 := ⟨by decide, hd_top, he.1, cxd_okc (ok_top _) Δ1 he.1, n1, n0⟩
  have nD : ∀ a ∈ Δ, noh 0 a.2.1 = true := by
    rw [nΔ]
    intro a ha
    cases ha
  -- a term that is not small
  have one : ∀ t, TWf f (cxs Δ1 Γ0 (tAll tTop C)).length (Δ.map (fun a => a.1)) t → TNo f t → ((cch (cxs Δ1 Γ0 (tAll tTop C)) = 36 ∧ mch t ≤ 11) ∨ mch t ≤ 10) → SMd C Γ0 Δ1 Δ f t ∨ NtV (cxs Δ1 Γ0 (tAll tTop C)) Δ f t 887 597 := by
    intro t w tn lt
    by_cases cf : CFt f t
    · exact Or.inl (Or.inl cf)
    have w' : TWf f (cxs Δ1 Γ0 (tAll tTop C)).length [] t := by
      rw [nΔ] at w
      exact w
    by_cases co : COk f t 0
    · by_cases nh : NHt 0 f t
      · exact Or.inl (Or.inr ⟨co, nC, nh, sg, nD⟩)
      · obtain ⟨a, b, c, l, g1, g2, g3⟩ := chr_cl f _ t w'
        have g1 := g1.resolve_left nh
        have g2 := g2.resolve_left cf
        exact Or.inr (nat_no w he (g3.resolve_right (by omega)) (by omega))
    · right
      intro S hS
      rw [nΔ] at hS
      exact absurd ((cl_ty f t _ S w' he.1 tn hS).2.2 (by omega)) co
  rcases one x x1 t1 (by omega) with s1 | h
  · rcases one y x2 t2 (by omega) with s2 | h
    · exact pair_mixx H x1 x2 he y1 y2 hv hd' s1 s2 k18 m3 n3 (by omega) (by omega) hb h49
    · exact nt (Or.inr h)
  · exact nt (Or.inl h)
end PmZe
/-! WHAT IS LEFT. -/
def RsC (f : Nat) (x y C : Ty) (Γ0 Δ1 : List Ty) (Δ : List (Nat × Ty × Nat)) : Prop := LFn f x y C Γ0 Δ1 Δ ∧ ((phf (fun _ => true) C = true ∧ ndk (cch Γ0) (cch Δ1) = true ∧ ¬ HKd 0 tTop C Γ0) ∨ (phf (fun _ => true) C = true ∧ (memt [(10, 0, 22)] (tch C) (cch Γ0) (cch Δ1) = true ∨ (kdt C ≠ 1 ∧ kdt C ≠ 4 ∧ memt exV (tch C) (cch Γ0) (cch Δ1) = true))) ∨ (noh 0 C = true ∧ (((∀ b ∈ Γ0, noh 0 b = true) ∧ RsS f x y C Γ0 Δ1 Δ) ∨ ((∃ b ∈ Γ0, noh 0 b = false) ∧ RsF f x y C Γ0 Δ1 Δ))))
def LeftC (f : Nat) (x y : Ty) (Γ : List Ty) (Δ : List (Nat × Ty × Nat)) : Prop := ∃ (Δ1 Γ0 : List Ty) (b : Ty), Γ = cxs Δ1 Γ0 b ∧ nsch b = false ∧ ((∀ a ∈ Γ0, nsch a = true ∨ tch a ≤ tch b) ∧ ∀ a ∈ Δ1, nsch a = true ∨ tch a ≤ tch b) ∧ ((∀ B C, b ≠ tAll B C) ∨ (∃ B C, b = tAll B C ∧ B ≠ tTop) ∨ ∃ (C : Ty), b = tAll tTop C ∧ RsC f x y C Γ0 Δ1 Δ)
def RESTc : Prop := ∀ (f : Nat) (x y : Ty) (Γ : List Ty) (Δ : List (Nat × Ty × Nat)), TWf f Γ.length (Δ.map (fun a => a.1)) x → TWf f Γ.length (Δ.map (fun a => a.1)) y → TE Γ Δ → NAt f x → NAt f y → noac Γ → (∀ a ∈ Δ, noal a.2.1 = true) → TNo f x → TNo f y → 3 ≤ mch x → 3 ≤ mch y → (mch x ≤ mch y → ¬ NOp f x) → (¬ mch x ≤ mch y → ¬ NOp f y) → 20 ≤ cch Γ → cch Γ ≤ 47 → cch Γ + dch Δ + (2 + (mch x + mch y)) ≤ 60 → NoG f x y Γ Δ → (¬ ((mch x ≤ mch y → CHo f x []) ∧ (¬ mch x ≤ mch y → CHo f y [])) ∨ LeftC f x y Γ Δ) → PRn f x y Γ Δ
theorem restb_of (R : RESTc) : RESTb := by
  intro f x y Γ Δ x1 x2 he y1 y2 hv hd' tx ty m3 n3 no1 no2 h20 h47 hb ng hL
  have rest := R f x y Γ Δ x1 x2 he y1 y2 hv hd' tx ty m3 n3 no1 no2 h20 h47 hb ng
  by_cases ch : (mch x ≤ mch y → CHo f x []) ∧ (¬ mch x ≤ mch y → CHo f y [])
  rotate_left
  · exact rest (Or.inl ch)
  rcases hL with h | ⟨Δ1, Γ0, b, e, nb, hs, h⟩
  · exact absurd ch h
  rcases h with h | h | ⟨C, eb, lf, h⟩
  · exact rest (Or.inr ⟨Δ1, Γ0, b, e, nb, hs, Or.inl h⟩)
  · exact rest (Or.inr ⟨Δ1, Γ0, b, e, nb, hs, Or.inr (Or.inl h)⟩)
  have out : RsC f x y C Γ0 Δ1 Δ → PRn f x y Γ Δ := fun r => rest (Or.inr ⟨Δ1, Γ0, b, e, nb, hs, Or.inr (Or.inr ⟨C, eb, r⟩)⟩)
  rcases h with h | h | h | ⟨nC, nΔ, k18, -, -⟩
  · exact out ⟨lf, Or.inl h⟩
  · exact out ⟨lf, Or.inr (Or.inl h)⟩
  · exact out ⟨lf, Or.inr (Or.inr h)⟩
  · have ho : (∀ b ∈ Γ0, nsch b = true ∨ (true = true ∧ tch b ≤ tch C + 5)) ∧ ∀ b ∈ Δ1, nsch b = true ∨ (true = true ∧ tch b ≤ tch C + 5) := by
      have et : tch b = tch C + 5 := by rw [eb, tch_all, tch_top]; omega
      rw [et] at hs
      exact ⟨fun a ha => (hs.1 a ha).imp id (fun q => ⟨rfl, q⟩), fun a ha => (hs.2 a ha).imp id (fun q => ⟨rfl, q⟩)⟩
    subst eb
    subst e
    exact pair_D nΔ nC k18 x1 x2 he y1 y2 hv hd' tx ty ch.1 ch.2 ho m3 n3 hb h20 h47 lf
