/-! WHAT A TERM IS WORTH, by a table over its characters and the characters that wait: any term. -/
/-- the characters of what waits: Z b s bounds a text of s characters behind b characters of binders, gy b the values there -/
def SKb (Z : Nat → Nat → Nat) (gy : Nat → Nat) (b : Nat) : Stk → Nat → Prop
  | [], _ => True
  | none :: ρ, w => 2 ≤ w ∧ SKb Z gy b ρ (w - 2)
  | some z :: ρ, w => ∃ s, 1 ≤ s ∧ s + 1 ≤ w ∧ (z ≤ Z b s ∧ z ≤ gy (b + s + 4)) ∧ SKb Z gy b ρ (w - (s + 1))
theorem SKb.mono {Z : Nat → Nat → Nat} {gy : Nat → Nat} {b b' : Nat} (Zm : ∀ b b' s s', b ≤ b' → s ≤ s' → Z b s ≤ Z b' s') (gm : ∀ b b', b ≤ b' → gy b ≤ gy b') (hb : b ≤ b') : ∀ (π : Stk) (w w' : Nat), SKb Z gy b π w → w ≤ w' → SKb Z gy b' π w'
  | [], _, _, _, _ => trivial
  | none :: ρ, w, w', h, hw => ⟨by have := h.1; omega, SKb.mono Zm gm hb ρ _ _ h.2 (by omega)⟩
  | some z :: ρ, w, w', h, hw => by
    obtain ⟨s, s1, s2, s3, s4⟩ := h
    exact ⟨s, s1, by omega, ⟨Nat.le_trans s3.1 (Zm _ _ _ _ hb (Nat.le_refl _)), Nat.le_trans s3.2 (gm _ _ (by omega))⟩, SKb.mono Zm gm hb ρ _ _ s4 (by omega)⟩
theorem SKb.two {Z : Nat → Nat → Nat} {gy : Nat → Nat} {b : Nat} : ∀ {π : Stk} {w : Nat}, SKb Z gy b π w → π ≠ [] → 2 ≤ w
  | [], _, _, e => absurd rfl e
  | none :: ρ, w, h, _ => h.1
  | some z :: ρ, w, h, _ => by
    obtain ⟨s, s1, s2, s3, s4⟩ := h
    omega
/-- the table is closed -/
def DPc (un : Bool) (a5 mt fn s2 r0 r1 r2 r3 : Nat) (V : Nat → Nat) (Z H : Nat → Nat → Nat) (D : Nat → Nat → Nat → Nat) : Prop :=
  (∀ b, b + 1 ≤ mt → a5 ≤ b → V b ≤ D 1 0 b) ∧ (∀ w b, 2 ≤ w → w + b + 1 ≤ mt → a5 ≤ b → H b w ≤ D 1 w b) ∧
  (∀ i m w b, 1 ≤ i → i + 2 ≤ m → m + w + b ≤ mt → D i (w + (m - i)) b ≤ D m w b) ∧
  (∀ i m b, 1 ≤ i → i + 5 ≤ m → m + b ≤ mt → fn + (Z b (m - 4 - i) + D i 0 (b + (m - i))) ≤ D m 0 b ∧ s2 + D i 0 (b + (m - i)) ≤ D m 0 b) ∧
  (∀ i m w b, 1 ≤ i → i + 5 ≤ m → 2 ≤ w → m + w + b ≤ mt → D i 0 (b + (m - i)) ≤ D m w b ∧ D i (w - 2) (b + (m - i)) ≤ D m w b) ∧
  (∀ i m w b s, 1 ≤ i → i + 5 ≤ m → 1 ≤ s → s + 1 ≤ w → m + w + b ≤ mt → D i 0 (b + (m - i) + s) ≤ D m w b ∧ D i (w - (s + 1)) (b + (m - i) + s) ≤ D m w b) ∧
  (∀ i m w b, 1 ≤ i → i + 4 ≤ m → 2 ≤ w → m + w + b ≤ mt → D i 0 b ≤ D m w b ∧ D i (w - 2) b ≤ D m w b) ∧
  (∀ b, 2 + b ≤ mt → r0 ≤ D 2 0 b) ∧
  (∀ i m b, 1 ≤ i → i + 4 = m → m + b ≤ mt → r1 + D i 0 b ≤ D m 0 b) ∧
  (∀ i j m b, 1 ≤ i → 1 ≤ j → i + j + 7 = m → m + b ≤ mt → r2 + (D i 0 b + D j 0 b) ≤ D m 0 b) ∧
  (∀ i j k m b, 1 ≤ i → 1 ≤ j → 1 ≤ k → i + j + k + 10 = m → m + b ≤ mt → r3 + (D i 0 b + (D j 0 b + D k 0 b)) ≤ D m 0 b) ∧
  (∀ i j m w b, 1 ≤ i → 1 ≤ j → i + j + 2 = m → m + w + b ≤ mt → (un = true ∨ w = 0) → D i w b + D j w b ≤ D m w b)
/-- the types of names -/
def DVn (t0 : Nat) (n1 : Nat → Nat) (s2 : Nat) (h : Nat → Nat) (E : Stk → Nat) (V0 : Nat) (ω : List Nat) (Δ : List (Nat × Ty × Nat)) : Prop := ∀ a ∈ Δ, ∃ ν ω1 : List Nat, ω = ν ++ ω1 ∧ ω1.length = a.2.2 ∧ ok ω1.length a.2.1 = true ∧ nz t0 n1 s2 h ω1 a.2.1 ≤ V0 ∧ ∀ ρ, ρ ≠ [] → vz t0 n1 s2 h E a.2.1 ρ ω1 ≤ E ρ
theorem DVn.up {t0 s2 V0 V1 : Nat} {n1 h : Nat → Nat} {E : Stk → Nat} {ω : List Nat} {Δ : List (Nat × Ty × Nat)} (d : DVn t0 n1 s2 h E V0 ω Δ) (hv : V0 ≤ V1) : DVn t0 n1 s2 h E V1 ω Δ := by
  intro a ha
  obtain ⟨ν, ω1, e1, e2, e3, e4, e5⟩ := d a ha
  exact ⟨ν, ω1, e1, e2, e3, Nat.le_trans e4 hv, e5⟩
theorem DVn.ext {t0 s2 V0 : Nat} {n1 h : Nat → Nat} {E : Stk → Nat} {ω : List Nat} {Δ : List (Nat × Ty × Nat)} (d : DVn t0 n1 s2 h E V0 ω Δ) (v : Nat) : DVn t0 n1 s2 h E V0 (v :: ω) Δ := by
  intro a ha
  obtain ⟨ν, ω1, e1, e2, e3, e4, e5⟩ := d a ha
  exact ⟨v :: ν, ω1, by rw [e1]; rfl, e2, e3, e4, e5⟩
/-- a record's parts in the table -/
theorem DPc_rec {un : Bool} {a5 mt fn s2 r0 r1 r2 r3 bb : Nat} {V : Nat → Nat} {Z H : Nat → Nat → Nat} {D : Nat → Nat → Nat → Nat} {n1 : Nat → Nat} (dc : DPc un a5 mt fn s2 r0 r1 r2 r3 V Z H D) (hr : ∀ m, m < 8 → n1 (8 + m) ≤ (if nlb m = 0 then r0 else if nlb m = 1 then r1 else if nlb m = 2 then r2 else r3)) {k a b d va vb vd : Nat} (k8 : k < 8) (a1 : bit k 0 = true → 1 ≤ a ∧ va ≤ D a 0 bb) (b1 : bit k 1 = true → 1 ≤ b ∧ vb ≤ D b 0 bb) (d1 : bit k 2 = true → 1 ≤ d ∧ vd ≤ D d 0 bb) (z0 : bit k 0 = false → a = 0) (z1 : bit k 1 = false → b = 0) (z2 : bit k 2 = false → d = 0) (hb : (if k = 0 then 2 else 1 + 3 * nlb k) + (a + (b + d)) + bb ≤ mt) : n1 (8 + k) + ((if bit k 0 = true then va else 0) + ((if bit k 1 = true then vb else 0) + (if bit k 2 = true then vd else 0))) ≤ D ((if k = 0 then 2 else 1 + 3 * nlb k) + (a + (b + d))) 0 bb := by
  obtain ⟨-, -, -, -, -, -, -, e0, e1, e2, e3, -⟩ := dc
  have hk := hr k k8
  rcases (show k = 0 ∨ k = 1 ∨ k = 2 ∨ k = 3 ∨ k = 4 ∨ k = 5 ∨ k = 6 ∨ k = 7 by omega) with e | e | e | e | e | e | e | e
  · subst e
    have f0 : bit 0 0 = false := by decide
    have q0 := z0 f0
    have i0 : (if bit 0 0 = true then va else 0) = 0 := by rw [f0]; rfl
    have f1 : bit 0 1 = false := by decide
    have q1 := z1 f1
    have i1 : (if bit 0 1 = true then vb else 0) = 0 := by rw [f1]; rfl
    have f2 : bit 0 2 = false := by decide
    have q2 := z2 f2
    have i2 : (if bit 0 2 = true then vd else 0) = 0 := by rw [f2]; rfl
    have hk : n1 (8 + 0) ≤ r0 := hk
    have eM : (if (0 : Nat) = 0 then 2 else 1 + 3 * nlb 0) + (a + (b + d)) = 2 := by
      have en : (if (0 : Nat) = 0 then 2 else 1 + 3 * nlb 0) = 2 := by decide
      rw [en]; omega
    rw [i0, i1, i2, eM]
    rw [eM] at hb
    have := e0 bb hb
    omega
  · subst e
    have f0 : bit 1 0 = true := by decide
    have c0 := a1 f0
    have i0 : (if bit 1 0 = true then va else 0) = va := by rw [f0]; rfl
    have f1 : bit 1 1 = false := by decide
    have q1 := z1 f1
    have i1 : (if bit 1 1 = true then vb else 0) = 0 := by rw [f1]; rfl
    have f2 : bit 1 2 = false := by decide
    have q2 := z2 f2
    have i2 : (if bit 1 2 = true then vd else 0) = 0 := by rw [f2]; rfl
    have hk : n1 (8 + 1) ≤ r1 := hk
    have eM : (if (1 : Nat) = 0 then 2 else 1 + 3 * nlb 1) + (a + (b + d)) = 4 + a := by
      have en : (if (1 : Nat) = 0 then 2 else 1 + 3 * nlb 1) = 4 := by decide
      rw [en]; omega
    rw [i0, i1, i2, eM]
    rw [eM] at hb
    have := e1 a _ bb c0.1 (show a + 4 = 4 + a by omega) hb
    omega
  · subst e
    have f0 : bit 2 0 = false := by decide
    have q0 := z0 f0
    have i0 : (if bit 2 0 = true then va else 0) = 0 := by rw [f0]; rfl
    have f1 : bit 2 1 = true := by decide
    have c1 := b1 f1
    have i1 : (if bit 2 1 = true then vb else 0) = vb := by rw [f1]; rfl
    have f2 : bit 2 2 = false := by decide
    have q2 := z2 f2
    have i2 : (if bit 2 2 = true then vd else 0) = 0 := by rw [f2]; rfl
    have hk : n1 (8 + 2) ≤ r1 := hk
    have eM : (if (2 : Nat) = 0 then 2 else 1 + 3 * nlb 2) + (a + (b + d)) = 4 + b := by
      have en : (if (2 : Nat) = 0 then 2 else 1 + 3 * nlb 2) = 4 := by decide
      rw [en]; omega
    rw [i0, i1, i2, eM]
    rw [eM] at hb
    have := e1 b _ bb c1.1 (show b + 4 = 4 + b by omega) hb
    omega
  · subst e
    have f0 : bit 3 0 = true := by decide
    have c0 := a1 f0
    have i0 : (if bit 3 0 = true then va else 0) = va := by rw [f0]; rfl
    have f1 : bit 3 1 = true := by decide
    have c1 := b1 f1
    have i1 : (if bit 3 1 = true then vb else 0) = vb := by rw [f1]; rfl
    have f2 : bit 3 2 = false := by decide
    have q2 := z2 f2
    have i2 : (if bit 3 2 = true then vd else 0) = 0 := by rw [f2]; rfl
    have hk : n1 (8 + 3) ≤ r2 := hk
    have eM : (if (3 : Nat) = 0 then 2 else 1 + 3 * nlb 3) + (a + (b + d)) = 7 + a + b := by
      have en : (if (3 : Nat) = 0 then 2 else 1 + 3 * nlb 3) = 7 := by decide
      rw [en]; omega
    rw [i0, i1, i2, eM]
    rw [eM] at hb
    have := e2 a b _ bb c0.1 c1.1 (show a + b + 7 = 7 + a + b by omega) hb
    omega
  · subst e
    have f0 : bit 4 0 = false := by decide
    have q0 := z0 f0
    have i0 : (if bit 4 0 = true then va else 0) = 0 := by rw [f0]; rfl
    have f1 : bit 4 1 = false := by decide
    have q1 := z1 f1
    have i1 : (if bit 4 1 = true then vb else 0) = 0 := by rw [f1]; rfl
    have f2 : bit 4 2 = true := by decide
    have c2 := d1 f2
    have i2 : (if bit 4 2 = true then vd else 0) = vd := by rw [f2]; rfl
    have hk : n1 (8 + 4) ≤ r1 := hk
    have eM : (if (4 : Nat) = 0 then 2 else 1 + 3 * nlb 4) + (a + (b + d)) = 4 + d := by
      have en : (if (4 : Nat) = 0 then 2 else 1 + 3 * nlb 4) = 4 := by decide
      rw [en]; omega
    rw [i0, i1, i2, eM]
    rw [eM] at hb
    have := e1 d _ bb c2.1 (show d + 4 = 4 + d by omega) hb
    omega
  · subst e
    have f0 : bit 5 0 = true := by decide
    have c0 := a1 f0
    have i0 : (if bit 5 0 = true then va else 0) = va := by rw [f0]; rfl
    have f1 : bit 5 1 = false := by decide
    have q1 := z1 f1
    have i1 : (if bit 5 1 = true then vb else 0) = 0 := by rw [f1]; rfl
    have f2 : bit 5 2 = true := by decide
    have c2 := d1 f2
    have i2 : (if bit 5 2 = true then vd else 0) = vd := by rw [f2]; rfl
    have hk : n1 (8 + 5) ≤ r2 := hk
    have eM : (if (5 : Nat) = 0 then 2 else 1 + 3 * nlb 5) + (a + (b + d)) = 7 + a + d := by
      have en : (if (5 : Nat) = 0 then 2 else 1 + 3 * nlb 5) = 7 := by decide
      rw [en]; omega
    rw [i0, i1, i2, eM]
    rw [eM] at hb
    have := e2 a d _ bb c0.1 c2.1 (show a + d + 7 = 7 + a + d by omega) hb
    omega
  · subst e
    have f0 : bit 6 0 = false := by decide
    have q0 := z0 f0
    have i0 : (if bit 6 0 = true then va else 0) = 0 := by rw [f0]; rfl
    have f1 : bit 6 1 = true := by decide
    have c1 := b1 f1
    have i1 : (if bit 6 1 = true then vb else 0) = vb := by rw [f1]; rfl
    have f2 : bit 6 2 = true := by decide
    have c2 := d1 f2
    have i2 : (if bit 6 2 = true then vd else 0) = vd := by rw [f2]; rfl
    have hk : n1 (8 + 6) ≤ r2 := hk
    have eM : (if (6 : Nat) = 0 then 2 else 1 + 3 * nlb 6) + (a + (b + d)) = 7 + b + d := by
      have en : (if (6 : Nat) = 0 then 2 else 1 + 3 * nlb 6) = 7 := by decide
      rw [en]; omega
    rw [i0, i1, i2, eM]
    rw [eM] at hb
    have := e2 b d _ bb c1.1 c2.1 (show b + d + 7 = 7 + b + d by omega) hb
    omega
  · subst e
    have f0 : bit 7 0 = true := by decide
    have c0 := a1 f0
    have i0 : (if bit 7 0 = true then va else 0) = va := by rw [f0]; rfl
    have f1 : bit 7 1 = true := by decide
    have c1 := b1 f1
    have i1 : (if bit 7 1 = true then vb else 0) = vb := by rw [f1]; rfl
    have f2 : bit 7 2 = true := by decide
    have c2 := d1 f2
    have i2 : (if bit 7 2 = true then vd else 0) = vd := by rw [f2]; rfl
    have hk : n1 (8 + 7) ≤ r3 := hk
    have eM : (if (7 : Nat) = 0 then 2 else 1 + 3 * nlb 7) + (a + (b + d)) = 10 + a + b + d := by
      have en : (if (7 : Nat) = 0 then 2 else 1 + 3 * nlb 7) = 10 := by decide
      rw [en]; omega
    rw [i0, i1, i2, eM]
    rw [eM] at hb
    have := e3 a b d _ bb c0.1 c1.1 c2.1 (show a + b + d + 10 = 10 + a + b + d by omega) hb
    omega
