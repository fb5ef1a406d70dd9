/-! WHAT A TERM IS WORTH, by a table over its characters and the characters that wait: any term. -/
/-- the characters of what waits -/
def SKw (Z : Nat → Nat) : Stk → Nat → Prop
  | [], _ => True
  | none :: ρ, w => 2 ≤ w ∧ SKw Z ρ (w - 2)
  | some z :: ρ, w => ∃ s, 1 ≤ s ∧ s + 1 ≤ w ∧ z ≤ Z s ∧ SKw Z ρ (w - (s + 1))
theorem SKw.mono {Z : Nat → Nat} : ∀ (π : Stk) (w w' : Nat), SKw Z π w → w ≤ w' → SKw Z π w'
  | [], _, _, _, _ => trivial
  | none :: ρ, w, w', h, hw => ⟨by have := h.1; omega, SKw.mono ρ _ _ h.2 (by omega)⟩
  | some z :: ρ, w, w', h, hw => by
    obtain ⟨s, s1, s2, s3, s4⟩ := h
    exact ⟨s, s1, by omega, s3, SKw.mono ρ _ _ s4 (by omega)⟩
theorem SKw.two {Z : Nat → Nat} : ∀ {π : Stk} {w : Nat}, SKw Z π w → π ≠ [] → 2 ≤ w
  | [], _, _, e => absurd rfl e
  | none :: ρ, w, h, _ => h.1
  | some z :: ρ, w, h, _ => by
    obtain ⟨s, s1, s2, s3, s4⟩ := h
    omega
/-- the table is closed -/
def DPc (a5 mt fn s2 r0 r1 r2 r3 V0 : Nat) (Z H : Nat → Nat) (D : Nat → Nat → Nat) : Prop :=
  V0 ≤ D 1 0 ∧ (∀ w, 2 ≤ w → w + 1 + a5 ≤ mt → H w ≤ D 1 w) ∧
  (∀ i m w, 1 ≤ i → i + 2 ≤ m → m + w ≤ mt → D i (w + (m - i)) ≤ D m w) ∧
  (∀ i m, 1 ≤ i → i + 5 ≤ m → m ≤ mt → fn + (Z (m - 4 - i) + D i 0) ≤ D m 0 ∧ s2 + D i 0 ≤ D m 0) ∧
  (∀ i m w, 1 ≤ i → i + 4 ≤ m → 2 ≤ w → m + w ≤ mt → D i 0 ≤ D m w ∧ D i (w - 2) ≤ D m w) ∧
  (2 ≤ mt → r0 ≤ D 2 0) ∧
  (∀ i m, 1 ≤ i → i + 4 = m → m ≤ mt → r1 + D i 0 ≤ D m 0) ∧
  (∀ i j m, 1 ≤ i → 1 ≤ j → i + j + 7 = m → m ≤ mt → r2 + (D i 0 + D j 0) ≤ D m 0) ∧
  (∀ i j k m, 1 ≤ i → 1 ≤ j → 1 ≤ k → i + j + k + 10 = m → m ≤ mt → r3 + (D i 0 + (D j 0 + D k 0)) ≤ D m 0) ∧
  (∀ i j m w, 1 ≤ i → 1 ≤ j → i + j + 2 = m → m + w ≤ mt → D i w + D j w ≤ D m w)
/-- the types of names -/
def DVn (t0 : Nat) (n1 : Nat → Nat) (s2 : Nat) (h : Nat → Nat) (E : Stk → Nat) (V0 : Nat) (ω : List Nat) (Δ : List (Nat × Ty × Nat)) : Prop := ∀ a ∈ Δ, ∃ ν ω1 : List Nat, ω = ν ++ ω1 ∧ ω1.length = a.2.2 ∧ ok ω1.length a.2.1 = true ∧ nz t0 n1 s2 h ω1 a.2.1 ≤ V0 ∧ ∀ ρ, ρ ≠ [] → vz t0 n1 s2 h E a.2.1 ρ ω1 ≤ E ρ
theorem DVn.ext {t0 s2 V0 : Nat} {n1 h : Nat → Nat} {E : Stk → Nat} {ω : List Nat} {Δ : List (Nat × Ty × Nat)} (d : DVn t0 n1 s2 h E V0 ω Δ) (v : Nat) : DVn t0 n1 s2 h E V0 (v :: ω) Δ := by
  intro a ha
  obtain ⟨ν, ω1, e1, e2, e3, e4, e5⟩ := d a ha
  exact ⟨v :: ν, ω1, by rw [e1]; rfl, e2, e3, e4, e5⟩
/-- a record's parts in the table -/
theorem DPc_rec {a5 mt fn s2 r0 r1 r2 r3 V0 : Nat} {Z H : Nat → Nat} {D : Nat → Nat → Nat} {n1 : Nat → Nat} (dc : DPc a5 mt fn s2 r0 r1 r2 r3 V0 Z H D) (hr : ∀ m, m < 8 → n1 (8 + m) ≤ (if nlb m = 0 then r0 else if nlb m = 1 then r1 else if nlb m = 2 then r2 else r3)) {k a b d va vb vd : Nat} (k8 : k < 8) (a1 : bit k 0 = true → 1 ≤ a ∧ va ≤ D a 0) (b1 : bit k 1 = true → 1 ≤ b ∧ vb ≤ D b 0) (d1 : bit k 2 = true → 1 ≤ d ∧ vd ≤ D d 0) (z0 : bit k 0 = false → a = 0) (z1 : bit k 1 = false → b = 0) (z2 : bit k 2 = false → d = 0) (hb : (if k = 0 then 2 else 1 + 3 * nlb k) + (a + (b + d)) ≤ mt) : n1 (8 + k) + ((if bit k 0 = true then va else 0) + ((if bit k 1 = true then vb else 0) + (if bit k 2 = true then vd else 0))) ≤ D ((if k = 0 then 2 else 1 + 3 * nlb k) + (a + (b + d))) 0 := by
  obtain ⟨-, -, -, -, -, e0, e1, e2, e3, -⟩ := dc
  have hk := hr k k8
  rcases (show k = 0 ∨ k = 1 ∨ k = 2 ∨ k = 3 ∨ k = 4 ∨ k = 5 ∨ k = 6 ∨ k = 7 by omega) with e | e | e | e | e | e | e | e
  · subst e
    have f0 : bit 0 0 = false := by decide
    have q0 := z0 f0
    have i0 : (if bit 0 0 = true then va else 0) = 0 := by rw [f0]; rfl
    have f1 : bit 0 1 = false := by decide
    have q1 := z1 f1
    have i1 : (if bit 0 1 = true then vb else 0) = 0 := by rw [f1]; rfl
    have f2 : bit 0 2 = false := by decide
    have q2 := z2 f2
    have i2 : (if bit 0 2 = true then vd else 0) = 0 := by rw [f2]; rfl
    have hk : n1 (8 + 0) ≤ r0 := hk
    have eM : (if (0 : Nat) = 0 then 2 else 1 + 3 * nlb 0) + (a + (b + d)) = 2 := by
      have en : (if (0 : Nat) = 0 then 2 else 1 + 3 * nlb 0) = 2 := by decide
      rw [en]; omega
    rw [i0, i1, i2, eM]
    rw [eM] at hb
    have := e0 hb
    omega
  · subst e
    have f0 : bit 1 0 = true := by decide
    have c0 := a1 f0
    have i0 : (if bit 1 0 = true then va else 0) = va := by rw [f0]; rfl
    have f1 : bit 1 1 = false := by decide
    have q1 := z1 f1
    have i1 : (if bit 1 1 = true then vb else 0) = 0 := by rw [f1]; rfl
    have f2 : bit 1 2 = false := by decide
    have q2 := z2 f2
    have i2 : (if bit 1 2 = true then vd else 0) = 0 := by rw [f2]; rfl
    have hk : n1 (8 + 1) ≤ r1 := hk
    have eM : (if (1 : Nat) = 0 then 2 else 1 + 3 * nlb 1) + (a + (b + d)) = 4 + a := by
      have en : (if (1 : Nat) = 0 then 2 else 1 + 3 * nlb 1) = 4 := by decide
      rw [en]; omega
    rw [i0, i1, i2, eM]
    rw [eM] at hb
    have := e1 a _ c0.1 (show a + 4 = 4 + a by omega) hb
    omega
  · subst e
    have f0 : bit 2 0 = false := by decide
    have q0 := z0 f0
    have i0 : (if bit 2 0 = true then va else 0) = 0 := by rw [f0]; rfl
    have f1 : bit 2 1 = true := by decide
    have c1 := b1 f1
    have i1 : (if bit 2 1 = true then vb else 0) = vb := by rw [f1]; rfl
    have f2 : bit 2 2 = false := by decide
    have q2 := z2 f2
    have i2 : (if bit 2 2 = true then vd else 0) = 0 := by rw [f2]; rfl
    have hk : n1 (8 + 2) ≤ r1 := hk
    have eM : (if (2 : Nat) = 0 then 2 else 1 + 3 * nlb 2) + (a + (b + d)) = 4 + b := by
      have en : (if (2 : Nat) = 0 then 2 else 1 + 3 * nlb 2) = 4 := by decide
      rw [en]; omega
    rw [i0, i1, i2, eM]
    rw [eM] at hb
    have := e1 b _ c1.1 (show b + 4 = 4 + b by omega) hb
    omega
  · subst e
    have f0 : bit 3 0 = true := by decide
    have c0 := a1 f0
    have i0 : (if bit 3 0 = true then va else 0) = va := by rw [f0]; rfl
    have f1 : bit 3 1 = true := by decide
    have c1 := b1 f1
    have i1 : (if bit 3 1 = true then vb else 0) = vb := by rw [f1]; rfl
    have f2 : bit 3 2 = false := by decide
    have q2 := z2 f2
    have i2 : (if bit 3 2 = true then vd else 0) = 0 := by rw [f2]; rfl
    have hk : n1 (8 + 3) ≤ r2 := hk
    have eM : (if (3 : Nat) = 0 then 2 else 1 + 3 * nlb 3) + (a + (b + d)) = 7 + a + b := by
      have en : (if (3 : Nat) = 0 then 2 else 1 + 3 * nlb 3) = 7 := by decide
      rw [en]; omega
    rw [i0, i1, i2, eM]
    rw [eM] at hb
    have := e2 a b _ c0.1 c1.1 (show a + b + 7 = 7 + a + b by omega) hb
    omega
  · subst e
    have f0 : bit 4 0 = false := by decide
    have q0 := z0 f0
    have i0 : (if bit 4 0 = true then va else 0) = 0 := by rw [f0]; rfl
    have f1 : bit 4 1 = false := by decide
    have q1 := z1 f1
    have i1 : (if bit 4 1 = true then vb else 0) = 0 := by rw [f1]; rfl
    have f2 : bit 4 2 = true := by decide
    have c2 := d1 f2
    have i2 : (if bit 4 2 = true then vd else 0) = vd := by rw [f2]; rfl
    have hk : n1 (8 + 4) ≤ r1 := hk
    have eM : (if (4 : Nat) = 0 then 2 else 1 + 3 * nlb 4) + (a + (b + d)) = 4 + d := by
      have en : (if (4 : Nat) = 0 then 2 else 1 + 3 * nlb 4) = 4 := by decide
      rw [en]; omega
    rw [i0, i1, i2, eM]
    rw [eM] at hb
    have := e1 d _ c2.1 (show d + 4 = 4 + d by omega) hb
    omega
  · subst e
    have f0 : bit 5 0 = true := by decide
    have c0 := a1 f0
    have i0 : (if bit 5 0 = true then va else 0) = va := by rw [f0]; rfl
    have f1 : bit 5 1 = false := by decide
    have q1 := z1 f1
    have i1 : (if bit 5 1 = true then vb else 0) = 0 := by rw [f1]; rfl
    have f2 : bit 5 2 = true := by decide
    have c2 := d1 f2
    have i2 : (if bit 5 2 = true then vd else 0) = vd := by rw [f2]; rfl
    have hk : n1 (8 + 5) ≤ r2 := hk
    have eM : (if (5 : Nat) = 0 then 2 else 1 + 3 * nlb 5) + (a + (b + d)) = 7 + a + d := by
      have en : (if (5 : Nat) = 0 then 2 else 1 + 3 * nlb 5) = 7 := by decide
      rw [en]; omega
    rw [i0, i1, i2, eM]
    rw [eM] at hb
    have := e2 a d _ c0.1 c2.1 (show a + d + 7 = 7 + a + d by omega) hb
    omega
  · subst e
    have f0 : bit 6 0 = false := by decide
    have q0 := z0 f0
    have i0 : (if bit 6 0 = true then va else 0) = 0 := by rw [f0]; rfl
    have f1 : bit 6 1 = true := by decide
    have c1 := b1 f1
    have i1 : (if bit 6 1 = true then vb else 0) = vb := by rw [f1]; rfl
    have f2 : bit 6 2 = true := by decide
    have c2 := d1 f2
    have i2 : (if bit 6 2 = true then vd else 0) = vd := by rw [f2]; rfl
    have hk : n1 (8 + 6) ≤ r2 := hk
    have eM : (if (6 : Nat) = 0 then 2 else 1 + 3 * nlb 6) + (a + (b + d)) = 7 + b + d := by
      have en : (if (6 : Nat) = 0 then 2 else 1 + 3 * nlb 6) = 7 := by decide
      rw [en]; omega
    rw [i0, i1, i2, eM]
    rw [eM] at hb
    have := e2 b d _ c1.1 c2.1 (show b + d + 7 = 7 + b + d by omega) hb
    omega
  · subst e
    have f0 : bit 7 0 = true := by decide
    have c0 := a1 f0
    have i0 : (if bit 7 0 = true then va else 0) = va := by rw [f0]; rfl
    have f1 : bit 7 1 = true := by decide
    have c1 := b1 f1
    have i1 : (if bit 7 1 = true then vb else 0) = vb := by rw [f1]; rfl
    have f2 : bit 7 2 = true := by decide
    have c2 := d1 f2
    have i2 : (if bit 7 2 = true then vd else 0) = vd := by rw [f2]; rfl
    have hk : n1 (8 + 7) ≤ r3 := hk
    have eM : (if (7 : Nat) = 0 then 2 else 1 + 3 * nlb 7) + (a + (b + d)) = 10 + a + b + d := by
      have en : (if (7 : Nat) = 0 then 2 else 1 + 3 * nlb 7) = 10 := by decide
      rw [en]; omega
    rw [i0, i1, i2, eM]
    rw [eM] at hb
    have := e3 a b d _ c0.1 c1.1 c2.1 (show a + b + d + 10 = 10 + a + b + d by omega) hb
    omega
