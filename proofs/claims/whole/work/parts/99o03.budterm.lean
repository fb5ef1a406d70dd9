/-! WHAT A TYPE IS WORTH IN A CONTEXT THAT IS CUT, BY CHARACTERS, with chosen instances. -/
/-- under an instance: no instance, no choice, no term for every type -/
def EH : Nat → Ty → Prop
  | 0, _ => True
  | f + 1, t => (nKd t = 6 → EH f (nY t)) ∧ (nKd t = 7 ∨ nKd t = 11 → EH f (nX t)) ∧ nKd t ≠ 8 ∧ nKd t ≠ 9 ∧ (nKd t = 10 → ∀ g, g < 3 → bit (nMk t) g = true → EH f (nP t g)) ∧ nKd t ≠ 12
def EG : Nat → Ty → Prop
  | 0, _ => True
  | f + 1, t => (nKd t = 6 ∨ nKd t = 8 → EG f (nY t)) ∧ (nKd t = 7 ∨ nKd t = 11 → EG f (nX t)) ∧ (nKd t = 9 → EH f (nX t)) ∧ (nKd t = 10 → ∀ g, g < 3 → bit (nMk t) g = true → EG f (nP t g)) ∧ (nKd t = 12 → EG f (nX t) ∧ EG f (nY t))
/-- the characters of the types' binders that stand one inside another -/
def ubd : Nat → Ty → Nat
  | 0, _ => 0
  | f + 1, t => if nKd t = 6 then ubd f (nY t) else if nKd t = 8 then tch (nX t) + 4 + ubd f (nY t) else if nKd t = 7 ∨ nKd t = 11 then ubd f (nX t) else if nKd t = 9 then 0 else max (ubd f (nX t)) (max (ubd f (nY t)) (ubd f (nZ t)))
section PmO3
variable {N t0 fn s2 hv r0 r1 r2 r3 x0 E p c m v m1 m2 m3 v1 v2 v3 : Nat} {n1 h : Nat → Nat} {P Q : List (List Nat)} {F G : FrT} {X : List Nat} {Z : Nat → Nat}
theorem GEv_GB1 : ∀ (f : Nat) (t : Ty) (z : Nat) (ω : List Nat) (Γ : List Ty) (Δ : List (Nat × Ty × Nat)), (5 ≤ nKd t → nKd t ≤ 12 → EH f t → TWf f Γ.length (Δ.map (fun a => a.1)) t → GEv t0 n1 s2 h f true z t ω Γ Δ ≤ GB1 t0 n1 s2 h (eb7 t0 n1 s2 h ω Γ) f t z ω Γ Δ)
  | 0, _, _, _, _, _ => fun _ _ _ w => w.elim
  | f + 1, t, z, ω, Γ, Δ => by
    intro k5 k12 hx w
    obtain ⟨v6, v7, v8, v9, v10, v12⟩ := hx
    obtain ⟨w0, w5, w6, w7, w8, w9, w10, w11, w12⟩ := w
    have ih := fun t' Δ' (e : EH f t') (w : TWf f Γ.length (Δ'.map (fun a => a.1)) t') => GEv_GB1 f t' z ω Γ Δ' (by
      cases f with
      | zero => exact w.elim
      | succ f => exact w.1.1.1) (by
      cases f with
      | zero => exact w.elim
      | succ f => exact w.1.1.2) e w
    unfold GEv GB1
    simp only [↓reduceIte]
    by_cases c5 : nKd t = 5
    · rw [if_pos c5, if_pos c5]
      cases dlk Δ (nMk t) <;> exact Nat.le_refl _
    rw [if_neg c5, if_neg c5]
    by_cases c6 : nKd t = 6
    · rw [if_pos c6, if_pos c6]
      have q := ih (nY t) ((nPl t, nX t, Γ.length) :: Δ) (v6 c6) (w6 c6).2.2.2
      omega
    rw [if_neg c6, if_neg c6]
    by_cases c7 : nKd t = 7
    · rw [if_pos c7, if_pos c7]
      have q := ih (nX t) Δ (v7 (Or.inl c7)) (w7 (Or.inl c7)).1
      omega
    rw [if_neg c7, if_neg c7, if_neg v8, if_neg v8, if_neg v9, if_neg v9]
    by_cases c10 : nKd t = 10
    · rw [if_pos c10, if_pos c10]
      have q0 := fun b => ih (nP t 0) Δ (v10 c10 0 (by decide) b) ((w10 c10).2 0 (by decide) b)
      have q1 := fun b => ih (nP t 1) Δ (v10 c10 1 (by decide) b) ((w10 c10).2 1 (by decide) b)
      have q2 := fun b => ih (nP t 2) Δ (v10 c10 2 (by decide) b) ((w10 c10).2 2 (by decide) b)
      have e0 : nP t 0 = nX t := rfl
      have e1 : nP t 1 = nY t := rfl
      have e2 : nP t 2 = nZ t := rfl
      rw [e0] at q0
      rw [e1] at q1
      rw [e2] at q2
      have a0 : (if bit (nMk t) 0 = true then GEv t0 n1 s2 h f true z (nX t) ω Γ Δ else 0) ≤ (if bit (nMk t) 0 = true then GB1 t0 n1 s2 h (eb7 t0 n1 s2 h ω Γ) f (nX t) z ω Γ Δ else 0) := by
        by_cases b : bit (nMk t) 0 = true
        · rw [if_pos b, if_pos b]; exact q0 b
        · rw [if_neg b, if_neg b]; exact Nat.le_refl _
      have a1 : (if bit (nMk t) 1 = true then GEv t0 n1 s2 h f true z (nY t) ω Γ Δ else 0) ≤ (if bit (nMk t) 1 = true then GB1 t0 n1 s2 h (eb7 t0 n1 s2 h ω Γ) f (nY t) z ω Γ Δ else 0) := by
        by_cases b : bit (nMk t) 1 = true
        · rw [if_pos b, if_pos b]; exact q1 b
        · rw [if_neg b, if_neg b]; exact Nat.le_refl _
      have a2 : (if bit (nMk t) 2 = true then GEv t0 n1 s2 h f true z (nZ t) ω Γ Δ else 0) ≤ (if bit (nMk t) 2 = true then GB1 t0 n1 s2 h (eb7 t0 n1 s2 h ω Γ) f (nZ t) z ω Γ Δ else 0) := by
        by_cases b : bit (nMk t) 2 = true
        · rw [if_pos b, if_pos b]; exact q2 b
        · rw [if_neg b, if_neg b]; exact Nat.le_refl _
      omega
    rw [if_neg c10, if_neg c10]
    by_cases c11 : nKd t = 11
    · rw [if_pos c11, if_pos c11]
      have q := ih (nX t) Δ (v7 (Or.inr c11)) (w11 c11).2
      omega
    · exact absurd (show nKd t = 12 by omega) v12
/-- two fields, three fields -/
theorem BF.rec2 (h : psc N P Q F X fn s2 r0 r1 r2 r3 = true) (hx : PXk N P F X fn s2 r1 = true) (hz : ZOk Z) (h21 : r2 ≤ r1) (b1 : BF P E p Z c m1 v1) (b2 : BF P E p Z c m2 v2) (hb : c + 2 * (m1 + m2 + 7) ≤ N) {r : Nat} (hr : r ≤ r2) (c2 : 2 ≤ c) : BF P E p Z c (m1 + m2 + 7) (r + (v1 + v2)) := by
  obtain ⟨n, s, a1, a2, a3, a4, a5, a6⟩ := b1
  obtain ⟨n', s', a1', a2', a3', a4', a5', a6'⟩ := b2
  have zz := Nat.mul_le_mul_left p (hz.2.2 s s')
  rw [Nat.mul_add] at zz
  have en : (n + n') * E = n * E + n' * E := Nat.add_mul _ _ _
  refine ⟨n + n', s + s', by omega, by omega, by omega, fun e => by rw [a4 (by omega), a4' (by omega)], fun _ => by omega, ?_⟩
  have z0 : pg0 P c 0 = 0 := rfl
  have one : ∀ k, c + 2 * (k + 4) ≤ N → r1 + pg0 P c k ≤ pg0 P c (k + 4) := by
    intro k hk
    rw [pg0_pos (P := P) (c := c) (m := k + 4) (by omega)]
    by_cases e : k = 0
    · rw [e, z0]
      have := PX_4 hx (c := c) (by omega) c2
      show r1 + 0 ≤ pg P c 4
      omega
    · rw [pg0_pos (by omega)]
      exact (psc_m h (c := c) (m := k) (by omega) (by omega)).2.2.2.1 hk
  have key : r2 + (pg0 P c (m1 - s) + pg0 P c (m2 - s')) ≤ pg0 P c (m1 + m2 + 7 - (s + s')) := by
    by_cases e1 : m1 - s = 0
    · have q1 := one (m2 - s') (by omega)
      have q2 := pg0_up h (c := c) (m := m2 - s' + 4) (k := m1 + m2 + 7 - (s + s')) (by omega) (by omega)
      rw [e1, z0]; omega
    by_cases e2 : m2 - s' = 0
    · have q1 := one (m1 - s) (by omega)
      have q2 := pg0_up h (c := c) (m := m1 - s + 4) (k := m1 + m2 + 7 - (s + s')) (by omega) (by omega)
      rw [e2, z0]; omega
    rw [pg0_pos (by omega), pg0_pos (by omega), pg0_pos (by omega)]
    have q1 := (psc_k h (c := c) (m := m1 - s) (k := m2 - s') (by omega) (by omega) (by omega)).1
    have q2 := (psc_m h (c := c) (m := (m1 - s) + (m2 - s')) (by omega) (by omega)).2.2.2.2.2 (by omega) (by omega)
    have q3 := psc_up h (c := c) (m := (m1 - s) + (m2 - s') + 7) (k := m1 + m2 + 7 - (s + s')) (by omega) (by omega) (by omega)
    omega
  omega
theorem BF.rec3 (h : psc N P Q F X fn s2 r0 r1 r2 r3 = true) (hx : PXk N P F X fn s2 r1 = true) (hz : ZOk Z) (h21 : r2 ≤ r1) (h32 : r3 ≤ r2) (b1 : BF P E p Z c m1 v1) (b2 : BF P E p Z c m2 v2) (b3 : BF P E p Z c m3 v3) (hb : c + 2 * (m1 + m2 + m3 + 10) ≤ N) {r : Nat} (hr : r ≤ r3) (c2 : 2 ≤ c) : BF P E p Z c (m1 + m2 + m3 + 10) (r + (v1 + (v2 + v3))) := by
  obtain ⟨n, s, a1, a2, a3, a4, a5, a6⟩ := b1
  obtain ⟨n', s', a1', a2', a3', a4', a5', a6'⟩ := b2
  obtain ⟨n'', s'', a1'', a2'', a3'', a4'', a5'', a6''⟩ := b3
  have zz := Nat.mul_le_mul_left p (hz.2.2 s s')
  have zz' := Nat.mul_le_mul_left p (hz.2.2 (s + s') s'')
  rw [Nat.mul_add] at zz zz'
  have en : (n + n' + n'') * E = n * E + n' * E + n'' * E := by rw [Nat.add_mul, Nat.add_mul]
  refine ⟨n + n' + n'', s + s' + s'', by omega, by omega, by omega, fun e => by rw [a4 (by omega), a4' (by omega), a4'' (by omega)], fun _ => by omega, ?_⟩
  have z0 : pg0 P c 0 = 0 := rfl
  have one : ∀ k, c + 2 * (k + 4) ≤ N → r1 + pg0 P c k ≤ pg0 P c (k + 4) := by
    intro k hk
    rw [pg0_pos (P := P) (c := c) (m := k + 4) (by omega)]
    by_cases e : k = 0
    · rw [e, z0]
      have := PX_4 hx (c := c) (by omega) c2
      show r1 + 0 ≤ pg P c 4
      omega
    · rw [pg0_pos (by omega)]
      exact (psc_m h (c := c) (m := k) (by omega) (by omega)).2.2.2.1 hk
  have two : ∀ k l, c + 2 * (k + l + 7) ≤ N → r2 + (pg0 P c k + pg0 P c l) ≤ pg0 P c (k + l + 7) := by
    intro k l hk
    by_cases e1 : k = 0
    · have q1 := one l (by omega)
      have q2 := pg0_up h (c := c) (m := l + 4) (k := k + l + 7) (by omega) (by omega)
      rw [e1, z0] at *; omega
    by_cases e2 : l = 0
    · have q1 := one k (by omega)
      have q2 := pg0_up h (c := c) (m := k + 4) (k := k + l + 7) (by omega) (by omega)
      rw [e2, z0] at *; omega
    rw [pg0_pos (by omega), pg0_pos (by omega), pg0_pos (by omega)]
    have q1 := (psc_k h (c := c) (m := k) (k := l) (by omega) (by omega) (by omega)).1
    have q2 := (psc_m h (c := c) (m := k + l) (by omega) (by omega)).2.2.2.2.2 (by omega) hk
    omega
  have key : r3 + (pg0 P c (m1 - s) + (pg0 P c (m2 - s') + pg0 P c (m3 - s''))) ≤ pg0 P c (m1 + m2 + m3 + 10 - (s + s' + s'')) := by
    by_cases e1 : m1 - s = 0
    · have q1 := two (m2 - s') (m3 - s'') (by omega)
      have q2 := pg0_up h (c := c) (m := (m2 - s') + (m3 - s'') + 7) (k := m1 + m2 + m3 + 10 - (s + s' + s'')) (by omega) (by omega)
      rw [e1, z0]; omega
    by_cases e2 : m2 - s' = 0
    · have q1 := two (m1 - s) (m3 - s'') (by omega)
      have q2 := pg0_up h (c := c) (m := (m1 - s) + (m3 - s'') + 7) (k := m1 + m2 + m3 + 10 - (s + s' + s'')) (by omega) (by omega)
      rw [e2, z0]; omega
    by_cases e3 : m3 - s'' = 0
    · have q1 := two (m1 - s) (m2 - s') (by omega)
      have q2 := pg0_up h (c := c) (m := (m1 - s) + (m2 - s') + 7) (k := m1 + m2 + m3 + 10 - (s + s' + s'')) (by omega) (by omega)
      rw [e3, z0]; omega
    rw [pg0_pos (by omega), pg0_pos (by omega), pg0_pos (by omega), pg0_pos (by omega)]
    have q0 := (psc_k h (c := c) (m := m1 - s) (k := m2 - s') (by omega) (by omega) (by omega)).1
    have q1 := (psc_k h (c := c) (m := (m1 - s) + (m2 - s')) (k := m3 - s'') (by omega) (by omega) (by omega)).2.1 (by omega) (by omega)
    have q2 := psc_up h (c := c) (m := (m1 - s) + (m2 - s') + (m3 - s'') + 10) (k := m1 + m2 + m3 + 10 - (s + s' + s'')) (by omega) (by omega) (by omega)
    omega
  omega
end PmO3
