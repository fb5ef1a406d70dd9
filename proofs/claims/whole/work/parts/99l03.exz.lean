/-! THE SAME WHERE NO VARIABLE OF THE CONTEXT IS EXPOSED FOR AN INSTANCE: then the values of the context stay. -/
/-- under an instance: nothing is exposed, and there is no choice -/
def EX1 : Nat → Ty → List Ty → List (Nat × Ty × Nat) → Prop
  | 0, _, _, _ => True
  | f + 1, t, Γ, Δ => (nKd t = 6 → EX1 f (nY t) Γ ((nPl t, nX t, Γ.length) :: Δ)) ∧ (nKd t = 7 ∨ nKd t = 9 ∨ nKd t = 11 → EX1 f (nX t) Γ Δ ∧ ∀ S, tyF f (nX t) Γ Δ = .inr S → hd S < 16) ∧ (nKd t = 8 → EX1 f (nY t) (nX t :: Γ) Δ) ∧ (nKd t = 10 → ∀ g, g < 3 → bit (nMk t) g = true → EX1 f (nP t g) Γ Δ) ∧ nKd t ≠ 12
/-- elsewhere: only what is instanced must be so -/
def EX0 : Nat → Ty → List Ty → List (Nat × Ty × Nat) → Prop
  | 0, _, _, _ => True
  | f + 1, t, Γ, Δ => (nKd t = 6 → EX0 f (nY t) Γ ((nPl t, nX t, Γ.length) :: Δ)) ∧ (nKd t = 7 ∨ nKd t = 11 → EX0 f (nX t) Γ Δ) ∧ (nKd t = 8 → EX0 f (nY t) (nX t :: Γ) Δ) ∧ (nKd t = 9 → EX1 f (nX t) Γ Δ ∧ ∀ S, tyF f (nX t) Γ Δ = .inr S → hd S < 16) ∧ (nKd t = 10 → ∀ g, g < 3 → bit (nMk t) g = true → EX0 f (nP t g) Γ Δ) ∧ (nKd t = 12 → EX0 f (nX t) Γ Δ ∧ EX0 f (nY t) Γ Δ)
def GV1 (t0 : Nat) (n1 : Nat → Nat) (s2 : Nat) (h : Nat → Nat) : Nat → Ty → Nat → List Nat → List Ty → List (Nat × Ty × Nat) → Nat
  | 0, _, _, _, _, _ => 0
  | f + 1, t, z, ω, Γ, Δ =>
    if nKd t = 5 then (match dlk Δ (nMk t) with
      | none => 0
      | some a => nz t0 n1 s2 (hzx h z) ω (lft a.2 (Γ.length - a.2) a.1))
    else if nKd t = 6 then n1 1 + (nz t0 n1 s2 (hzx h z) ω (nX t) + GV1 t0 n1 s2 h f (nY t) z ω Γ ((nPl t, nX t, Γ.length) :: Δ))
    else if nKd t = 7 then GV1 t0 n1 s2 h f (nX t) z ω Γ Δ
    else if nKd t = 8 then s2 + GV1 t0 n1 s2 h f (nY t) z (hzx h z (nz t0 n1 s2 (hzx h z) ω (nX t)) :: ω) (nX t :: Γ) Δ
    else if nKd t = 9 then GV1 t0 n1 s2 h f (nX t) (max z (nz t0 n1 s2 (hzx h z) ω (nY t))) ω Γ Δ
    else if nKd t = 10 then n1 (8 + nMk t) + ((if bit (nMk t) 0 = true then GV1 t0 n1 s2 h f (nX t) z ω Γ Δ else 0) + ((if bit (nMk t) 1 = true then GV1 t0 n1 s2 h f (nY t) z ω Γ Δ else 0) + (if bit (nMk t) 2 = true then GV1 t0 n1 s2 h f (nZ t) z ω Γ Δ else 0)))
    else if nKd t = 11 then GV1 t0 n1 s2 h f (nX t) z ω Γ Δ
    else 0
def GV0 (t0 : Nat) (n1 : Nat → Nat) (s2 : Nat) (h : Nat → Nat) : Nat → Ty → List Nat → List Ty → List (Nat × Ty × Nat) → Nat
  | 0, _, _, _, _ => 0
  | f + 1, t, ω, Γ, Δ =>
    if nKd t = 5 then (match dlk Δ (nMk t) with
      | none => 0
      | some a => nz t0 n1 s2 h ω (lft a.2 (Γ.length - a.2) a.1))
    else if nKd t = 6 then n1 1 + (nz t0 n1 s2 h ω (nX t) + GV0 t0 n1 s2 h f (nY t) ω Γ ((nPl t, nX t, Γ.length) :: Δ))
    else if nKd t = 7 then GV0 t0 n1 s2 h f (nX t) ω Γ Δ
    else if nKd t = 8 then s2 + GV0 t0 n1 s2 h f (nY t) (h (nz t0 n1 s2 h ω (nX t)) :: ω) (nX t :: Γ) Δ
    else if nKd t = 9 then GV1 t0 n1 s2 h f (nX t) (nz t0 n1 s2 h ω (nY t)) ω Γ Δ
    else if nKd t = 10 then n1 (8 + nMk t) + ((if bit (nMk t) 0 = true then GV0 t0 n1 s2 h f (nX t) ω Γ Δ else 0) + ((if bit (nMk t) 1 = true then GV0 t0 n1 s2 h f (nY t) ω Γ Δ else 0) + (if bit (nMk t) 2 = true then GV0 t0 n1 s2 h f (nZ t) ω Γ Δ else 0)))
    else if nKd t = 11 then GV0 t0 n1 s2 h f (nX t) ω Γ Δ
    else (if nKd (nX t) = 5 ∧ nKd (nY t) = 5 ∧ nMk (nX t) = nMk (nY t) then GV0 t0 n1 s2 h f (nX t) ω Γ Δ else GV0 t0 n1 s2 h f (nX t) ω Γ Δ + GV0 t0 n1 s2 h f (nY t) ω Γ Δ)
/-- one name, one type -/
theorem tyF_name {f : Nat} {x y : Ty} {Γ : List Ty} {Δ : List (Nat × Ty × Nat)} {S T : Ty} (x5 : nKd x = 5) (y5 : nKd y = 5) (e : nMk x = nMk y) (hS : tyF f x Γ Δ = .inr S) (hT : tyF f y Γ Δ = .inr T) : S = T := by
  cases f with
  | zero => cases hS
  | succ f =>
    unfold tyF at hS hT
    rw [if_pos x5] at hS
    rw [if_pos y5, ← e] at hT
    have e1 := (tyO_in hS).1
    have e2 := (tyO_in hT).1
    rw [e1] at e2
    injection e2
section PmL3
variable {t0 s2 : Nat} {n1 h h' : Nat → Nat}
theorem hzx_0 : hzx h 0 = h := by
  funext y
  unfold hzx
  omega
theorem expo_lo {Γ : List Ty} {S : Ty} (e : hd S < 16) : ∀ {f : Nat}, expo Γ f S = S
  | 0 => rfl
  | f + 1 => by
    show (if 16 ≤ hd S then _ else S) = S
    rw [if_neg (by omega)]
theorem nz_inst1 (hm : ∀ y y', y ≤ y' → h y ≤ h y') {z : Nat} {ω : List Nat} {Γ : List Ty} {B C Q : Ty} (hl : ω.length = Γ.length) (oQ : ok Γ.length Q = true) (oC : ok (Γ.length + 1) C = true) : nz t0 n1 s2 (hzx h z) ω (sbt Γ.length Q 0 C) ≤ nz t0 n1 s2 (hzx h (max z (nz t0 n1 s2 (hzx h z) ω Q))) ω (tAll B C) := by
  have e := nz_sbt (t0 := t0) (n1 := n1) (s2 := s2) (h := hzx h z) Q ω (by rw [hl]; exact oQ) _ C [] (Nat.le_refl _) (by rw [hl]; exact oC)
  rw [List.nil_append, List.nil_append, hl] at e
  have e : nz t0 n1 s2 (hzx h z) ω (sbt Γ.length Q 0 C) = nz t0 n1 s2 (hzx h z) (nz t0 n1 s2 (hzx h z) ω Q :: ω) C := e
  rw [e, nz_all]
  have q := nz_mono (t0 := t0) (n1 := n1) (s2 := s2) (h := hzx h z) (h' := hzx h (max z (nz t0 n1 s2 (hzx h z) ω Q))) (fun y y' hy => by
    have := hm y y' hy
    unfold hzx; omega) _ C (nz t0 n1 s2 (hzx h z) ω Q :: ω) (hzx h (max z (nz t0 n1 s2 (hzx h z) ω Q)) (nz t0 n1 s2 (hzx h (max z (nz t0 n1 s2 (hzx h z) ω Q))) ω B) :: ω) (Nat.le_refl _) (by rw [List.length_cons, List.length_cons]) (by rw [List.length_cons, hl]; exact oC) (fun j hj => by
    rw [vw_cons, vw_cons]
    by_cases e : j = ω.length
    · rw [if_pos e, if_pos e]
      unfold hzx; omega
    · rw [if_neg e, if_neg e]; exact Nat.le_refl _)
  omega
/-- the type of a term, under an instance -/
theorem tyF_nz1 (hn : NC t0 n1 s2 h) (hm : ∀ y y', y ≤ y' → h y ≤ h y') : ∀ (f : Nat) (t : Ty) (Γ : List Ty) (Δ : List (Nat × Ty × Nat)) (A : Ty) (z : Nat) (ω : List Nat), TWf f Γ.length (Δ.map (fun a => a.1)) t → TE Γ Δ → EX1 f t Γ Δ → ω.length = Γ.length → tyF f t Γ Δ = .inr A → nz t0 n1 s2 (hzx h z) ω A ≤ GV1 t0 n1 s2 h f t z ω Γ Δ
  | 0, _, _, _, _, _, _, w, _, _, _, _ => w.elim
  | f + 1, t, Γ, Δ, A, z, ω, w, he, hx, hl, e0 => by
    obtain ⟨v6, v7, v8, v10, v12⟩ := hx
    have ok0 := tyF_ok (f + 1) t Γ Δ A w he e0
    obtain ⟨w0, w5, w6, w7, w8, w9, w10, w11, w12⟩ := w
    have ih := fun t' Γ' Δ' A' z' ω' => tyF_nz1 hn hm f t' Γ' Δ' A' z' ω'
    have io := fun t' Γ' Δ' A' => tyF_ok f t' Γ' Δ' A'
    unfold tyF at e0
    unfold GV1
    by_cases c5 : nKd t = 5
    · rw [if_pos c5] at e0 ⊢
      obtain ⟨e, l⟩ := tyO_in e0
      obtain ⟨a, ha⟩ := dlk_some (w5 c5)
      rw [ha] at e
      injection e with e
      rw [ha]
      show _ ≤ nz t0 n1 s2 (hzx h z) ω (lft a.2 (Γ.length - a.2) a.1)
      rw [← e]
      exact Nat.le_refl _
    rw [if_neg c5] at e0 ⊢
    by_cases c6 : nKd t = 6
    · rw [if_pos c6] at e0 ⊢
      obtain ⟨B, hB, h1⟩ := tbd_in e0
      obtain ⟨-, x1, x2, x3⟩ := w6 c6
      have q := ih (nY t) Γ ((nPl t, nX t, Γ.length) :: Δ) B z ω x3 (he.lam x1 x2) (v6 c6) hl hB
      obtain ⟨e, l⟩ := szt_in h1
      subst e
      rw [nz_fun]; omega
    rw [if_neg c6] at e0 ⊢
    by_cases c7 : nKd t = 7
    · rw [if_pos c7] at e0 ⊢
      obtain ⟨S, hS, h1⟩ := tbd_in e0
      obtain ⟨T, hT, h1⟩ := tbd_in h1
      obtain ⟨e, l⟩ := tyO_in h1
      obtain ⟨x1, x2⟩ := w7 (Or.inl c7)
      obtain ⟨y1, y2⟩ := v7 (Or.inl c7)
      have y2 := y2 S hS
      obtain ⟨s1, s2'⟩ := io _ _ _ _ x1 he hS
      obtain ⟨o1, o2⟩ := expo_ok he.1 he.2.1 Γ.length S s1 s2'
      have q := ih _ _ _ _ z ω x1 he y1 hl hS
      have q2 : nz t0 n1 s2 (hzx h z) ω (expo Γ Γ.length S) ≤ nz t0 n1 s2 (hzx h z) ω S := by rw [expo_lo y2]; exact Nat.le_refl _
      unfold tyA at e
      by_cases c : hd (expo Γ Γ.length S) = 1 ∧ bel Γ T (k1 (expo Γ Γ.length S)) = true
      · rw [if_pos c] at e
        injection e with e
        subst e
        obtain ⟨a, b, e2, ha, hb⟩ := hd_is_fun o1 c.1
        rw [e2, nz_fun] at q2
        rw [e2]
        show nz t0 n1 s2 (hzx h z) ω b ≤ _
        omega
      · rw [if_neg c] at e; cases e
    rw [if_neg c7] at e0 ⊢
    by_cases c8 : nKd t = 8
    · rw [if_pos c8] at e0 ⊢
      obtain ⟨B, hB, h1⟩ := tbd_in e0
      obtain ⟨x1, x2, x3⟩ := w8 c8
      have q := ih (nY t) (nX t :: Γ) Δ B z (hzx h z (nz t0 n1 s2 (hzx h z) ω (nX t)) :: ω) x3 (he.all x1 x2) (v8 c8) (by rw [List.length_cons, List.length_cons, hl]) hB
      obtain ⟨e, l⟩ := szt_in h1
      subst e
      rw [nz_all]; omega
    rw [if_neg c8] at e0 ⊢
    by_cases c9 : nKd t = 9
    · rw [if_pos c9] at e0 ⊢
      obtain ⟨S, hS, h1⟩ := tbd_in e0
      obtain ⟨e, l⟩ := tyO_in h1
      obtain ⟨x1, x2, x3⟩ := w9 c9
      obtain ⟨y1, y2⟩ := v7 (Or.inr (Or.inl c9))
      have y2 := y2 S hS
      obtain ⟨s1, s2'⟩ := io _ _ _ _ x1 he hS
      obtain ⟨o1, o2⟩ := expo_ok he.1 he.2.1 Γ.length S s1 s2'
      unfold tyI at e
      by_cases c : hd (expo Γ Γ.length S) = 2 ∧ bel Γ (nY t) (k1 (expo Γ Γ.length S)) = true
      · rw [if_pos c] at e
        injection e with e
        subst e
        obtain ⟨a, b, e2, ha, hb⟩ := hd_is_all o1 c.1
        have q := ih _ _ _ _ (max z (nz t0 n1 s2 (hzx h z) ω (nY t))) ω x1 he y1 hl hS
        have q3 := nz_inst1 (t0 := t0) (n1 := n1) (s2 := s2) hm (z := z) (ω := ω) (Γ := Γ) (B := a) hl x2 hb
        rw [expo_lo y2] at e2 ⊢
        rw [e2] at q ⊢
        show nz t0 n1 s2 (hzx h z) ω (sbt Γ.length (nY t) 0 b) ≤ _
        omega
      · rw [if_neg c] at e; cases e
    rw [if_neg c9] at e0 ⊢
    by_cases c10 : nKd t = 10
    · rw [if_pos c10] at e0 ⊢
      obtain ⟨A1, hA1, h1⟩ := tbd_in e0
      obtain ⟨A2, hA2, h1⟩ := tbd_in h1
      obtain ⟨A3, hA3, h1⟩ := tbd_in h1
      obtain ⟨e, l⟩ := szt_in h1
      obtain ⟨m8, x1⟩ := w10 c10
      subst e
      have key : ∀ (g : Nat) (B : Ty), g < 3 → (if bit (nMk t) g = true then tyF f (nP t g) Γ Δ else .inr .nil) = .inr B → nz t0 n1 s2 (hzx h z) ω B ≤ (if bit (nMk t) g = true then GV1 t0 n1 s2 h f (nP t g) z ω Γ Δ else 0) := by
        intro g B hg hB
        by_cases c : bit (nMk t) g = true
        · rw [if_pos c] at hB ⊢
          exact ih _ _ _ _ z ω (x1 g hg c) he (v10 c10 g hg c) hl hB
        · rw [if_neg c] at hB ⊢
          injection hB with hB
          rw [← hB, nz_nil]; exact Nat.le_refl _
      have q0 := key 0 A1 (by decide) hA1
      have q1 := key 1 A2 (by decide) hA2
      have q2 := key 2 A3 (by decide) hA3
      have p0 : nP t 0 = nX t := rfl
      have p1 : nP t 1 = nY t := rfl
      have p2 : nP t 2 = nZ t := rfl
      rw [p0] at q0
      rw [p1] at q1
      rw [p2] at q2
      rw [nz_rec]; omega
    rw [if_neg c10] at e0 ⊢
    by_cases c11 : nKd t = 11
    · rw [if_pos c11] at e0 ⊢
      obtain ⟨S, hS, h1⟩ := tbd_in e0
      obtain ⟨e, l⟩ := tyO_in h1
      obtain ⟨m3, x1⟩ := w11 c11
      obtain ⟨y1, y2⟩ := v7 (Or.inr (Or.inr c11))
      have y2 := y2 S hS
      obtain ⟨s1, s2'⟩ := io _ _ _ _ x1 he hS
      obtain ⟨o1, o2⟩ := expo_ok he.1 he.2.1 Γ.length S s1 s2'
      have q := ih _ _ _ _ z ω x1 he y1 hl hS
      have q2 : nz t0 n1 s2 (hzx h z) ω (expo Γ Γ.length S) ≤ nz t0 n1 s2 (hzx h z) ω S := by rw [expo_lo y2]; exact Nat.le_refl _
      unfold tyD at e
      by_cases c : (8 ≤ hd (expo Γ Γ.length S) ∧ hd (expo Γ Γ.length S) < 16) ∧ bit (hd (expo Γ Γ.length S) - 8) (nMk t) = true
      · rw [if_pos c] at e
        injection e with e
        subst e
        obtain ⟨m, x, y, w, hm', e2⟩ := hd_is_rec o1 c.1.1 c.1.2
        rw [e2, nz_rec] at q2
        rw [e2]
        rcases (show nMk t = 0 ∨ nMk t = 1 ∨ nMk t = 2 by omega) with e | e | e
        · rw [e, (pt_rec hm' x y w).1]; omega
        · rw [e, (pt_rec hm' x y w).2.1]; omega
        · rw [e, (pt_rec hm' x y w).2.2]; omega
      · rw [if_neg c] at e; cases e
    rw [if_neg c11] at e0 ⊢
    exact absurd (show nKd t = 12 by omega) v12
/-- the type of a term -/
theorem tyF_nz0 (hn : NC t0 n1 s2 h) (hm : ∀ y y', y ≤ y' → h y ≤ h y') : ∀ (f : Nat) (t : Ty) (Γ : List Ty) (Δ : List (Nat × Ty × Nat)) (A : Ty) (ω : List Nat), TWf f Γ.length (Δ.map (fun a => a.1)) t → TE Γ Δ → EX0 f t Γ Δ → CV t0 n1 s2 h ω Γ → tyF f t Γ Δ = .inr A → nz t0 n1 s2 h ω A ≤ GV0 t0 n1 s2 h f t ω Γ Δ
  | 0, _, _, _, _, _, w, _, _, _, _ => w.elim
  | f + 1, t, Γ, Δ, A, ω, w, he, hx, hv, e0 => by
    obtain ⟨v6, v7, v8, v9, v10, v12⟩ := hx
    have ok0 := tyF_ok (f + 1) t Γ Δ A w he e0
    obtain ⟨w0, w5, w6, w7, w8, w9, w10, w11, w12⟩ := w
    have ih := fun t' Γ' Δ' A' ω' => tyF_nz0 hn hm f t' Γ' Δ' A' ω'
    have io := fun t' Γ' Δ' A' => tyF_ok f t' Γ' Δ' A'
    have hl := hv.len
    unfold tyF at e0
    unfold GV0
    by_cases c5 : nKd t = 5
    · rw [if_pos c5] at e0 ⊢
      obtain ⟨e, l⟩ := tyO_in e0
      obtain ⟨a, ha⟩ := dlk_some (w5 c5)
      rw [ha] at e
      injection e with e
      rw [ha]
      show _ ≤ nz t0 n1 s2 h ω (lft a.2 (Γ.length - a.2) a.1)
      rw [← e]
      exact Nat.le_refl _
    rw [if_neg c5] at e0 ⊢
    by_cases c6 : nKd t = 6
    · rw [if_pos c6] at e0 ⊢
      obtain ⟨B, hB, h1⟩ := tbd_in e0
      obtain ⟨-, x1, x2, x3⟩ := w6 c6
      have q := ih (nY t) Γ ((nPl t, nX t, Γ.length) :: Δ) B ω x3 (he.lam x1 x2) (v6 c6) hv hB
      obtain ⟨e, l⟩ := szt_in h1
      subst e
      rw [nz_fun]; omega
    rw [if_neg c6] at e0 ⊢
    by_cases c7 : nKd t = 7
    · rw [if_pos c7] at e0 ⊢
      obtain ⟨S, hS, h1⟩ := tbd_in e0
      obtain ⟨T, hT, h1⟩ := tbd_in h1
      obtain ⟨e, l⟩ := tyO_in h1
      obtain ⟨x1, x2⟩ := w7 (Or.inl c7)
      obtain ⟨s1, s2'⟩ := io _ _ _ _ x1 he hS
      obtain ⟨o1, o2⟩ := expo_ok he.1 he.2.1 Γ.length S s1 s2'
      have q := ih _ _ _ _ ω x1 he (v7 (Or.inl c7)) hv hS
      have q2 := expo_nz he.1 hv Γ.length S s1
      unfold tyA at e
      by_cases c : hd (expo Γ Γ.length S) = 1 ∧ bel Γ T (k1 (expo Γ Γ.length S)) = true
      · rw [if_pos c] at e
        injection e with e
        subst e
        obtain ⟨a, b, e2, ha, hb⟩ := hd_is_fun o1 c.1
        rw [e2, nz_fun] at q2
        rw [e2]
        show nz t0 n1 s2 h ω b ≤ _
        omega
      · rw [if_neg c] at e; cases e
    rw [if_neg c7] at e0 ⊢
    by_cases c8 : nKd t = 8
    · rw [if_pos c8] at e0 ⊢
      obtain ⟨B, hB, h1⟩ := tbd_in e0
      obtain ⟨x1, x2, x3⟩ := w8 c8
      have q := ih (nY t) (nX t :: Γ) Δ B _ x3 (he.all x1 x2) (v8 c8) (hv.ext hn he.1 x1) hB
      obtain ⟨e, l⟩ := szt_in h1
      subst e
      rw [nz_all]; omega
    rw [if_neg c8] at e0 ⊢
    by_cases c9 : nKd t = 9
    · rw [if_pos c9] at e0 ⊢
      obtain ⟨S, hS, h1⟩ := tbd_in e0
      obtain ⟨e, l⟩ := tyO_in h1
      obtain ⟨x1, x2, x3⟩ := w9 c9
      obtain ⟨y1, y2⟩ := v9 c9
      have y2 := y2 S hS
      obtain ⟨s1, s2'⟩ := io _ _ _ _ x1 he hS
      obtain ⟨o1, o2⟩ := expo_ok he.1 he.2.1 Γ.length S s1 s2'
      unfold tyI at e
      by_cases c : hd (expo Γ Γ.length S) = 2 ∧ bel Γ (nY t) (k1 (expo Γ Γ.length S)) = true
      · rw [if_pos c] at e
        injection e with e
        subst e
        obtain ⟨a, b, e2, ha, hb⟩ := hd_is_all o1 c.1
        have q := tyF_nz1 hn hm f (nX t) Γ Δ S (nz t0 n1 s2 h ω (nY t)) ω x1 he y1 hl hS
        have q3 := nz_inst1 (t0 := t0) (n1 := n1) (s2 := s2) hm (z := 0) (ω := ω) (Γ := Γ) (B := a) hl x2 hb
        rw [hzx_0, Nat.max_eq_right (Nat.zero_le _)] at q3
        rw [expo_lo y2] at e2 ⊢
        rw [e2] at q ⊢
        show nz t0 n1 s2 h ω (sbt Γ.length (nY t) 0 b) ≤ _
        omega
      · rw [if_neg c] at e; cases e
    rw [if_neg c9] at e0 ⊢
    by_cases c10 : nKd t = 10
    · rw [if_pos c10] at e0 ⊢
      obtain ⟨A1, hA1, h1⟩ := tbd_in e0
      obtain ⟨A2, hA2, h1⟩ := tbd_in h1
      obtain ⟨A3, hA3, h1⟩ := tbd_in h1
      obtain ⟨e, l⟩ := szt_in h1
      obtain ⟨m8, x1⟩ := w10 c10
      subst e
      have key : ∀ (g : Nat) (B : Ty), g < 3 → (if bit (nMk t) g = true then tyF f (nP t g) Γ Δ else .inr .nil) = .inr B → nz t0 n1 s2 h ω B ≤ (if bit (nMk t) g = true then GV0 t0 n1 s2 h f (nP t g) ω Γ Δ else 0) := by
        intro g B hg hB
        by_cases c : bit (nMk t) g = true
        · rw [if_pos c] at hB ⊢
          exact ih _ _ _ _ ω (x1 g hg c) he (v10 c10 g hg c) hv hB
        · rw [if_neg c] at hB ⊢
          injection hB with hB
          rw [← hB, nz_nil]; exact Nat.le_refl _
      have q0 := key 0 A1 (by decide) hA1
      have q1 := key 1 A2 (by decide) hA2
      have q2 := key 2 A3 (by decide) hA3
      have p0 : nP t 0 = nX t := rfl
      have p1 : nP t 1 = nY t := rfl
      have p2 : nP t 2 = nZ t := rfl
      rw [p0] at q0
      rw [p1] at q1
      rw [p2] at q2
      rw [nz_rec]; omega
    rw [if_neg c10] at e0 ⊢
    by_cases c11 : nKd t = 11
    · rw [if_pos c11] at e0 ⊢
      obtain ⟨S, hS, h1⟩ := tbd_in e0
      obtain ⟨e, l⟩ := tyO_in h1
      obtain ⟨m3, x1⟩ := w11 c11
      obtain ⟨s1, s2'⟩ := io _ _ _ _ x1 he hS
      obtain ⟨o1, o2⟩ := expo_ok he.1 he.2.1 Γ.length S s1 s2'
      have q := ih _ _ _ _ ω x1 he (v7 (Or.inr c11)) hv hS
      have q2 := expo_nz he.1 hv Γ.length S s1
      unfold tyD at e
      by_cases c : (8 ≤ hd (expo Γ Γ.length S) ∧ hd (expo Γ Γ.length S) < 16) ∧ bit (hd (expo Γ Γ.length S) - 8) (nMk t) = true
      · rw [if_pos c] at e
        injection e with e
        subst e
        obtain ⟨m, x, y, w, hm', e2⟩ := hd_is_rec o1 c.1.1 c.1.2
        rw [e2, nz_rec] at q2
        rw [e2]
        rcases (show nMk t = 0 ∨ nMk t = 1 ∨ nMk t = 2 by omega) with e | e | e
        · rw [e, (pt_rec hm' x y w).1]; omega
        · rw [e, (pt_rec hm' x y w).2.1]; omega
        · rw [e, (pt_rec hm' x y w).2.2]; omega
      · rw [if_neg c] at e; cases e
    rw [if_neg c11] at e0 ⊢
    obtain ⟨S, hS, h1⟩ := tbd_in e0
    obtain ⟨T, hT, h1⟩ := tbd_in h1
    obtain ⟨e, l⟩ := tyO_in h1
    obtain ⟨x1, x2⟩ := w7 (Or.inr (by omega))
    obtain ⟨s1, s2'⟩ := io _ _ _ _ x1 he hS
    obtain ⟨t1, t2⟩ := io _ _ _ _ x2 he hT
    have c12 : nKd t = 12 := by omega
    have q1 := ih _ _ _ _ ω x1 he (v12 c12).1 hv hS
    have q2 := ih _ _ _ _ ω x2 he (v12 c12).2 hv hT
    have q3 := cmu_nz hn hv ⟨he.1, s1, t1⟩ e
    by_cases cq : nKd (nX t) = 5 ∧ nKd (nY t) = 5 ∧ nMk (nX t) = nMk (nY t)
    · rw [if_pos cq]
      have ee := tyF_name cq.1 cq.2.1 cq.2.2 hS hT
      subst ee
      have er := cu_lo (w := 0) (show tok (Γ, S, S) from ⟨he.1, s1, s1⟩) (by decide) (bel_refl _ Γ S (Nat.le_refl _) he.1 s1)
      rw [er] at e
      have e : some S = some A := e
      injection e with e
      rw [← e]; exact q1
    · rw [if_neg cq]; omega
end PmL3
