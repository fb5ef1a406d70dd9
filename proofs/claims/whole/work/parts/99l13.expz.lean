/-! INSTANCES OF WHAT IS EXPOSED: under one @ the first header alone is raised, under more of them all. -/
def nz1 (t0 : Nat) (n1 : Nat → Nat) (s2 : Nat) (h : Nat → Nat) (z : Nat) : List Nat → Ty → Nat
  | ω, .tag c (.append s t) => if c = 2 then s2 + nz t0 n1 s2 h (hzx h z (nz t0 n1 s2 h ω s) :: ω) t else n1 c + (nz1 t0 n1 s2 h z ω s + nz1 t0 n1 s2 h z ω t)
  | ω, .tag c .nil => if 16 ≤ c then vw ω (c - 16) else t0
  | ω, .append s t => nz1 t0 n1 s2 h z ω s + nz1 t0 n1 s2 h z ω t
  | _, _ => 0
/-- under an instance: no choice, and no term for every type -/
def EY1 : Nat → Ty → Prop
  | 0, _ => True
  | f + 1, t => (nKd t = 6 → EY1 f (nY t)) ∧ (nKd t = 7 ∨ nKd t = 9 ∨ nKd t = 11 → EY1 f (nX t)) ∧ nKd t ≠ 8 ∧ (nKd t = 10 → ∀ g, g < 3 → bit (nMk t) g = true → EY1 f (nP t g)) ∧ nKd t ≠ 12
def GB2 (t0 : Nat) (n1 : Nat → Nat) (s2 : Nat) (h e : Nat → Nat) : Nat → Ty → Nat → List Nat → List Ty → List (Nat × Ty × Nat) → Nat
  | 0, _, _, _, _, _ => 0
  | f + 1, t, z, ω, Γ, Δ =>
    if nKd t = 5 then (match dlk Δ (nMk t) with
      | none => 0
      | some a => nz t0 n1 s2 (hzx h z) ω (lft a.2 (Γ.length - a.2) a.1))
    else if nKd t = 6 then n1 1 + (nz t0 n1 s2 (hzx h z) ω (nX t) + GB2 t0 n1 s2 h e f (nY t) z ω Γ ((nPl t, nX t, Γ.length) :: Δ))
    else if nKd t = 7 then max (GB2 t0 n1 s2 h e f (nX t) z ω Γ Δ) (e z)
    else if nKd t = 8 then 0
    else if nKd t = 9 then max (GB2 t0 n1 s2 h e f (nX t) (max z (nz t0 n1 s2 (hzx h z) ω (nY t))) ω Γ Δ) (e (max z (nz t0 n1 s2 (hzx h z) ω (nY t))))
    else if nKd t = 10 then n1 (8 + nMk t) + ((if bit (nMk t) 0 = true then GB2 t0 n1 s2 h e f (nX t) z ω Γ Δ else 0) + ((if bit (nMk t) 1 = true then GB2 t0 n1 s2 h e f (nY t) z ω Γ Δ else 0) + (if bit (nMk t) 2 = true then GB2 t0 n1 s2 h e f (nZ t) z ω Γ Δ else 0)))
    else if nKd t = 11 then max (GB2 t0 n1 s2 h e f (nX t) z ω Γ Δ) (e z)
    else 0
def GB1 (t0 : Nat) (n1 : Nat → Nat) (s2 : Nat) (h e : Nat → Nat) : Nat → Ty → Nat → List Nat → List Ty → List (Nat × Ty × Nat) → Nat
  | 0, _, _, _, _, _ => 0
  | f + 1, t, z, ω, Γ, Δ =>
    if nKd t = 5 then (match dlk Δ (nMk t) with
      | none => 0
      | some a => nz1 t0 n1 s2 h z ω (lft a.2 (Γ.length - a.2) a.1))
    else if nKd t = 6 then n1 1 + (nz1 t0 n1 s2 h z ω (nX t) + GB1 t0 n1 s2 h e f (nY t) z ω Γ ((nPl t, nX t, Γ.length) :: Δ))
    else if nKd t = 7 then max (GB1 t0 n1 s2 h e f (nX t) z ω Γ Δ) (e z)
    else if nKd t = 8 then 0
    else if nKd t = 9 then max (GB2 t0 n1 s2 h e f (nX t) (max z (nz t0 n1 s2 (hzx h z) ω (nY t))) ω Γ Δ) (e (max z (nz t0 n1 s2 (hzx h z) ω (nY t))))
    else if nKd t = 10 then n1 (8 + nMk t) + ((if bit (nMk t) 0 = true then GB1 t0 n1 s2 h e f (nX t) z ω Γ Δ else 0) + ((if bit (nMk t) 1 = true then GB1 t0 n1 s2 h e f (nY t) z ω Γ Δ else 0) + (if bit (nMk t) 2 = true then GB1 t0 n1 s2 h e f (nZ t) z ω Γ Δ else 0)))
    else if nKd t = 11 then max (GB1 t0 n1 s2 h e f (nX t) z ω Γ Δ) (e z)
    else 0
section PmLd
variable {t0 s2 : Nat} {n1 h e : Nat → Nat}
theorem nz1_top (z : Nat) (ω : List Nat) : nz1 t0 n1 s2 h z ω tTop = t0 := by simp [tTop, nz1]
theorem nz1_var (z : Nat) (ω : List Nat) (k : Nat) : nz1 t0 n1 s2 h z ω (tVar k) = vw ω k := by simp [tVar, nz1]
theorem nz1_nil (z : Nat) (ω : List Nat) : nz1 t0 n1 s2 h z ω .nil = 0 := by simp [nz1]
theorem nz1_fun (z : Nat) (ω : List Nat) (a b : Ty) : nz1 t0 n1 s2 h z ω (tFun a b) = n1 1 + (nz1 t0 n1 s2 h z ω a + nz1 t0 n1 s2 h z ω b) := by simp [tFun, nz1]
theorem nz1_all (z : Nat) (ω : List Nat) (a b : Ty) : nz1 t0 n1 s2 h z ω (tAll a b) = s2 + nz t0 n1 s2 h (hzx h z (nz t0 n1 s2 h ω a) :: ω) b := by simp [tAll, nz1]
theorem nz1_rec (z : Nat) (ω : List Nat) {m : Nat} (x y w : Ty) : nz1 t0 n1 s2 h z ω (tRec m x y w) = n1 (8 + m) + (nz1 t0 n1 s2 h z ω x + (nz1 t0 n1 s2 h z ω y + nz1 t0 n1 s2 h z ω w)) := by
  unfold tRec
  rw [nz1, if_neg (by omega), nz1]
/-- not more than with all raised -/
theorem nz1_le (hm : ∀ y y', y ≤ y' → h y ≤ h y') (z : Nat) : ∀ (f : Nat) (t : Ty) (ω : List Nat), (flat t).length ≤ f → ok ω.length t = true → nz1 t0 n1 s2 h z ω t ≤ nz t0 n1 s2 (hzx h z) ω t
  | 0, t, ω, hf, o => by have := flat_pos o; omega
  | f + 1, t, ω, hf, o => by
    have hh : ∀ y y', y ≤ y' → h y ≤ hzx h z y' := by
      intro y y' hy
      have := hm y y' hy
      unfold hzx; omega
    rcases ok_cases o with rfl | ⟨k, hk, rfl⟩ | ⟨a, c, rfl, ha, hb⟩ | ⟨a, c, rfl, ha, hb⟩ | ⟨m, x, y, w, hm', rfl, h0, h1, h2⟩
    · rw [nz1_top, nz_top]; exact Nat.le_refl _
    · rw [nz1_var, nz_var]; exact Nat.le_refl _
    · rw [flat_fun, List.length_cons, List.length_append] at hf
      rw [nz1_fun, nz_fun]
      have q1 := nz1_le hm z f a ω (by omega) ha
      have q2 := nz1_le hm z f c ω (by omega) hb
      omega
    · rw [nz1_all, nz_all]
      have q1 := nz_mono (t0 := t0) (n1 := n1) (s2 := s2) hh _ a ω ω (Nat.le_refl _) rfl ha (fun j _ => Nat.le_refl _)
      have q2 := nz_mono (t0 := t0) (n1 := n1) (s2 := s2) hh _ c (hzx h z (nz t0 n1 s2 h ω a) :: ω) (hzx h z (nz t0 n1 s2 (hzx h z) ω a) :: ω) (Nat.le_refl _) rfl (by rw [List.length_cons]; exact hb) (fun j hj => by
        rw [vw_cons, vw_cons]
        by_cases ej : j = ω.length
        · rw [if_pos ej, if_pos ej]
          have := hm _ _ q1
          unfold hzx at this ⊢
          omega
        · rw [if_neg ej, if_neg ej]; exact Nat.le_refl _)
      omega
    · rw [flat_rec, List.length_cons, List.length_append, List.length_append] at hf
      have key : ∀ (i : Nat) (p : Ty), (flat p).length ≤ f → okl ω.length m i p → nz1 t0 n1 s2 h z ω p ≤ nz t0 n1 s2 (hzx h z) ω p := by
        intro i p hp ho
        unfold okl at ho
        by_cases hb : bit m i = true
        · rw [if_pos hb] at ho
          exact nz1_le hm z f p ω hp ho
        · rw [if_neg hb] at ho
          rw [ho, nz1_nil, nz_nil]; exact Nat.le_refl _
      rw [nz1_rec, nz_rec]
      have q0 := key 0 x (by omega) h0
      have q1 := key 1 y (by omega) h1
      have q2 := key 2 w (by omega) h2
      omega
/-- exposed: a bound of the context -/
theorem expo_e {μ : List Nat → Ty → Nat} {ω : List Nat} {Γ : List Ty} {E : Nat} (hc : okc Γ) (hE : ∀ k, k < Γ.length → μ ω (lft k (Γ.length - k) (bnd Γ k)) ≤ E) : ∀ (f : Nat) (S : Ty), ok Γ.length S = true → μ ω (expo Γ f S) ≤ max (μ ω S) E
  | 0, S, _ => Nat.le_max_left _ _
  | f + 1, S, o => by
    show μ ω (if 16 ≤ hd S then expo Γ f (exps Γ S) else S) ≤ _
    by_cases c : 16 ≤ hd S
    · rw [if_pos c]
      obtain ⟨k, hk, rfl⟩ := hd_is_var o c
      rw [exps_var]
      have q := expo_e hc hE f _ (ok_expose hc hk)
      have q2 := hE k hk
      omega
    · rw [if_neg c]; exact Nat.le_max_left _ _
/-- the type of a term, under instances -/
theorem tyF_b2 (hn : NC t0 n1 s2 h) (hm : ∀ y y', y ≤ y' → h y ≤ h y') : ∀ (f : Nat) (t : Ty) (Γ : List Ty) (Δ : List (Nat × Ty × Nat)) (A : Ty) (z : Nat) (ω : List Nat), TWf f Γ.length (Δ.map (fun a => a.1)) t → TE Γ Δ → EY1 f t → ω.length = Γ.length → (∀ z k, k < Γ.length → nz t0 n1 s2 (hzx h z) ω (lft k (Γ.length - k) (bnd Γ k)) ≤ e z) → tyF f t Γ Δ = .inr A → nz t0 n1 s2 (hzx h z) ω A ≤ GB2 t0 n1 s2 h e f t z ω Γ Δ
  | 0, _, _, _, _, _, _, w, _, _, _, _, _ => w.elim
  | f + 1, t, Γ, Δ, A, z, ω, w, he, hx, hl, hE, e0 => by
    obtain ⟨v6, v7, v8, v10, v12⟩ := hx
    have ok0 := tyF_ok (f + 1) t Γ Δ A w he e0
    obtain ⟨w0, w5, w6, w7, w8, w9, w10, w11, w12⟩ := w
    have ih := fun t' Γ' Δ' A' z' ω' => tyF_b2 hn hm f t' Γ' Δ' A' z' ω'
    have io := fun t' Γ' Δ' A' => tyF_ok f t' Γ' Δ' A'
    unfold tyF at e0
    unfold GB2
    by_cases c5 : nKd t = 5
    · rw [if_pos c5] at e0 ⊢
      obtain ⟨ee, l⟩ := tyO_in e0
      obtain ⟨a, ha⟩ := dlk_some (w5 c5)
      rw [ha] at ee
      injection ee with ee
      rw [ha]
      show _ ≤ nz t0 n1 s2 (hzx h z) ω (lft a.2 (Γ.length - a.2) a.1)
      rw [← ee]
      exact Nat.le_refl _
    rw [if_neg c5] at e0 ⊢
    by_cases c6 : nKd t = 6
    · rw [if_pos c6] at e0 ⊢
      obtain ⟨B, hB, h1⟩ := tbd_in e0
      obtain ⟨-, x1, x2, x3⟩ := w6 c6
      have q := ih (nY t) Γ ((nPl t, nX t, Γ.length) :: Δ) B z ω x3 (he.lam x1 x2) (v6 c6) hl hE hB
      obtain ⟨ee, l⟩ := szt_in h1
      subst ee
      rw [nz_fun]; omega
    rw [if_neg c6] at e0 ⊢
    by_cases c7 : nKd t = 7
    · rw [if_pos c7] at e0 ⊢
      obtain ⟨S, hS, h1⟩ := tbd_in e0
      obtain ⟨T, hT, h1⟩ := tbd_in h1
      obtain ⟨ee, l⟩ := tyO_in h1
      obtain ⟨x1, x2⟩ := w7 (Or.inl c7)
      obtain ⟨s1, s2'⟩ := io _ _ _ _ x1 he hS
      obtain ⟨o1, o2⟩ := expo_ok he.1 he.2.1 Γ.length S s1 s2'
      have q := ih _ _ _ _ z ω x1 he (v7 (by omega)) hl hE hS
      have q2 := expo_e (μ := nz t0 n1 s2 (hzx h z)) (ω := ω) he.1 (hE z) Γ.length S s1
      unfold tyA at ee
      by_cases c : hd (expo Γ Γ.length S) = 1 ∧ bel Γ T (k1 (expo Γ Γ.length S)) = true
      · rw [if_pos c] at ee
        injection ee with ee
        subst ee
        obtain ⟨a, b, e2, ha, hb⟩ := hd_is_fun o1 c.1
        rw [e2, nz_fun] at q2
        rw [e2]
        show nz t0 n1 s2 (hzx h z) ω b ≤ _
        omega
      · rw [if_neg c] at ee; cases ee
    rw [if_neg c7] at e0 ⊢
    by_cases c8 : nKd t = 8
    · exact absurd c8 v8
    rw [if_neg c8] at e0 ⊢
    by_cases c9 : nKd t = 9
    · rw [if_pos c9] at e0 ⊢
      obtain ⟨S, hS, h1⟩ := tbd_in e0
      obtain ⟨ee, l⟩ := tyO_in h1
      obtain ⟨x1, x2, x3⟩ := w9 c9
      obtain ⟨s1, s2'⟩ := io _ _ _ _ x1 he hS
      obtain ⟨o1, o2⟩ := expo_ok he.1 he.2.1 Γ.length S s1 s2'
      unfold tyI at ee
      by_cases c : hd (expo Γ Γ.length S) = 2 ∧ bel Γ (nY t) (k1 (expo Γ Γ.length S)) = true
      · rw [if_pos c] at ee
        injection ee with ee
        subst ee
        obtain ⟨a, b, e2, ha, hb⟩ := hd_is_all o1 c.1
        have q := ih _ _ _ _ (max z (nz t0 n1 s2 (hzx h z) ω (nY t))) ω x1 he (v7 (by omega)) hl hE hS
        have q2 := expo_e (μ := nz t0 n1 s2 (hzx h (max z (nz t0 n1 s2 (hzx h z) ω (nY t))))) (ω := ω) he.1 (hE _) Γ.length S s1
        have q3 := nz_inst1 (t0 := t0) (n1 := n1) (s2 := s2) hm (z := z) (ω := ω) (Γ := Γ) (B := a) hl x2 hb
        rw [e2] at q2 ⊢
        show nz t0 n1 s2 (hzx h z) ω (sbt Γ.length (nY t) 0 b) ≤ _
        omega
      · rw [if_neg c] at ee; cases ee
    rw [if_neg c9] at e0 ⊢
    by_cases c10 : nKd t = 10
    · rw [if_pos c10] at e0 ⊢
      obtain ⟨A1, hA1, h1⟩ := tbd_in e0
      obtain ⟨A2, hA2, h1⟩ := tbd_in h1
      obtain ⟨A3, hA3, h1⟩ := tbd_in h1
      obtain ⟨ee, l⟩ := szt_in h1
      obtain ⟨m8, x1⟩ := w10 c10
      subst ee
      have key : ∀ (g : Nat) (B : Ty), g < 3 → (if bit (nMk t) g = true then tyF f (nP t g) Γ Δ else .inr .nil) = .inr B → nz t0 n1 s2 (hzx h z) ω B ≤ (if bit (nMk t) g = true then GB2 t0 n1 s2 h e f (nP t g) z ω Γ Δ else 0) := by
        intro g B hg hB
        by_cases c : bit (nMk t) g = true
        · rw [if_pos c] at hB ⊢
          exact ih _ _ _ _ z ω (x1 g hg c) he (v10 c10 g hg c) hl hE hB
        · rw [if_neg c] at hB ⊢
          injection hB with hB
          rw [← hB, nz_nil]; exact Nat.le_refl _
      have q0 := key 0 A1 (by decide) hA1
      have q1 := key 1 A2 (by decide) hA2
      have q2 := key 2 A3 (by decide) hA3
      have p0 : nP t 0 = nX t := rfl
      have p1 : nP t 1 = nY t := rfl
      have p2 : nP t 2 = nZ t := rfl
      rw [p0] at q0
      rw [p1] at q1
      rw [p2] at q2
      rw [nz_rec]; omega
    rw [if_neg c10] at e0 ⊢
    by_cases c11 : nKd t = 11
    · rw [if_pos c11] at e0 ⊢
      obtain ⟨S, hS, h1⟩ := tbd_in e0
      obtain ⟨ee, l⟩ := tyO_in h1
      obtain ⟨m3, x1⟩ := w11 c11
      obtain ⟨s1, s2'⟩ := io _ _ _ _ x1 he hS
      obtain ⟨o1, o2⟩ := expo_ok he.1 he.2.1 Γ.length S s1 s2'
      have q := ih _ _ _ _ z ω x1 he (v7 (by omega)) hl hE hS
      have q2 := expo_e (μ := nz t0 n1 s2 (hzx h z)) (ω := ω) he.1 (hE z) Γ.length S s1
      unfold tyD at ee
      by_cases c : (8 ≤ hd (expo Γ Γ.length S) ∧ hd (expo Γ Γ.length S) < 16) ∧ bit (hd (expo Γ Γ.length S) - 8) (nMk t) = true
      · rw [if_pos c] at ee
        injection ee with ee
        subst ee
        obtain ⟨m, x, y, w, hm', e2⟩ := hd_is_rec o1 c.1.1 c.1.2
        rw [e2, nz_rec] at q2
        rw [e2]
        rcases (show nMk t = 0 ∨ nMk t = 1 ∨ nMk t = 2 by omega) with e | e | e
        · rw [e, (pt_rec hm' x y w).1]; omega
        · rw [e, (pt_rec hm' x y w).2.1]; omega
        · rw [e, (pt_rec hm' x y w).2.2]; omega
      · rw [if_neg c] at ee; cases ee
    rw [if_neg c11] at e0 ⊢
    exact absurd (show nKd t = 12 by omega) v12
/-- the type of a term, under one instance -/
theorem tyF_b1 (hn : NC t0 n1 s2 h) (hm : ∀ y y', y ≤ y' → h y ≤ h y') : ∀ (f : Nat) (t : Ty) (Γ : List Ty) (Δ : List (Nat × Ty × Nat)) (A : Ty) (z : Nat) (ω : List Nat), TWf f Γ.length (Δ.map (fun a => a.1)) t → TE Γ Δ → EY1 f t → ω.length = Γ.length → (∀ z k, k < Γ.length → nz t0 n1 s2 (hzx h z) ω (lft k (Γ.length - k) (bnd Γ k)) ≤ e z) → tyF f t Γ Δ = .inr A → nz1 t0 n1 s2 h z ω A ≤ GB1 t0 n1 s2 h e f t z ω Γ Δ
  | 0, _, _, _, _, _, _, w, _, _, _, _, _ => w.elim
  | f + 1, t, Γ, Δ, A, z, ω, w, he, hx, hl, hE, e0 => by
    obtain ⟨v6, v7, v8, v10, v12⟩ := hx
    have ok0 := tyF_ok (f + 1) t Γ Δ A w he e0
    obtain ⟨w0, w5, w6, w7, w8, w9, w10, w11, w12⟩ := w
    have ih := fun t' Γ' Δ' A' z' ω' => tyF_b1 hn hm f t' Γ' Δ' A' z' ω'
    have io := fun t' Γ' Δ' A' => tyF_ok f t' Γ' Δ' A'
    unfold tyF at e0
    unfold GB1
    by_cases c5 : nKd t = 5
    · rw [if_pos c5] at e0 ⊢
      obtain ⟨ee, l⟩ := tyO_in e0
      obtain ⟨a, ha⟩ := dlk_some (w5 c5)
      rw [ha] at ee
      injection ee with ee
      rw [ha]
      show _ ≤ nz1 t0 n1 s2 h z ω (lft a.2 (Γ.length - a.2) a.1)
      rw [← ee]
      exact Nat.le_refl _
    rw [if_neg c5] at e0 ⊢
    by_cases c6 : nKd t = 6
    · rw [if_pos c6] at e0 ⊢
      obtain ⟨B, hB, h1⟩ := tbd_in e0
      obtain ⟨-, x1, x2, x3⟩ := w6 c6
      have q := ih (nY t) Γ ((nPl t, nX t, Γ.length) :: Δ) B z ω x3 (he.lam x1 x2) (v6 c6) hl hE hB
      obtain ⟨ee, l⟩ := szt_in h1
      subst ee
      rw [nz1_fun]; omega
    rw [if_neg c6] at e0 ⊢
    by_cases c7 : nKd t = 7
    · rw [if_pos c7] at e0 ⊢
      obtain ⟨S, hS, h1⟩ := tbd_in e0
      obtain ⟨T, hT, h1⟩ := tbd_in h1
      obtain ⟨ee, l⟩ := tyO_in h1
      obtain ⟨x1, x2⟩ := w7 (Or.inl c7)
      obtain ⟨s1, s2'⟩ := io _ _ _ _ x1 he hS
      obtain ⟨o1, o2⟩ := expo_ok he.1 he.2.1 Γ.length S s1 s2'
      have q := ih _ _ _ _ z ω x1 he (v7 (by omega)) hl hE hS
      have q2 := expo_e (μ := nz1 t0 n1 s2 h z) (ω := ω) he.1 (fun k hk => Nat.le_trans (nz1_le hm z _ _ ω (Nat.le_refl _) (by rw [hl]; exact ok_expose he.1 hk)) (hE z k hk)) Γ.length S s1
      unfold tyA at ee
      by_cases c : hd (expo Γ Γ.length S) = 1 ∧ bel Γ T (k1 (expo Γ Γ.length S)) = true
      · rw [if_pos c] at ee
        injection ee with ee
        subst ee
        obtain ⟨a, b, e2, ha, hb⟩ := hd_is_fun o1 c.1
        rw [e2, nz1_fun] at q2
        rw [e2]
        show nz1 t0 n1 s2 h z ω b ≤ _
        omega
      · rw [if_neg c] at ee; cases ee
    rw [if_neg c7] at e0 ⊢
    by_cases c8 : nKd t = 8
    · exact absurd c8 v8
    rw [if_neg c8] at e0 ⊢
    by_cases c9 : nKd t = 9
    · rw [if_pos c9] at e0 ⊢
      obtain ⟨S, hS, h1⟩ := tbd_in e0
      obtain ⟨ee, l⟩ := tyO_in h1
      obtain ⟨x1, x2, x3⟩ := w9 c9
      obtain ⟨s1, s2'⟩ := io _ _ _ _ x1 he hS
      obtain ⟨o1, o2⟩ := expo_ok he.1 he.2.1 Γ.length S s1 s2'
      unfold tyI at ee
      by_cases c : hd (expo Γ Γ.length S) = 2 ∧ bel Γ (nY t) (k1 (expo Γ Γ.length S)) = true
      · rw [if_pos c] at ee
        injection ee with ee
        subst ee
        obtain ⟨a, b, e2, ha, hb⟩ := hd_is_all o1 c.1
        have q := tyF_b2 hn hm f (nX t) Γ Δ S (max z (nz t0 n1 s2 (hzx h z) ω (nY t))) ω x1 he (v7 (by omega)) hl hE hS
        have q2 := expo_e (μ := nz t0 n1 s2 (hzx h (max z (nz t0 n1 s2 (hzx h z) ω (nY t))))) (ω := ω) he.1 (hE _) Γ.length S s1
        have q3 := nz_inst1 (t0 := t0) (n1 := n1) (s2 := s2) hm (z := z) (ω := ω) (Γ := Γ) (B := a) hl x2 hb
        rw [e2] at q2 ⊢
        have q4 := nz1_le (t0 := t0) (n1 := n1) (s2 := s2) hm z _ (sbt Γ.length (nY t) 0 b) ω (Nat.le_refl _) (by rw [hl]; exact ok_sbt x2 _ b 0 (Nat.le_refl _) hb)
        show nz1 t0 n1 s2 h z ω (sbt Γ.length (nY t) 0 b) ≤ _
        omega
      · rw [if_neg c] at ee; cases ee
    rw [if_neg c9] at e0 ⊢
    by_cases c10 : nKd t = 10
    · rw [if_pos c10] at e0 ⊢
      obtain ⟨A1, hA1, h1⟩ := tbd_in e0
      obtain ⟨A2, hA2, h1⟩ := tbd_in h1
      obtain ⟨A3, hA3, h1⟩ := tbd_in h1
      obtain ⟨ee, l⟩ := szt_in h1
      obtain ⟨m8, x1⟩ := w10 c10
      subst ee
      have key : ∀ (g : Nat) (B : Ty), g < 3 → (if bit (nMk t) g = true then tyF f (nP t g) Γ Δ else .inr .nil) = .inr B → nz1 t0 n1 s2 h z ω B ≤ (if bit (nMk t) g = true then GB1 t0 n1 s2 h e f (nP t g) z ω Γ Δ else 0) := by
        intro g B hg hB
        by_cases c : bit (nMk t) g = true
        · rw [if_pos c] at hB ⊢
          exact ih _ _ _ _ z ω (x1 g hg c) he (v10 c10 g hg c) hl hE hB
        · rw [if_neg c] at hB ⊢
          injection hB with hB
          rw [← hB, nz1_nil]; exact Nat.le_refl _
      have q0 := key 0 A1 (by decide) hA1
      have q1 := key 1 A2 (by decide) hA2
      have q2 := key 2 A3 (by decide) hA3
      have p0 : nP t 0 = nX t := rfl
      have p1 : nP t 1 = nY t := rfl
      have p2 : nP t 2 = nZ t := rfl
      rw [p0] at q0
      rw [p1] at q1
      rw [p2] at q2
      rw [nz1_rec]; omega
    rw [if_neg c10] at e0 ⊢
    by_cases c11 : nKd t = 11
    · rw [if_pos c11] at e0 ⊢
      obtain ⟨S, hS, h1⟩ := tbd_in e0
      obtain ⟨ee, l⟩ := tyO_in h1
      obtain ⟨m3, x1⟩ := w11 c11
      obtain ⟨s1, s2'⟩ := io _ _ _ _ x1 he hS
      obtain ⟨o1, o2⟩ := expo_ok he.1 he.2.1 Γ.length S s1 s2'
      have q := ih _ _ _ _ z ω x1 he (v7 (by omega)) hl hE hS
      have q2 := expo_e (μ := nz1 t0 n1 s2 h z) (ω := ω) he.1 (fun k hk => Nat.le_trans (nz1_le hm z _ _ ω (Nat.le_refl _) (by rw [hl]; exact ok_expose he.1 hk)) (hE z k hk)) Γ.length S s1
      unfold tyD at ee
      by_cases c : (8 ≤ hd (expo Γ Γ.length S) ∧ hd (expo Γ Γ.length S) < 16) ∧ bit (hd (expo Γ Γ.length S) - 8) (nMk t) = true
      · rw [if_pos c] at ee
        injection ee with ee
        subst ee
        obtain ⟨m, x, y, w, hm', e2⟩ := hd_is_rec o1 c.1.1 c.1.2
        rw [e2, nz1_rec] at q2
        rw [e2]
        rcases (show nMk t = 0 ∨ nMk t = 1 ∨ nMk t = 2 by omega) with e | e | e
        · rw [e, (pt_rec hm' x y w).1]; omega
        · rw [e, (pt_rec hm' x y w).2.1]; omega
        · rw [e, (pt_rec hm' x y w).2.2]; omega
      · rw [if_neg c] at ee; cases ee
    rw [if_neg c11] at e0 ⊢
    exact absurd (show nKd t = 12 by omega) v12
end PmLd
