/-! WHAT THE TYPE OF A TERM IS WORTH: one recursion over the term. -/
/-- every bound variable is worth z at least -/
def hzx (h : Nat → Nat) (z y : Nat) : Nat := max z (h y)
/-- the values raised to what the bounds are worth -/
def upv (t0 : Nat) (n1 : Nat → Nat) (s2 : Nat) (h : Nat → Nat) : List Nat → List Ty → List Nat
  | w :: ω, b :: Γ => max w (nz t0 n1 s2 h (upv t0 n1 s2 h ω Γ) b) :: upv t0 n1 s2 h ω Γ
  | _, _ => []
def GV (t0 : Nat) (n1 : Nat → Nat) (s2 : Nat) (h : Nat → Nat) : Nat → Ty → Nat → List Nat → List Ty → List (Nat × Ty × Nat) → Nat
  | 0, _, _, _, _, _ => 0
  | f + 1, t, z, ω, Γ, Δ =>
    if nKd t = 5 then (match dlk Δ (nMk t) with
      | none => 0
      | some a => nz t0 n1 s2 (hzx h z) ω (lft a.2 (Γ.length - a.2) a.1))
    else if nKd t = 6 then n1 1 + (nz t0 n1 s2 (hzx h z) ω (nX t) + GV t0 n1 s2 h f (nY t) z ω Γ ((nPl t, nX t, Γ.length) :: Δ))
    else if nKd t = 7 then GV t0 n1 s2 h f (nX t) z ω Γ Δ
    else if nKd t = 8 then s2 + GV t0 n1 s2 h f (nY t) z (hzx h z (nz t0 n1 s2 (hzx h z) ω (nX t)) :: ω) (nX t :: Γ) Δ
    else if nKd t = 9 then GV t0 n1 s2 h f (nX t) (max z (nz t0 n1 s2 (hzx h z) ω (nY t))) (upv t0 n1 s2 (hzx h (max z (nz t0 n1 s2 (hzx h z) ω (nY t)))) ω Γ) Γ Δ
    else if nKd t = 10 then n1 (8 + nMk t) + ((if bit (nMk t) 0 = true then GV t0 n1 s2 h f (nX t) z ω Γ Δ else 0) + ((if bit (nMk t) 1 = true then GV t0 n1 s2 h f (nY t) z ω Γ Δ else 0) + (if bit (nMk t) 2 = true then GV t0 n1 s2 h f (nZ t) z ω Γ Δ else 0)))
    else if nKd t = 11 then GV t0 n1 s2 h f (nX t) z ω Γ Δ
    else GV t0 n1 s2 h f (nX t) z ω Γ Δ + GV t0 n1 s2 h f (nY t) z ω Γ Δ
section PmL2
variable {t0 s2 : Nat} {n1 h h' : Nat → Nat}
theorem NC.hz (hn : NC t0 n1 s2 h) (z : Nat) : NC t0 n1 s2 (hzx h z) := by
  refine ⟨hn.1, hn.2.1, fun y => ?_, hn.2.2.2⟩
  have := hn.2.2.1 y
  unfold hzx; omega
theorem upv_cv : ∀ {ω : List Nat} {Γ : List Ty}, CV t0 n1 s2 h ω Γ → CV t0 n1 s2 h' (upv t0 n1 s2 h' ω Γ) Γ
  | [], [], _ => trivial
  | w :: ω, b :: Γ, hv => ⟨⟨Nat.le_max_right _ _, Nat.le_trans hv.1.2 (Nat.le_max_left _ _)⟩, upv_cv hv.2⟩
  | [], _ :: _, hv => hv.elim
  | _ :: _, [], hv => hv.elim
theorem upv_le : ∀ {ω : List Nat} {Γ : List Ty}, CV t0 n1 s2 h ω Γ → ∀ j, j < ω.length → vw ω j ≤ vw (upv t0 n1 s2 h' ω Γ) j
  | [], [], _, j, hj => absurd hj (Nat.not_lt_zero _)
  | w :: ω, b :: Γ, hv, j, hj => by
    have l1 := (upv_cv (h' := h') hv.2).len
    have l2 := CV.len hv.2
    show vw (w :: ω) j ≤ vw (max w (nz t0 n1 s2 h' (upv t0 n1 s2 h' ω Γ) b) :: upv t0 n1 s2 h' ω Γ) j
    rw [vw_cons, vw_cons, l1, l2]
    by_cases e : j = Γ.length
    · rw [if_pos e, if_pos e]; exact Nat.le_max_left _ _
    · rw [if_neg e, if_neg e]
      exact upv_le hv.2 j (by rw [List.length_cons] at hj; omega)
  | [], _ :: _, hv, _, _ => hv.elim
  | _ :: _, [], hv, _, _ => hv.elim
/-- an instance is worth no more than the scheme, where all that is bound is worth what the argument is -/
theorem nz_inst (hm : ∀ y y', y ≤ y' → h y ≤ h y') {z : Nat} {ω : List Nat} {Γ : List Ty} {B C Q : Ty} (hv : CV t0 n1 s2 (hzx h z) ω Γ) (oQ : ok Γ.length Q = true) (oC : ok (Γ.length + 1) C = true) : nz t0 n1 s2 (hzx h z) ω (sbt Γ.length Q 0 C) ≤ nz t0 n1 s2 (hzx h (max z (nz t0 n1 s2 (hzx h z) ω Q))) (upv t0 n1 s2 (hzx h (max z (nz t0 n1 s2 (hzx h z) ω Q))) ω Γ) (tAll B C) := by
  have hl := hv.len
  have e := nz_sbt (t0 := t0) (n1 := n1) (s2 := s2) (h := hzx h z) Q ω (by rw [hl]; exact oQ) _ C [] (Nat.le_refl _) (by rw [hl]; exact oC)
  rw [List.nil_append, List.nil_append, hl] at e
  have e : nz t0 n1 s2 (hzx h z) ω (sbt Γ.length Q 0 C) = nz t0 n1 s2 (hzx h z) (nz t0 n1 s2 (hzx h z) ω Q :: ω) C := e
  rw [e, nz_all]
  have l1 := (upv_cv (h' := hzx h (max z (nz t0 n1 s2 (hzx h z) ω Q))) hv).len
  have q := nz_mono (t0 := t0) (n1 := n1) (s2 := s2) (h := hzx h z) (h' := hzx h (max z (nz t0 n1 s2 (hzx h z) ω Q))) (fun y y' hy => by
    have := hm y y' hy
    unfold hzx; omega) _ C (nz t0 n1 s2 (hzx h z) ω Q :: ω) (hzx h (max z (nz t0 n1 s2 (hzx h z) ω Q)) (nz t0 n1 s2 (hzx h (max z (nz t0 n1 s2 (hzx h z) ω Q))) (upv t0 n1 s2 (hzx h (max z (nz t0 n1 s2 (hzx h z) ω Q))) ω Γ) B) :: upv t0 n1 s2 (hzx h (max z (nz t0 n1 s2 (hzx h z) ω Q))) ω Γ) (Nat.le_refl _) (by rw [List.length_cons, List.length_cons, l1, hl]) (by rw [List.length_cons, hl]; exact oC) (fun j hj => by
    rw [vw_cons, vw_cons, l1, hl]
    by_cases e : j = Γ.length
    · rw [if_pos e, if_pos e]
      unfold hzx; omega
    · rw [if_neg e, if_neg e]
      exact upv_le hv j (by rw [List.length_cons] at hj; omega))
  omega
/-- the type of a term -/
theorem tyF_nz (hn : NC t0 n1 s2 h) (hm : ∀ y y', y ≤ y' → h y ≤ h y') : ∀ (f : Nat) (t : Ty) (Γ : List Ty) (Δ : List (Nat × Ty × Nat)) (A : Ty) (z : Nat) (ω : List Nat), TWf f Γ.length (Δ.map (fun a => a.1)) t → TE Γ Δ → CV t0 n1 s2 (hzx h z) ω Γ → tyF f t Γ Δ = .inr A → nz t0 n1 s2 (hzx h z) ω A ≤ GV t0 n1 s2 h f t z ω Γ Δ
  | 0, _, _, _, _, _, _, w, _, _, _ => w.elim
  | f + 1, t, Γ, Δ, A, z, ω, w, he, hv, e0 => by
    have ok0 := tyF_ok (f + 1) t Γ Δ A w he e0
    obtain ⟨w0, w5, w6, w7, w8, w9, w10, w11, w12⟩ := w
    have ih := fun t' Γ' Δ' A' z' ω' => tyF_nz hn hm f t' Γ' Δ' A' z' ω'
    have io := fun t' Γ' Δ' A' => tyF_ok f t' Γ' Δ' A'
    have hz := hn.hz z
    have hl := hv.len
    unfold tyF at e0
    unfold GV
    by_cases c5 : nKd t = 5
    · rw [if_pos c5] at e0 ⊢
      obtain ⟨e, l⟩ := tyO_in e0
      obtain ⟨a, ha⟩ := dlk_some (w5 c5)
      rw [ha] at e
      injection e with e
      rw [ha]
      show _ ≤ nz t0 n1 s2 (hzx h z) ω (lft a.2 (Γ.length - a.2) a.1)
      rw [← e]
      exact Nat.le_refl _
    rw [if_neg c5] at e0 ⊢
    by_cases c6 : nKd t = 6
    · rw [if_pos c6] at e0 ⊢
      obtain ⟨B, hB, h1⟩ := tbd_in e0
      obtain ⟨-, x1, x2, x3⟩ := w6 c6
      have q := ih (nY t) Γ ((nPl t, nX t, Γ.length) :: Δ) B z ω x3 (he.lam x1 x2) hv hB
      obtain ⟨e, l⟩ := szt_in h1
      subst e
      rw [nz_fun]; omega
    rw [if_neg c6] at e0 ⊢
    by_cases c7 : nKd t = 7
    · rw [if_pos c7] at e0 ⊢
      obtain ⟨S, hS, h1⟩ := tbd_in e0
      obtain ⟨T, hT, h1⟩ := tbd_in h1
      obtain ⟨e, l⟩ := tyO_in h1
      obtain ⟨x1, x2⟩ := w7 (Or.inl c7)
      obtain ⟨s1, s2'⟩ := io _ _ _ _ x1 he hS
      obtain ⟨o1, o2⟩ := expo_ok he.1 he.2.1 Γ.length S s1 s2'
      have q := ih _ _ _ _ z ω x1 he hv hS
      have q2 := expo_nz he.1 hv Γ.length S s1
      unfold tyA at e
      by_cases c : hd (expo Γ Γ.length S) = 1 ∧ bel Γ T (k1 (expo Γ Γ.length S)) = true
      · rw [if_pos c] at e
        injection e with e
        subst e
        obtain ⟨a, b, e2, ha, hb⟩ := hd_is_fun o1 c.1
        rw [e2, nz_fun] at q2
        rw [e2]
        show nz t0 n1 s2 (hzx h z) ω b ≤ _
        omega
      · rw [if_neg c] at e; cases e
    rw [if_neg c7] at e0 ⊢
    by_cases c8 : nKd t = 8
    · rw [if_pos c8] at e0 ⊢
      obtain ⟨B, hB, h1⟩ := tbd_in e0
      obtain ⟨x1, x2, x3⟩ := w8 c8
      have q := ih (nY t) (nX t :: Γ) Δ B z _ x3 (he.all x1 x2) (hv.ext hz he.1 x1) hB
      obtain ⟨e, l⟩ := szt_in h1
      subst e
      rw [nz_all]; omega
    rw [if_neg c8] at e0 ⊢
    by_cases c9 : nKd t = 9
    · rw [if_pos c9] at e0 ⊢
      obtain ⟨S, hS, h1⟩ := tbd_in e0
      obtain ⟨e, l⟩ := tyO_in h1
      obtain ⟨x1, x2, x3⟩ := w9 c9
      obtain ⟨s1, s2'⟩ := io _ _ _ _ x1 he hS
      obtain ⟨o1, o2⟩ := expo_ok he.1 he.2.1 Γ.length S s1 s2'
      unfold tyI at e
      by_cases c : hd (expo Γ Γ.length S) = 2 ∧ bel Γ (nY t) (k1 (expo Γ Γ.length S)) = true
      · rw [if_pos c] at e
        injection e with e
        subst e
        obtain ⟨a, b, e2, ha, hb⟩ := hd_is_all o1 c.1
        have hv' := upv_cv (h' := hzx h (max z (nz t0 n1 s2 (hzx h z) ω (nY t)))) hv
        have q := ih _ _ _ _ (max z (nz t0 n1 s2 (hzx h z) ω (nY t))) _ x1 he hv' hS
        have q2 := expo_nz he.1 hv' Γ.length S s1
        have q3 := nz_inst hm (B := a) hv x2 hb
        rw [e2] at q2 ⊢
        show nz t0 n1 s2 (hzx h z) ω (sbt Γ.length (nY t) 0 b) ≤ _
        omega
      · rw [if_neg c] at e; cases e
    rw [if_neg c9] at e0 ⊢
    by_cases c10 : nKd t = 10
    · rw [if_pos c10] at e0 ⊢
      obtain ⟨A1, hA1, h1⟩ := tbd_in e0
      obtain ⟨A2, hA2, h1⟩ := tbd_in h1
      obtain ⟨A3, hA3, h1⟩ := tbd_in h1
      obtain ⟨e, l⟩ := szt_in h1
      obtain ⟨m8, x1⟩ := w10 c10
      subst e
      have key : ∀ (g : Nat) (B : Ty), g < 3 → (if bit (nMk t) g = true then tyF f (nP t g) Γ Δ else .inr .nil) = .inr B → nz t0 n1 s2 (hzx h z) ω B ≤ (if bit (nMk t) g = true then GV t0 n1 s2 h f (nP t g) z ω Γ Δ else 0) := by
        intro g B hg hB
        by_cases c : bit (nMk t) g = true
        · rw [if_pos c] at hB ⊢
          exact ih _ _ _ _ z ω (x1 g hg c) he hv hB
        · rw [if_neg c] at hB ⊢
          injection hB with hB
          rw [← hB, nz_nil]; exact Nat.le_refl _
      have q0 := key 0 A1 (by decide) hA1
      have q1 := key 1 A2 (by decide) hA2
      have q2 := key 2 A3 (by decide) hA3
      have p0 : nP t 0 = nX t := rfl
      have p1 : nP t 1 = nY t := rfl
      have p2 : nP t 2 = nZ t := rfl
      rw [p0] at q0
      rw [p1] at q1
      rw [p2] at q2
      rw [nz_rec]; omega
    rw [if_neg c10] at e0 ⊢
    by_cases c11 : nKd t = 11
    · rw [if_pos c11] at e0 ⊢
      obtain ⟨S, hS, h1⟩ := tbd_in e0
      obtain ⟨e, l⟩ := tyO_in h1
      obtain ⟨m3, x1⟩ := w11 c11
      obtain ⟨s1, s2'⟩ := io _ _ _ _ x1 he hS
      obtain ⟨o1, o2⟩ := expo_ok he.1 he.2.1 Γ.length S s1 s2'
      have q := ih _ _ _ _ z ω x1 he hv hS
      have q2 := expo_nz he.1 hv Γ.length S s1
      unfold tyD at e
      by_cases c : (8 ≤ hd (expo Γ Γ.length S) ∧ hd (expo Γ Γ.length S) < 16) ∧ bit (hd (expo Γ Γ.length S) - 8) (nMk t) = true
      · rw [if_pos c] at e
        injection e with e
        subst e
        obtain ⟨m, x, y, w, hm', e2⟩ := hd_is_rec o1 c.1.1 c.1.2
        rw [e2, nz_rec] at q2
        rw [e2]
        rcases (show nMk t = 0 ∨ nMk t = 1 ∨ nMk t = 2 by omega) with e | e | e
        · rw [e, (pt_rec hm' x y w).1]; omega
        · rw [e, (pt_rec hm' x y w).2.1]; omega
        · rw [e, (pt_rec hm' x y w).2.2]; omega
      · rw [if_neg c] at e; cases e
    rw [if_neg c11] at e0 ⊢
    obtain ⟨S, hS, h1⟩ := tbd_in e0
    obtain ⟨T, hT, h1⟩ := tbd_in h1
    obtain ⟨e, l⟩ := tyO_in h1
    obtain ⟨x1, x2⟩ := w7 (Or.inr (by omega))
    obtain ⟨s1, s2'⟩ := io _ _ _ _ x1 he hS
    obtain ⟨t1, t2⟩ := io _ _ _ _ x2 he hT
    have q1 := ih _ _ _ _ z ω x1 he hv hS
    have q2 := ih _ _ _ _ z ω x2 he hv hT
    have q3 := cmu_nz hz hv ⟨he.1, s1, t1⟩ e
    omega
end PmL2
