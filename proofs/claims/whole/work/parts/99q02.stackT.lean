/-! THE TYPE OF A TERM, OPERATIONS WAITING ON IT. -/
def GSk (t0 : Nat) (n1 : Nat → Nat) (s2 : Nat) (h : Nat → Nat) (E : Stk → Nat) : Nat → Ty → Stk → List Nat → List Ty → List (Nat × Ty × Nat) → Nat
  | 0, _, _, _, _, _ => 0
  | f + 1, t, π, ω, Γ, Δ =>
    if nKd t = 5 then (match dlk Δ (nMk t) with
      | none => 0
      | some a => vz t0 n1 s2 h E (lft a.2 (Γ.length - a.2) a.1) π ω)
    else if nKd t = 6 then (match π with
      | [] => n1 1 + (nz t0 n1 s2 h ω (nX t) + GSk t0 n1 s2 h E f (nY t) [] ω Γ ((nPl t, nX t, Γ.length) :: Δ))
      | none :: ρ => GSk t0 n1 s2 h E f (nY t) ρ ω Γ ((nPl t, nX t, Γ.length) :: Δ)
      | some _ :: _ => 0)
    else if nKd t = 7 then GSk t0 n1 s2 h E f (nX t) (none :: π) ω Γ Δ
    else if nKd t = 8 then (match π with
      | [] => s2 + GSk t0 n1 s2 h E f (nY t) [] (h (nz t0 n1 s2 h ω (nX t)) :: ω) (nX t :: Γ) Δ
      | none :: _ => 0
      | some z :: ρ => GSk t0 n1 s2 h E f (nY t) ρ (hzx h z (nz t0 n1 s2 h ω (nX t)) :: ω) (nX t :: Γ) Δ)
    else if nKd t = 9 then GSk t0 n1 s2 h E f (nX t) (some (nz t0 n1 s2 h ω (nY t)) :: π) ω Γ Δ
    else if nKd t = 10 then (match π with
      | [] => n1 (8 + nMk t) + ((if bit (nMk t) 0 = true then GSk t0 n1 s2 h E f (nX t) [] ω Γ Δ else 0) + ((if bit (nMk t) 1 = true then GSk t0 n1 s2 h E f (nY t) [] ω Γ Δ else 0) + (if bit (nMk t) 2 = true then GSk t0 n1 s2 h E f (nZ t) [] ω Γ Δ else 0)))
      | none :: ρ => max (if bit (nMk t) 0 = true then GSk t0 n1 s2 h E f (nX t) ρ ω Γ Δ else 0) (max (if bit (nMk t) 1 = true then GSk t0 n1 s2 h E f (nY t) ρ ω Γ Δ else 0) (if bit (nMk t) 2 = true then GSk t0 n1 s2 h E f (nZ t) ρ ω Γ Δ else 0))
      | some _ :: _ => 0)
    else if nKd t = 11 then GSk t0 n1 s2 h E f (nX t) (none :: π) ω Γ Δ
    else (if nKd (nX t) = 5 ∧ nKd (nY t) = 5 ∧ nMk (nX t) = nMk (nY t) then GSk t0 n1 s2 h E f (nX t) π ω Γ Δ else GSk t0 n1 s2 h E f (nX t) π ω Γ Δ + GSk t0 n1 s2 h E f (nY t) π ω Γ Δ)
/-- what is asked on the way: arguments and bounds are worth no more than E, joins no more than both sides -/
def GOk (t0 : Nat) (n1 : Nat → Nat) (s2 : Nat) (h : Nat → Nat) (E : Stk → Nat) : Nat → Ty → Stk → List Nat → List Ty → List (Nat × Ty × Nat) → Prop
  | 0, _, _, _, _, _ => True
  | f + 1, t, π, ω, Γ, Δ =>
    (nKd t = 6 → (π = [] → GOk t0 n1 s2 h E f (nY t) [] ω Γ ((nPl t, nX t, Γ.length) :: Δ)) ∧ ∀ ρ, π = none :: ρ → GOk t0 n1 s2 h E f (nY t) ρ ω Γ ((nPl t, nX t, Γ.length) :: Δ)) ∧
    (nKd t = 7 ∨ nKd t = 11 → GOk t0 n1 s2 h E f (nX t) (none :: π) ω Γ Δ) ∧
    (nKd t = 8 → (∀ ρ, ρ ≠ [] → vz t0 n1 s2 h E (nX t) ρ ω ≤ E ρ) ∧ (π = [] → GOk t0 n1 s2 h E f (nY t) [] (h (nz t0 n1 s2 h ω (nX t)) :: ω) (nX t :: Γ) Δ) ∧ ∀ z ρ, π = some z :: ρ → GOk t0 n1 s2 h E f (nY t) ρ (hzx h z (nz t0 n1 s2 h ω (nX t)) :: ω) (nX t :: Γ) Δ) ∧
    (nKd t = 9 → (∀ ρ, ρ ≠ [] → vz t0 n1 s2 h E (nY t) ρ ω ≤ E ρ) ∧ GOk t0 n1 s2 h E f (nX t) (some (nz t0 n1 s2 h ω (nY t)) :: π) ω Γ Δ) ∧
    (nKd t = 10 → ∀ g, g < 3 → bit (nMk t) g = true → (π = [] → GOk t0 n1 s2 h E f (nP t g) [] ω Γ Δ) ∧ ∀ ρ, π = none :: ρ → GOk t0 n1 s2 h E f (nP t g) ρ ω Γ Δ) ∧
    (nKd t = 12 → GOk t0 n1 s2 h E f (nX t) π ω Γ Δ ∧ GOk t0 n1 s2 h E f (nY t) π ω Γ Δ ∧ ∀ S T R, tyF f (nX t) Γ Δ = .inr S → tyF f (nY t) Γ Δ = .inr T → cmu 0 Γ S T = some R → vz t0 n1 s2 h E R π ω ≤ vz t0 n1 s2 h E S π ω + vz t0 n1 s2 h E T π ω)
/-- the bounds of the context, operations waiting on them -/
def HEk (t0 : Nat) (n1 : Nat → Nat) (s2 : Nat) (h : Nat → Nat) (E : Stk → Nat) : List Ty → List Nat → Prop
  | [], [] => True
  | b :: Γ, _ :: ω => (∀ ρ, ρ ≠ [] → vz t0 n1 s2 h E b ρ ω ≤ E ρ) ∧ HEk t0 n1 s2 h E Γ ω
  | _, _ => False
section PmQ2
variable {t0 s2 : Nat} {n1 h : Nat → Nat} {E : Stk → Nat}
theorem HEk.len : ∀ {Γ : List Ty} {ω : List Nat}, HEk t0 n1 s2 h E Γ ω → ω.length = Γ.length
  | [], [], _ => rfl
  | _ :: Γ, _ :: ω, e => by
    have := HEk.len e.2
    rw [List.length_cons, List.length_cons, this]
  | [], _ :: _, e => e.elim
  | _ :: _, [], e => e.elim
theorem HEk.ext {Γ : List Ty} {ω : List Nat} (he : HEk t0 n1 s2 h E Γ ω) {B : Ty} (hB : ∀ ρ, ρ ≠ [] → vz t0 n1 s2 h E B ρ ω ≤ E ρ) (v : Nat) : HEk t0 n1 s2 h E (B :: Γ) (v :: ω) := ⟨hB, he⟩
theorem HEk.bd : ∀ {Γ : List Ty} {ω : List Nat} {k : Nat}, okc Γ → HEk t0 n1 s2 h E Γ ω → k < Γ.length → ∃ ν ω1 : List Nat, ω = ν ++ ω1 ∧ ω1.length = k ∧ ok k (bnd Γ k) = true ∧ ∀ ρ, ρ ≠ [] → vz t0 n1 s2 h E (bnd Γ k) ρ ω1 ≤ E ρ
  | [], [], _, _, _, hk => absurd hk (Nat.not_lt_zero _)
  | b :: Γ, w :: ω, k, hc, hv, hk => by
    have hl := HEk.len hv.2
    by_cases e : k = Γ.length
    · refine ⟨[w], ω, rfl, by rw [hl, e], ?_, ?_⟩
      · show ok k (if k = Γ.length then b else _) = true
        rw [if_pos e, e]; exact hc.1
      · intro ρ hρ
        show vz t0 n1 s2 h E (if k = Γ.length then b else _) ρ ω ≤ E ρ
        rw [if_pos e]; exact hv.1 ρ hρ
    · obtain ⟨ν, ω1, e1, e2, e3, e4⟩ := HEk.bd (ω := ω) (Γ := Γ) (k := k) hc.2 hv.2 (by rw [List.length_cons] at hk; omega)
      refine ⟨w :: ν, ω1, by rw [e1]; rfl, e2, ?_, ?_⟩
      · show ok k (if k = Γ.length then b else bnd Γ k) = true
        rw [if_neg e]; exact e3
      · intro ρ hρ
        show vz t0 n1 s2 h E (if k = Γ.length then b else bnd Γ k) ρ ω1 ≤ E ρ
        rw [if_neg e]; exact e4 ρ hρ
  | _ :: _, [], _, _, hv, _ => hv.elim
  | [], _ :: _, _, _, hv, _ => hv.elim
theorem HEk.exp {Γ : List Ty} {ω : List Nat} {k : Nat} (hc : okc Γ) (hv : HEk t0 n1 s2 h E Γ ω) (hk : k < Γ.length) {ρ : Stk} (hρ : ρ ≠ []) : vz t0 n1 s2 h E (lft k (Γ.length - k) (bnd Γ k)) ρ ω ≤ E ρ := by
  obtain ⟨ν, ω1, e1, e2, e3, e4⟩ := HEk.bd hc hv hk
  have hl := hv.len
  have el : Γ.length - k = ν.length := by rw [e1, List.length_append] at hl; omega
  have := vz_lft (t0 := t0) (n1 := n1) (s2 := s2) (h := h) (E := E) ν ω1 _ (bnd Γ k) ρ [] (Nat.le_refl _) (by rw [e2]; simpa using e3)
  rw [List.nil_append, List.nil_append, e2] at this
  rw [el]
  refine Nat.le_trans (Nat.le_of_eq ?_) (e4 ρ hρ)
  rw [← this, e1]
/-- exposed -/
theorem expo_vz {Γ : List Ty} {ω : List Nat} (hc : okc Γ) (he : HEk t0 n1 s2 h E Γ ω) {ρ : Stk} (hρ : ρ ≠ []) : ∀ (f : Nat) (S : Ty), ok Γ.length S = true → vz t0 n1 s2 h E (expo Γ f S) ρ ω ≤ vz t0 n1 s2 h E S ρ ω
  | 0, S, _ => Nat.le_refl _
  | f + 1, S, o => by
    show vz t0 n1 s2 h E (if 16 ≤ hd S then expo Γ f (exps Γ S) else S) ρ ω ≤ _
    by_cases c : 16 ≤ hd S
    · rw [if_pos c]
      obtain ⟨k, hk, rfl⟩ := hd_is_var o c
      rw [exps_var]
      have q := expo_vz hc he hρ f _ (ok_expose hc hk)
      have q2 := he.exp hc hk hρ
      cases ρ with
      | nil => exact absurd rfl hρ
      | cons p ρ => rw [vz_var]; omega
    · rw [if_neg c]; exact Nat.le_refl _
/-- the type of a term -/
theorem tyF_vz (hm : ∀ y y', y ≤ y' → h y ≤ h y') : ∀ (f : Nat) (t : Ty) (Γ : List Ty) (Δ : List (Nat × Ty × Nat)) (A : Ty) (π : Stk) (ω : List Nat), TWf f Γ.length (Δ.map (fun a => a.1)) t → TE Γ Δ → HEk t0 n1 s2 h E Γ ω → GOk t0 n1 s2 h E f t π ω Γ Δ → tyF f t Γ Δ = .inr A → vz t0 n1 s2 h E A π ω ≤ GSk t0 n1 s2 h E f t π ω Γ Δ
  | 0, _, _, _, _, _, _, w, _, _, _, _ => w.elim
  | f + 1, t, Γ, Δ, A, π, ω, w, he, hE, go, e0 => by
    have ok0 := tyF_ok (f + 1) t Γ Δ A w he e0
    obtain ⟨w0, w5, w6, w7, w8, w9, w10, w11, w12⟩ := w
    obtain ⟨g6, g7, g8, g9, g10, g12⟩ := go
    have ih := fun t' Γ' Δ' A' π' ω' => tyF_vz hm f t' Γ' Δ' A' π' ω'
    have io := fun t' Γ' Δ' A' => tyF_ok f t' Γ' Δ' A'
    have hl := hE.len
    unfold tyF at e0
    unfold GSk
    by_cases c5 : nKd t = 5
    · rw [if_pos c5] at e0 ⊢
      obtain ⟨e, l⟩ := tyO_in e0
      obtain ⟨a, ha⟩ := dlk_some (w5 c5)
      rw [ha] at e
      injection e with e
      rw [ha]
      show _ ≤ vz t0 n1 s2 h E (lft a.2 (Γ.length - a.2) a.1) π ω
      rw [← e]
      exact Nat.le_refl _
    rw [if_neg c5] at e0 ⊢
    by_cases c6 : nKd t = 6
    · rw [if_pos c6] at e0 ⊢
      obtain ⟨B, hB, h1⟩ := tbd_in e0
      obtain ⟨-, x1, x2, x3⟩ := w6 c6
      obtain ⟨e, l⟩ := szt_in h1
      subst e
      obtain ⟨oB, -⟩ := io _ _ _ _ x3 (he.lam x1 x2) hB
      cases π with
      | nil =>
        have q := ih (nY t) Γ ((nPl t, nX t, Γ.length) :: Δ) B [] ω x3 (he.lam x1 x2) hE ((g6 c6).1 rfl) hB
        rw [vz_no ok0.1, nz_fun]
        rw [vz_no oB] at q
        show _ ≤ n1 1 + (nz t0 n1 s2 h ω (nX t) + _)
        omega
      | cons p ρ =>
        cases p with
        | none =>
          rw [vz_funN]
          exact ih (nY t) Γ ((nPl t, nX t, Γ.length) :: Δ) B ρ ω x3 (he.lam x1 x2) hE ((g6 c6).2 ρ rfl) hB
        | some z => rw [vz_funS]; exact Nat.zero_le _
    rw [if_neg c6] at e0 ⊢
    by_cases c7 : nKd t = 7
    · rw [if_pos c7] at e0 ⊢
      obtain ⟨S, hS, h1⟩ := tbd_in e0
      obtain ⟨T, hT, h1⟩ := tbd_in h1
      obtain ⟨e, l⟩ := tyO_in h1
      obtain ⟨x1, x2⟩ := w7 (Or.inl c7)
      obtain ⟨s1, s2'⟩ := io _ _ _ _ x1 he hS
      obtain ⟨o1, o2⟩ := expo_ok he.1 he.2.1 Γ.length S s1 s2'
      have q := ih _ _ _ _ (none :: π) ω x1 he hE (g7 (Or.inl c7)) hS
      have q2 := expo_vz he.1 hE (ρ := none :: π) (by simp) Γ.length S s1
      unfold tyA at e
      by_cases c : hd (expo Γ Γ.length S) = 1 ∧ bel Γ T (k1 (expo Γ Γ.length S)) = true
      · rw [if_pos c] at e
        injection e with e
        subst e
        obtain ⟨a, b, e2, ha, hb⟩ := hd_is_fun o1 c.1
        rw [e2, vz_funN] at q2
        rw [e2]
        show vz t0 n1 s2 h E b π ω ≤ _
        omega
      · rw [if_neg c] at e; cases e
    rw [if_neg c7] at e0 ⊢
    by_cases c8 : nKd t = 8
    · rw [if_pos c8] at e0 ⊢
      obtain ⟨B, hB, h1⟩ := tbd_in e0
      obtain ⟨x1, x2, x3⟩ := w8 c8
      obtain ⟨e, l⟩ := szt_in h1
      subst e
      obtain ⟨oB, -⟩ := io (nY t) (nX t :: Γ) Δ B x3 (he.all x1 x2) hB
      obtain ⟨k1', k2', k3'⟩ := g8 c8
      cases π with
      | nil =>
        have q := ih (nY t) (nX t :: Γ) Δ B [] _ x3 (he.all x1 x2) (hE.ext k1' (h (nz t0 n1 s2 h ω (nX t)))) (k2' rfl) hB
        rw [vz_no ok0.1, nz_all]
        rw [vz_no oB] at q
        show _ ≤ s2 + _
        omega
      | cons p ρ =>
        cases p with
        | none => rw [vz_allN]; exact Nat.zero_le _
        | some z =>
          rw [vz_allS]
          exact ih (nY t) (nX t :: Γ) Δ B ρ _ x3 (he.all x1 x2) (hE.ext k1' (hzx h z (nz t0 n1 s2 h ω (nX t)))) (k3' z ρ rfl) hB
    rw [if_neg c8] at e0 ⊢
    by_cases c9 : nKd t = 9
    · rw [if_pos c9] at e0 ⊢
      obtain ⟨S, hS, h1⟩ := tbd_in e0
      obtain ⟨e, l⟩ := tyO_in h1
      obtain ⟨x1, x2, x3⟩ := w9 c9
      obtain ⟨s1, s2'⟩ := io _ _ _ _ x1 he hS
      obtain ⟨o1, o2⟩ := expo_ok he.1 he.2.1 Γ.length S s1 s2'
      obtain ⟨k1', k2'⟩ := g9 c9
      unfold tyI at e
      by_cases c : hd (expo Γ Γ.length S) = 2 ∧ bel Γ (nY t) (k1 (expo Γ Γ.length S)) = true
      · rw [if_pos c] at e
        injection e with e
        subst e
        obtain ⟨a, b, e2, ha, hb⟩ := hd_is_all o1 c.1
        have q := ih _ _ _ _ (some (nz t0 n1 s2 h ω (nY t)) :: π) ω x1 he hE k2' hS
        have q2 := expo_vz he.1 hE (ρ := some (nz t0 n1 s2 h ω (nY t)) :: π) (by simp) Γ.length S s1
        rw [e2, vz_allS] at q2
        rw [e2]
        show vz t0 n1 s2 h E (sbt Γ.length (nY t) 0 b) π ω ≤ _
        have q3 := vz_sbt (t0 := t0) (n1 := n1) (s2 := s2) (E := E) hm (nY t) ω (by rw [hl]; exact x2) k1' _ b π [] (Nat.le_refl _) (by rw [hl]; exact hb)
        rw [List.nil_append, List.nil_append, hl] at q3
        have q3 : vz t0 n1 s2 h E (sbt Γ.length (nY t) 0 b) π ω ≤ vz t0 n1 s2 h E b π (nz t0 n1 s2 h ω (nY t) :: ω) := q3
        have q4 := vz_mono (t0 := t0) (n1 := n1) (s2 := s2) (E := E) hm _ b π (nz t0 n1 s2 h ω (nY t) :: ω) (hzx h (nz t0 n1 s2 h ω (nY t)) (nz t0 n1 s2 h ω a) :: ω) (Nat.le_refl _) rfl (by rw [List.length_cons, hl]; exact hb) (fun j hj => by
          rw [vw_cons, vw_cons]
          by_cases ej : j = ω.length
          · rw [if_pos ej, if_pos ej]; unfold hzx; omega
          · rw [if_neg ej, if_neg ej]; exact Nat.le_refl _)
        omega
      · rw [if_neg c] at e; cases e
    rw [if_neg c9] at e0 ⊢
    by_cases c10 : nKd t = 10
    · rw [if_pos c10] at e0 ⊢
      obtain ⟨A1, hA1, h1⟩ := tbd_in e0
      obtain ⟨A2, hA2, h1⟩ := tbd_in h1
      obtain ⟨A3, hA3, h1⟩ := tbd_in h1
      obtain ⟨e, l⟩ := szt_in h1
      obtain ⟨m8, x1⟩ := w10 c10
      subst e
      have p0 : nP t 0 = nX t := rfl
      have p1 : nP t 1 = nY t := rfl
      have p2 : nP t 2 = nZ t := rfl
      cases π with
      | nil =>
        have key : ∀ (g : Nat) (B : Ty), g < 3 → (if bit (nMk t) g = true then tyF f (nP t g) Γ Δ else .inr .nil) = .inr B → nz t0 n1 s2 h ω B ≤ (if bit (nMk t) g = true then GSk t0 n1 s2 h E f (nP t g) [] ω Γ Δ else 0) := by
          intro g B hg hB
          by_cases c : bit (nMk t) g = true
          · rw [if_pos c] at hB ⊢
            have q := ih _ _ _ _ [] ω (x1 g hg c) he hE ((g10 c10 g hg c).1 rfl) hB
            rw [vz_no (io _ _ _ _ (x1 g hg c) he hB).1] at q
            exact q
          · rw [if_neg c] at hB ⊢
            injection hB with hB
            rw [← hB, nz_nil]; exact Nat.le_refl _
        have q0 := key 0 A1 (by decide) hA1
        have q1 := key 1 A2 (by decide) hA2
        have q2 := key 2 A3 (by decide) hA3
        rw [p0] at q0
        rw [p1] at q1
        rw [p2] at q2
        rw [vz_no ok0.1, nz_rec]
        show _ ≤ n1 (8 + nMk t) + (_ + (_ + _))
        omega
      | cons p ρ =>
        cases p with
        | some z => rw [vz_recS]; exact Nat.zero_le _
        | none =>
          have key : ∀ (g : Nat) (B : Ty), g < 3 → (if bit (nMk t) g = true then tyF f (nP t g) Γ Δ else .inr .nil) = .inr B → vz t0 n1 s2 h E B ρ ω ≤ (if bit (nMk t) g = true then GSk t0 n1 s2 h E f (nP t g) ρ ω Γ Δ else 0) := by
            intro g B hg hB
            by_cases c : bit (nMk t) g = true
            · rw [if_pos c] at hB ⊢
              exact ih _ _ _ _ ρ ω (x1 g hg c) he hE ((g10 c10 g hg c).2 ρ rfl) hB
            · rw [if_neg c] at hB ⊢
              injection hB with hB
              rw [← hB, vz_nil]; exact Nat.le_refl _
          have q0 := key 0 A1 (by decide) hA1
          have q1 := key 1 A2 (by decide) hA2
          have q2 := key 2 A3 (by decide) hA3
          rw [p0] at q0
          rw [p1] at q1
          rw [p2] at q2
          rw [vz_recN]
          show _ ≤ max _ (max _ _)
          omega
    rw [if_neg c10] at e0 ⊢
    by_cases c11 : nKd t = 11
    · rw [if_pos c11] at e0 ⊢
      obtain ⟨S, hS, h1⟩ := tbd_in e0
      obtain ⟨e, l⟩ := tyO_in h1
      obtain ⟨m3, x1⟩ := w11 c11
      obtain ⟨s1, s2'⟩ := io _ _ _ _ x1 he hS
      obtain ⟨o1, o2⟩ := expo_ok he.1 he.2.1 Γ.length S s1 s2'
      have q := ih _ _ _ _ (none :: π) ω x1 he hE (g7 (Or.inr c11)) hS
      have q2 := expo_vz he.1 hE (ρ := none :: π) (by simp) Γ.length S s1
      unfold tyD at e
      by_cases c : (8 ≤ hd (expo Γ Γ.length S) ∧ hd (expo Γ Γ.length S) < 16) ∧ bit (hd (expo Γ Γ.length S) - 8) (nMk t) = true
      · rw [if_pos c] at e
        injection e with e
        subst e
        obtain ⟨m, x, y, w, hm', e2⟩ := hd_is_rec o1 c.1.1 c.1.2
        rw [e2, vz_recN] at q2
        rw [e2]
        rcases (show nMk t = 0 ∨ nMk t = 1 ∨ nMk t = 2 by omega) with e | e | e
        · rw [e, (pt_rec hm' x y w).1]; omega
        · rw [e, (pt_rec hm' x y w).2.1]; omega
        · rw [e, (pt_rec hm' x y w).2.2]; omega
      · rw [if_neg c] at e; cases e
    rw [if_neg c11] at e0 ⊢
    obtain ⟨S, hS, h1⟩ := tbd_in e0
    obtain ⟨T, hT, h1⟩ := tbd_in h1
    obtain ⟨e, l⟩ := tyO_in h1
    have c12 : nKd t = 12 := by omega
    obtain ⟨x1, x2⟩ := w7 (Or.inr c12)
    obtain ⟨k1', k2', k3'⟩ := g12 c12
    have q1 := ih _ _ _ _ π ω x1 he hE k1' hS
    have q2 := ih _ _ _ _ π ω x2 he hE k2' hT
    obtain ⟨s1, -⟩ := io _ _ _ _ x1 he hS
    by_cases cq : nKd (nX t) = 5 ∧ nKd (nY t) = 5 ∧ nMk (nX t) = nMk (nY t)
    · rw [if_pos cq]
      have ee := tyF_name cq.1 cq.2.1 cq.2.2 hS hT
      subst ee
      have er := cu_lo (w := 0) (show tok (Γ, S, S) from ⟨he.1, s1, s1⟩) (by decide) (bel_refl _ Γ S (Nat.le_refl _) he.1 s1)
      rw [er] at e
      have e : some S = some A := e
      injection e with e
      rw [← e]; exact q1
    · rw [if_neg cq]
      have q3 := k3' S T A hS hT e
      omega
end PmQ2
