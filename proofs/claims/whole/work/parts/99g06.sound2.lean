/-! A TERM THAT HAS A TYPE RUNS WELL: rule by rule. -/
theorem Ex.var {P : Pr} {n : Nat} {t ρ v : Ty} (hk : nKd t = 5) (e : elk ρ (nMk t) = some v) (hd : dc P) (h : P n v) : Ex P n t ρ := by
  intro j hj k hc
  cases j with
  | zero => trivial
  | succ j => exact Sf.step (mv_5 hk e) (hc j (by omega) v (hd.le (by omega) h))
theorem Ex.val {P : Pr} {n : Nat} {t ρ : Ty} (hk : nKd t = 6 ∨ nKd t = 8) (hd : dc P) (h : P n (vC t ρ)) : Ex P n t ρ := by
  intro j hj k hc
  cases j with
  | zero => trivial
  | succ j => exact Sf.step (mv_6 hk) (hc j (by omega) _ (hd.le (by omega) h))
theorem Ex.app {ξ : List Pr} {n : Nat} {t ρ A B : Ty} (hk : nKd t = 7) (hA : dc (sem ξ A)) (h1 : Ex (sem ξ (tFun A B)) n (nX t) ρ) (h2 : Ex (sem ξ A) n (nY t) ρ) : Ex (sem ξ B) n t ρ := by
  intro j hj k hc
  cases j with
  | zero => trivial
  | succ j =>
    refine Sf.step (mv_x (Or.inl hk)) (h1 j (by omega) _ (fun m hm v hv => ?_))
    cases m with
    | zero => trivial
    | succ m =>
      refine Sf.step (mvR_7a hk) (h2 m (by omega) _ (fun m2 hm2 w hw => ?_))
      cases m2 with
      | zero => trivial
      | succ m2 =>
        rw [sem_fun] at hv
        obtain ⟨t', ρ', e, h6, hh⟩ := hv
        subst e
        refine Sf.step (mvR_7b hk h6) (hh m2 (by omega) w (hA m2 w hw) m2 (Nat.le_refl _) k (fun m3 hm3 v3 hv3 => hc m3 (by omega) v3 hv3))
theorem Ex.ins {ξ : List Pr} {n : Nat} {t ρ A C B : Ty} (hk : nKd t = 9) (hA : dc (sem ξ A)) (hi : Inc ξ A C) (h1 : Ex (sem ξ (tAll C B)) n (nX t) ρ) : Ex (sem (sem ξ A :: ξ) B) n t ρ := by
  intro j hj k hc
  cases j with
  | zero => trivial
  | succ j =>
    refine Sf.step (mv_x (Or.inr (Or.inl hk))) (h1 j (by omega) _ (fun m hm v hv => ?_))
    cases m with
    | zero => trivial
    | succ m =>
      rw [sem_all] at hv
      obtain ⟨t', ρ', e, h8, hh⟩ := hv
      subst e
      exact Sf.step (mvR_9 hk h8) (hh (sem ξ A) hA hi m (by omega) m (Nat.le_refl _) k (fun m3 hm3 v3 hv3 => hc m3 (by omega) v3 hv3))
theorem Ex.dot {ξ : List Pr} {n m : Nat} {t ρ x y z : Ty} (hk : nKd t = 11) (h3 : nMk t < 3) (hb : bit m (nMk t) = true) (hd : dc (sem ξ (if nMk t = 0 then x else if nMk t = 1 then y else z))) (h1 : Ex (sem ξ (tRec m x y z)) n (nX t) ρ) : Ex (sem ξ (if nMk t = 0 then x else if nMk t = 1 then y else z)) n t ρ := by
  intro j hj k hc
  cases j with
  | zero => trivial
  | succ j =>
    refine Sf.step (mv_x (Or.inr (Or.inr hk))) (h1 j (by omega) _ (fun q hm v hv => ?_))
    cases q with
    | zero => trivial
    | succ q =>
      rw [sem_rec] at hv
      obtain ⟨m', a, b, c, e, hbi, ha, hb2, hc2⟩ := hv
      subst e
      refine Sf.step (mvR_11 hk (hbi _ h3 hb)) (hc q (by omega) _ (hd q _ ?_))
      have : nMk t = 0 ∨ nMk t = 1 ∨ nMk t = 2 := by omega
      rcases this with e | e | e <;> rw [e]
      · exact ha
      · exact hb2
      · exact hc2
theorem Ex.cho {P : Pr} {n : Nat} {t ρ : Ty} (hk : nKd t = 12) (h1 : Ex P n (nX t) ρ) (h2 : Ex P n (nY t) ρ) : Ex P n t ρ := by
  intro j hj k hc
  cases j with
  | zero => trivial
  | succ j =>
    refine Sf.step (mv_12 hk) ?_
    by_cases c : nMk t = 0
    · rw [if_pos c]; exact h1 j (by omega) k (fun m hm v hv => hc m (by omega) v hv)
    · rw [if_neg c]; exact h2 j (by omega) k (fun m hm v hv => hc m (by omega) v hv)
theorem Ex.rec {ξ : List Pr} {n : Nat} {t ρ : Ty} {X : Nat → Ty} (h : nKd t = 10) (hk8 : nMk t < 8) (hd : ∀ i, i < 3 → dc (sem ξ (X i))) (hx : ∀ i, i < 3 → bit (nMk t) i = true → Ex (sem ξ (X i)) n (nP t i) ρ) (hn : ∀ i, i < 3 → bit (nMk t) i = false → X i = .nil) : Ex (sem ξ (tRec (nMk t) (X 0) (X 1) (X 2))) n t ρ := by
  intro j hj k hc
  cases j with
  | zero => trivial
  | succ j =>
    refine Sf.step (mv_10 h) ?_
    exact rec_go (n := j) h hk8 hd (fun i hi hb => (hx i hi hb).le (by omega)) hn (fun m hm v hv => hc m (by omega) v hv) 3 0 rfl j .nil .nil .nil (Nat.le_refl _) (fun i hi hi0 => absurd hi0 (Nat.not_lt_zero i))
theorem tyF_sem : ∀ (f : Nat) (t : Ty) (Γ : List Ty) (Δ : List (Nat × Ty × Nat)) (A : Ty) (ξ : List Pr) (n : Nat) (ρ : Ty), TWf f Γ.length (Δ.map (fun a => a.1)) t → TE Γ Δ → mdl Γ ξ → EnvOk Γ Δ ξ n ρ → tyF f t Γ Δ = .inr A → Ex (sem ξ A) n t ρ
  | 0, _, _, _, _, _, _, _, h, _, _, _, _ => h.elim
  | f + 1, t, Γ, Δ, A, ξ, n, ρ, hw, he, hm, hρ, h => by
    have hA := tyF_ok (f + 1) t Γ Δ A hw he h
    have dcs : ∀ B : Ty, ok Γ.length B = true → dc (sem ξ B) := fun B hB => sem_dc ξ hm.dcs _ B (Nat.le_refl _) (by rw [hm.1]; exact hB)
    obtain ⟨w0, w5, w6, w7, w8, w9, w10, w11, w12⟩ := hw
    have ih := fun t' Γ' Δ' A' => tyF_sem f t' Γ' Δ' A'
    unfold tyF at h
    by_cases c5 : nKd t = 5
    · rw [if_pos c5] at h
      obtain ⟨e, l⟩ := tyO_in h
      obtain ⟨a, ha⟩ := dlk_some (w5 c5)
      rw [ha] at e
      injection e with e
      obtain ⟨v, e1, e2⟩ := hρ (nMk t) a.1 a.2 ha
      have e : lft a.2 (Γ.length - a.2) a.1 = A := e
      rw [e] at e2
      exact Ex.var c5 e1 (dcs A hA.1) e2
    rw [if_neg c5] at h
    by_cases c6 : nKd t = 6
    · rw [if_pos c6] at h
      obtain ⟨B, hB, h⟩ := tbd_in h
      obtain ⟨-, x1, x2, x3⟩ := w6 c6
      obtain ⟨e, l⟩ := szt_in h
      have hd := dcs A hA.1
      subst e
      refine Ex.val (Or.inl c6) hd ?_
      rw [sem_fun]
      refine ⟨t, ρ, rfl, c6, fun m hmn w hw => ?_⟩
      exact ih (nY t) Γ ((nPl t, nX t, Γ.length) :: Δ) B ξ m _ x3 (he.lam x1 x2) hm ((hρ.le he hm (by omega)).lam hm x1 hw) hB
    rw [if_neg c6] at h
    by_cases c7 : nKd t = 7
    · rw [if_pos c7] at h
      obtain ⟨S, hS, h⟩ := tbd_in h
      obtain ⟨T, hT, h⟩ := tbd_in h
      obtain ⟨e, l⟩ := tyO_in h
      obtain ⟨x1, x2⟩ := w7 (Or.inl c7)
      obtain ⟨s1, s2⟩ := tyF_ok f _ _ _ _ x1 he hS
      obtain ⟨t1, t2⟩ := tyF_ok f _ _ _ _ x2 he hT
      obtain ⟨o1, o2⟩ := expo_ok he.1 he.2.1 Γ.length S s1 s2
      have i1 := (ih _ _ _ _ ξ n ρ x1 he hm hρ hS).imp (expo_inc he.1 hm Γ.length S s1)
      have i2 := ih _ _ _ _ ξ n ρ x2 he hm hρ hT
      unfold tyA at e
      by_cases c : hd (expo Γ Γ.length S) = 1 ∧ bel Γ T (k1 (expo Γ Γ.length S)) = true
      · rw [if_pos c] at e
        injection e with e
        obtain ⟨a, b, e2, ha, hb⟩ := hd_is_fun o1 c.1
        rw [e2] at e i1 c
        have e : b = A := e
        subst e
        have c2 : bel Γ T a = true := c.2
        exact Ex.app c7 (dcs a ha) i1 (i2.imp (bel_inc ⟨he.1, t1, ha⟩ hm c2))
      · rw [if_neg c] at e; cases e
    rw [if_neg c7] at h
    by_cases c8 : nKd t = 8
    · rw [if_pos c8] at h
      obtain ⟨B, hB, h⟩ := tbd_in h
      obtain ⟨x1, x2, x3⟩ := w8 c8
      obtain ⟨e, l⟩ := szt_in h
      have hd := dcs A hA.1
      subst e
      refine Ex.val (Or.inr c8) hd ?_
      rw [sem_all]
      refine ⟨t, ρ, rfl, c8, fun p hp hs m hmn => ?_⟩
      exact ih (nY t) (nX t :: Γ) Δ B (p :: ξ) m ρ x3 (he.all x1 x2) (hm.cons he.1 x1 hp hs) ((hρ.le he hm (by omega)).all he hm) hB
    rw [if_neg c8] at h
    by_cases c9 : nKd t = 9
    · rw [if_pos c9] at h
      obtain ⟨S, hS, h⟩ := tbd_in h
      obtain ⟨e, l⟩ := tyO_in h
      obtain ⟨x1, x2, x3⟩ := w9 c9
      obtain ⟨s1, s2⟩ := tyF_ok f _ _ _ _ x1 he hS
      obtain ⟨o1, o2⟩ := expo_ok he.1 he.2.1 Γ.length S s1 s2
      have i1 := (ih _ _ _ _ ξ n ρ x1 he hm hρ hS).imp (expo_inc he.1 hm Γ.length S s1)
      unfold tyI at e
      by_cases c : hd (expo Γ Γ.length S) = 2 ∧ bel Γ (nY t) (k1 (expo Γ Γ.length S)) = true
      · rw [if_pos c] at e
        injection e with e
        obtain ⟨a, b, e2, ha, hb⟩ := hd_is_all o1 c.1
        rw [e2] at e i1 c
        have e : sbt Γ.length (nY t) 0 b = A := e
        have c2 : bel Γ (nY t) a = true := c.2
        have q := sem_sbt (nY t) ξ (by rw [hm.1]; exact x2) _ b [] (Nat.le_refl _) (by rw [hm.1]; exact hb)
        rw [List.nil_append, List.nil_append, List.length_nil, hm.1] at q
        rw [← e, q]
        exact Ex.ins c9 (dcs _ x2) (bel_inc ⟨he.1, x2, ha⟩ hm c2) i1
      · rw [if_neg c] at e; cases e
    rw [if_neg c9] at h
    by_cases c10 : nKd t = 10
    · rw [if_pos c10] at h
      obtain ⟨A0, h0, h⟩ := tbd_in h
      obtain ⟨A1, h1, h⟩ := tbd_in h
      obtain ⟨A2, h2, h⟩ := tbd_in h
      obtain ⟨e, l⟩ := szt_in h
      obtain ⟨x1, x2⟩ := w10 c10
      subst e
      have key : ∀ (i : Nat) (P X : Ty), i < 3 → nP t i = P → (if bit (nMk t) i = true then tyF f P Γ Δ else .inr .nil) = Sum.inr X → dc (sem ξ X) ∧ (bit (nMk t) i = true → Ex (sem ξ X) n (nP t i) ρ) ∧ (bit (nMk t) i = false → X = .nil) := by
        intro i P X hi eP hX
        by_cases hb : bit (nMk t) i = true
        · rw [if_pos hb] at hX
          have tw := x2 i hi hb
          rw [eP] at tw ⊢
          exact ⟨dcs X (tyF_ok f _ _ _ _ tw he hX).1, fun _ => ih _ _ _ _ ξ n ρ tw he hm hρ hX, fun q => by rw [hb] at q; cases q⟩
        · rw [if_neg hb] at hX
          cases hX
          exact ⟨by rw [sem_nil]; exact fun _ _ _ => trivial, fun q => absurd q hb, fun _ => rfl⟩
      have k0 := key 0 (nX t) A0 (by omega) rfl h0
      have k1' := key 1 (nY t) A1 (by omega) rfl h1
      have k2' := key 2 (nZ t) A2 (by omega) rfl h2
      have all : ∀ i, i < 3 → (i = 0 ∨ i = 1 ∨ i = 2) := fun i hi => by omega
      have d1 : ∀ i, i < 3 → dc (sem ξ ((fun i => if i = 0 then A0 else if i = 1 then A1 else A2) i)) := by
        intro i hi
        rcases all i hi with rfl | rfl | rfl
        · exact k0.1
        · exact k1'.1
        · exact k2'.1
      have d2 : ∀ i, i < 3 → bit (nMk t) i = true → Ex (sem ξ ((fun i => if i = 0 then A0 else if i = 1 then A1 else A2) i)) n (nP t i) ρ := by
        intro i hi hb
        rcases all i hi with rfl | rfl | rfl
        · exact k0.2.1 hb
        · exact k1'.2.1 hb
        · exact k2'.2.1 hb
      have d3 : ∀ i, i < 3 → bit (nMk t) i = false → (fun i => if i = 0 then A0 else if i = 1 then A1 else A2) i = .nil := by
        intro i hi hb
        rcases all i hi with rfl | rfl | rfl
        · exact k0.2.2 hb
        · exact k1'.2.2 hb
        · exact k2'.2.2 hb
      exact Ex.rec (X := fun i => if i = 0 then A0 else if i = 1 then A1 else A2) c10 x1 d1 d2 d3
    rw [if_neg c10] at h
    by_cases c11 : nKd t = 11
    · rw [if_pos c11] at h
      obtain ⟨S, hS, h⟩ := tbd_in h
      obtain ⟨e, l⟩ := tyO_in h
      obtain ⟨x1, x2⟩ := w11 c11
      obtain ⟨s1, s2⟩ := tyF_ok f _ _ _ _ x2 he hS
      obtain ⟨o1, o2⟩ := expo_ok he.1 he.2.1 Γ.length S s1 s2
      have i1 := (ih _ _ _ _ ξ n ρ x2 he hm hρ hS).imp (expo_inc he.1 hm Γ.length S s1)
      unfold tyD at e
      by_cases c : (8 ≤ hd (expo Γ Γ.length S) ∧ hd (expo Γ Γ.length S) < 16) ∧ bit (hd (expo Γ Γ.length S) - 8) (nMk t) = true
      · rw [if_pos c] at e
        injection e with e
        obtain ⟨m, x, y, z, hm8, e2⟩ := hd_is_rec o1 c.1.1 c.1.2
        rw [e2] at e i1 c
        have c2 := c.2
        rw [hd_rec, show 8 + m - 8 = m by omega] at c2
        obtain ⟨p0, p1, p2⟩ := pt_rec hm8 x y z
        have e3 : (if nMk t = 0 then x else if nMk t = 1 then y else z) = A := by
          rw [← e]
          have : nMk t = 0 ∨ nMk t = 1 ∨ nMk t = 2 := by omega
          rcases this with q | q | q <;> rw [q]
          · rw [p0]; rfl
          · rw [p1]; rfl
          · rw [p2]; rfl
        rw [← e3]
        exact Ex.dot c11 x1 c2 (by rw [e3]; exact dcs A hA.1) i1
      · rw [if_neg c] at e; cases e
    rw [if_neg c11] at h
    have c12 : nKd t = 12 := by have := w0.1; omega
    obtain ⟨S, hS, h⟩ := tbd_in h
    obtain ⟨T, hT, h⟩ := tbd_in h
    obtain ⟨e, l⟩ := tyO_in h
    obtain ⟨x1, x2⟩ := w7 (Or.inr c12)
    obtain ⟨s1, s2⟩ := tyF_ok f _ _ _ _ x1 he hS
    obtain ⟨t1, t2⟩ := tyF_ok f _ _ _ _ x2 he hT
    have i1 := ih _ _ _ _ ξ n ρ x1 he hm hρ hS
    have i2 := ih _ _ _ _ ξ n ρ x2 he hm hρ hT
    obtain ⟨j1, j2⟩ := cmu_inc (Γ := Γ) (S := S) (T := T) (ξ := ξ) ⟨he.1, s1, t1⟩ hm e
    exact Ex.cho c12 (i1.imp j1) (i2.imp j2)
/-- THE RUN of a closed term that has a type is never stuck -/
theorem run_ok {t A : Ty} (hw : TWf 24 0 [] t) (h : tyF 24 t [] [] = .inr A) : ∀ n, Sf n (.inl (t, .nil, [])) := by
  intro n
  have := tyF_sem 24 t [] [] A [] n .nil hw ⟨trivial, fun k hk => absurd hk (Nat.not_lt_zero k), fun a ha => by cases ha⟩ mdl.nil (fun m B d hd => by cases hd) h
  refine this n (Nat.le_refl _) [] (fun m hm v hv => ?_)
  cases m with
  | zero => trivial
  | succ m => exact Or.inl ⟨v, rfl⟩
