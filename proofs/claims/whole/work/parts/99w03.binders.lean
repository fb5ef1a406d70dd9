/-! ARGUMENTS UNDER A TERM'S OWN BINDERS, any number of instances waiting. -/
/-- a binder of types on the way -/
def hasb : Nat → Ty → Bool
  | 0, _ => false
  | f + 1, t => if nKd t = 5 then false else if nKd t = 6 then hasb f (nY t) else if nKd t = 7 ∨ nKd t = 11 then hasb f (nX t) else if nKd t = 8 then true else if nKd t = 9 then hasb f (nX t) else if nKd t = 10 then (hasb f (nX t) || (hasb f (nY t) || hasb f (nZ t))) else (hasb f (nX t) || hasb f (nY t))
/-- what stands around instances -/
def g3k : Nat → Ty → Nat
  | 0, _ => 0
  | f + 1, t => if nKd t = 5 then 0 else if nKd t = 6 then g3k f (nY t) else if nKd t = 7 ∨ nKd t = 11 then g3k f (nX t) else if nKd t = 8 then (if hasq f (nY t) = true then tch (nX t) + 4 + g3k f (nY t) else 0) else if nKd t = 9 then (if hasb f (nX t) = true then (if tch (nY t) = 1 then 0 else tch (nY t) + 4) + g3k f (nX t) else 0) else if nKd t = 10 then max (g3k f (nX t)) (max (g3k f (nY t)) (g3k f (nZ t))) else max (g3k f (nX t)) (g3k f (nY t))
theorem g3k_0 : ∀ (f : Nat) (t : Ty), hasb f t = false → g3k f t = 0
  | 0, _, _ => rfl
  | f + 1, t, e => by
    unfold hasb at e
    unfold g3k
    by_cases c5 : nKd t = 5
    · rw [if_pos c5]
    rw [if_neg c5] at e ⊢
    by_cases c6 : nKd t = 6
    · rw [if_pos c6] at e ⊢
      exact g3k_0 f _ e
    rw [if_neg c6] at e ⊢
    by_cases c7 : nKd t = 7 ∨ nKd t = 11
    · rw [if_pos c7] at e ⊢
      exact g3k_0 f _ e
    rw [if_neg c7] at e ⊢
    by_cases c8 : nKd t = 8
    · rw [if_pos c8] at e
      cases e
    rw [if_neg c8] at e ⊢
    by_cases c9 : nKd t = 9
    · rw [if_pos c9] at e ⊢
      rw [if_neg (by rw [e]; decide)]
    rw [if_neg c9] at e ⊢
    by_cases c10 : nKd t = 10
    · rw [if_pos c10] at e ⊢
      rw [Bool.or_eq_false_iff, Bool.or_eq_false_iff] at e
      rw [g3k_0 f _ e.1, g3k_0 f _ e.2.1, g3k_0 f _ e.2.2]
      rfl
    rw [if_neg c10] at e ⊢
    rw [Bool.or_eq_false_iff] at e
    rw [g3k_0 f _ e.1, g3k_0 f _ e.2]
    rfl
section PmWd
variable {N t0 fn s2 hv r0 r1 r2 r3 x0 y : Nat} {n1 h : Nat → Nat} {E : Stk → Nat} {P Q : List (List Nat)} {F G W : FrT} {X : List Nat} {Z : Nat → Nat}
theorem AH_x (ht0 : t0 ≤ x0) (hn : NC t0 n1 s2 h) (hm : ∀ y y', y ≤ y' → h y ≤ h y') (T : TBs N t0 fn s2 hv r0 r1 r2 r3 x0 n1 h P Q F G X) (hgr : fgc F W hv = true) (hy : x0 ≤ y) {g yg m0 : Nat} (g38 : g ≤ 38) (hyg : ∀ r, r ≤ g → ∀ e ∈ frg W r, e.2 + e.1 * y ≤ yg) (hA : ∀ (A : Ty) (ω : List Nat), ok ω.length A = true → tch A + 2 ≤ m0 → (∀ j, j < ω.length → vw ω j ≤ yg) → (∀ ρ, ρ ≠ [] → vz t0 n1 s2 h E A ρ ω ≤ E ρ) ∧ nz t0 n1 s2 h ω A ≤ Z (tch A + 2)) : ∀ (f : Nat) (t : Ty) (π : Stk) (ω : List Nat) (Γ : List Ty) (sc : List Nat) (r : Nat) (e : Nat × Nat), TWf f Γ.length sc t → ω.length = Γ.length → e ∈ frg W r → 1 ≤ e.1 → (∀ j, j < ω.length → vw ω j ≤ e.2 + e.1 * y) → (hasb f t = true → zm π ≤ e.2 + e.1 * y) → (hasq f t = true → r + g3k f t ≤ g) → mch t ≤ m0 → AQh t0 n1 s2 h E Z f t π ω
  | 0, _, _, _, _, _, _, _, w, _, _, _, _, _, _, _ => w.elim
  | f + 1, t, π, ω, Γ, sc, r, e, w, hl, heW, e1, hw, hzm, hg, hmm => by
    obtain ⟨w0, w5, w6, w7, w8, w9, w10, w11, w12⟩ := w
    have em := mch_is w0.2.1
    have ih := fun u π' ω' Γ' sc' r' e' => AH_x ht0 hn hm T hgr hy g38 hyg hA f u π' ω' Γ' sc' r' e'
    have kd : ∀ D sc (u : Ty), TWf f D sc u → 5 ≤ nKd u ∧ nKd u ≤ 12 := by
      intro D sc u wu
      cases f with
      | zero => exact wu.elim
      | succ f => exact wu.1.1
    have mpos : ∀ D sc (u : Ty), TWf f D sc u → 1 ≤ mch u := by
      intro D sc u wu
      cases f with
      | zero => exact wu.elim
      | succ f => exact mch_pos wu
    unfold hasq g3k at hg
    unfold hasb at hzm
    have text : ∀ A, ok Γ.length A = true → tch A + 2 ≤ m0 → r ≤ g → (∀ ρ, ρ ≠ [] → vz t0 n1 s2 h E A ρ ω ≤ E ρ) ∧ nz t0 n1 s2 h ω A ≤ Z (tch A + 2) := fun A oA ht hr => hA A ω (by rw [hl]; exact oA) ht (fun j hj => Nat.le_trans (hw j hj) (hyg r hr e heW))
    refine ⟨fun c6 => ?_, fun c7 => ?_, fun c8 => ?_, fun c9 => ?_, fun c10 gg hg' hb => ?_, fun c12 => ?_⟩
    · obtain ⟨-, x1, x2, x3⟩ := w6 c6
      rw [if_neg (by omega), if_pos (Or.inl c6)] at em
      rw [if_neg (by omega), if_pos c6, if_neg (by omega), if_pos c6] at hg
      rw [if_neg (by omega), if_pos c6] at hzm
      refine ⟨fun e' => ?_, fun ρ e' => ?_⟩
      · exact ih _ _ _ _ _ r e x3 hl heW e1 hw (fun _ => Nat.zero_le _) hg (by omega)
      · subst e'
        exact ih _ _ _ _ _ r e x3 hl heW e1 hw hzm hg (by omega)
    · rw [if_neg (by omega), if_neg (by omega), if_pos c7, if_neg (by omega), if_neg (by omega), if_pos c7] at hg
      rw [if_neg (by omega), if_neg (by omega), if_pos c7] at hzm
      have x1 : TWf f Γ.length sc (nX t) := by
        rcases c7 with c | c
        · exact (w7 (Or.inl c)).1
        · exact (w11 c).2
      have em2 : mch (nX t) ≤ mch t := by
        rcases c7 with c | c
        · rw [if_neg (by rw [c]; decide), if_neg (by rw [c]; decide), if_neg (by rw [c]; decide), if_neg (by rw [c]; decide)] at em
          omega
        · rw [if_neg (by rw [c]; decide), if_neg (by rw [c]; decide), if_neg (by rw [c]; decide), if_neg (by rw [c]; decide)] at em
          omega
      exact ih _ _ _ _ _ r e x1 hl heW e1 hw hzm hg (by omega)
    · obtain ⟨x1, x2, x3⟩ := w8 c8
      rw [if_neg (by omega), if_pos (Or.inr c8)] at em
      rw [if_neg (by omega), if_neg (by omega), if_neg (by omega), if_pos (Or.inl c8), if_neg (by omega), if_neg (by omega), if_neg (by omega), if_pos c8] at hg
      rw [if_neg (by omega), if_neg (by omega), if_neg (by omega), if_pos c8] at hzm
      have hzm := hzm rfl
      have g1 := hg rfl
      have tx := text (nX t) x1 (by have := mpos _ _ _ x3; omega) (by omega)
      have go : ∀ v ρ, zm ρ ≤ e.2 + e.1 * y → (hasq f (nY t) = true → ∀ w : Nat × Nat, h (nz t0 n1 s2 h ω (nX t)) ≤ w.2 + w.1 * y → e.2 + e.1 * y ≤ w.2 + w.1 * y → v ≤ w.2 + w.1 * y) → AQh t0 n1 s2 h E Z f (nY t) ρ (v :: ω) := by
        intro v ρ hzr hvv
        by_cases c : hasq f (nY t) = true
        · rw [if_pos c] at g1
          obtain ⟨w, hw', w1, w2, w3, w4⟩ := gr_step hn T hgr hy heW e1 (A := nX t) (ω := ω) (by rw [hl]; exact x1) hw (by omega)
          exact ih (nY t) ρ _ (nX t :: Γ) sc (r + tch (nX t) + 4) w x3 (by rw [List.length_cons, List.length_cons, hl]) hw' w1 (fun j hj => by
            rw [vw_cons]
            by_cases e' : j = ω.length
            · rw [if_pos e']; exact hvv c w w3 w2
            · rw [if_neg e']
              have := hw j (by rw [List.length_cons] at hj; omega)
              omega) (fun _ => by omega) (fun _ => by omega) (by omega)
        · exact AH_triv f (nY t) ρ _ (kd _ _ _ x3) _ _ x3 (by simpa using c)
      refine ⟨tx.1, fun e' => go _ _ (Nat.zero_le _) (fun _ w a1 _ => a1), fun z ρ e' => ?_⟩
      subst e'
      have z1 : z ≤ e.2 + e.1 * y := Nat.le_trans (Nat.le_max_left z (zm ρ)) hzm
      exact go _ _ (Nat.le_trans (Nat.le_max_right z (zm ρ)) hzm) (fun _ w a1 a2 => Nat.max_le.mpr ⟨by omega, a1⟩)
    · obtain ⟨x1, x2, x3⟩ := w9 c9
      rw [if_neg (by omega), if_neg (by omega), if_pos c9] at em
      rw [if_neg (by omega), if_neg (by omega), if_neg (by omega), if_pos (Or.inr c9), if_neg (by omega), if_neg (by omega), if_neg (by omega), if_neg (by omega), if_pos c9] at hg
      rw [if_neg (by omega), if_neg (by omega), if_neg (by omega), if_neg (by omega), if_pos c9] at hzm
      have g1 := hg rfl
      have tx := text (nY t) x2 (by have := mpos _ _ _ x1; omega) (by omega)
      refine ⟨tx, ?_⟩
      by_cases c : hasq f (nX t) = true
      · by_cases cb : ¬ hasb f (nX t) = true
        · exact ih _ _ _ _ _ r e x1 hl heW e1 hw (fun c' => absurd c' cb) (fun _ => by rw [g3k_0 f (nX t) (by simpa using cb)]; omega) (by omega)
        have cb : hasb f (nX t) = true := Decidable.not_not.mp cb
        have hzm := hzm cb
        rw [if_pos cb] at g1
        by_cases eq : tch (nY t) = 1
        · rw [if_pos eq] at g1
          have u : nz t0 n1 s2 h ω (nY t) ≤ e.2 + e.1 * y := by
            have yy : y ≤ e.2 + e.1 * y := by
              have := Nat.mul_le_mul_right y e1
              omega
            rcases ok_cases x2 with e0 | ⟨j, hj, e0⟩ | ⟨a, b, e0, ha, hb⟩ | ⟨a, b, e0, ha, hb⟩ | ⟨c', u', v', w', hc, e0, h0, h1, h2⟩
            · rw [e0, nz_top]; omega
            · rw [e0, nz_var]; exact hw j (by rw [hl]; exact hj)
            · rw [e0, tch_fun] at eq; omega
            · rw [e0, tch_all] at eq; omega
            · rw [e0, tch_rec] at eq
              have key : ∀ m, m < 8 → 2 ≤ rch m := by decide
              have := key c' hc
              omega
          exact ih _ _ _ _ _ r e x1 hl heW e1 hw (fun _ => Nat.max_le.mpr ⟨u, hzm⟩) (fun _ => by omega) (by omega)
        · rw [if_neg eq] at g1
          obtain ⟨w, hw', w1, w2, w3, w4⟩ := gr_step hn T hgr hy heW e1 (A := nY t) (ω := ω) (by rw [hl]; exact x2) hw (by omega)
          exact ih _ _ _ _ _ (r + tch (nY t) + 4) w x1 hl hw' w1 (fun j hj => Nat.le_trans (hw j hj) w2) (fun _ => Nat.max_le.mpr ⟨w4, by omega⟩) (fun _ => by omega) (by omega)
      · exact AH_triv f (nX t) _ _ (kd _ _ _ x1) _ _ x1 (by simpa using c)
    · obtain ⟨m8, x1⟩ := w10 c10
      rw [if_neg (by omega), if_neg (by omega), if_neg (by omega), if_pos c10] at em
      rw [if_neg (by omega), if_neg (by omega), if_neg (by omega), if_neg (by omega), if_pos c10, if_neg (by omega), if_neg (by omega), if_neg (by omega), if_neg (by omega), if_neg (by omega), if_pos c10] at hg
      rw [if_neg (by omega), if_neg (by omega), if_neg (by omega), if_neg (by omega), if_neg (by omega), if_pos c10] at hzm
      have zb : hasb f (nP t gg) = true → zm π ≤ e.2 + e.1 * y := by
        intro c
        rcases (show gg = 0 ∨ gg = 1 ∨ gg = 2 by omega) with rfl | rfl | rfl
        · have c : hasb f (nX t) = true := c
          exact hzm (by rw [c]; rfl)
        · have c : hasb f (nY t) = true := c
          exact hzm (by rw [c]; simp)
        · have c : hasb f (nZ t) = true := c
          exact hzm (by rw [c]; simp)
      have sub : mch (nP t gg) ≤ mch t ∧ (hasq f (nP t gg) = true → r + g3k f (nP t gg) ≤ g) := by
        have s0 := Nat.le_max_left (g3k f (nX t)) (max (g3k f (nY t)) (g3k f (nZ t)))
        have s1 := Nat.le_max_right (g3k f (nX t)) (max (g3k f (nY t)) (g3k f (nZ t)))
        have s2' := Nat.le_max_left (g3k f (nY t)) (g3k f (nZ t))
        have s3 := Nat.le_max_right (g3k f (nY t)) (g3k f (nZ t))
        rcases (show gg = 0 ∨ gg = 1 ∨ gg = 2 by omega) with rfl | rfl | rfl
        · refine ⟨by show mch (nX t) ≤ _; omega, fun c => ?_⟩
          have c : hasq f (nX t) = true := c
          have := hg (by rw [c]; rfl)
          show r + g3k f (nX t) ≤ g
          omega
        · refine ⟨by show mch (nY t) ≤ _; omega, fun c => ?_⟩
          have c : hasq f (nY t) = true := c
          have := hg (by rw [c]; simp)
          show r + g3k f (nY t) ≤ g
          omega
        · refine ⟨by show mch (nZ t) ≤ _; omega, fun c => ?_⟩
          have c : hasq f (nZ t) = true := c
          have := hg (by rw [c]; simp)
          show r + g3k f (nZ t) ≤ g
          omega
      refine ⟨fun e' => ?_, fun ρ e' => ?_⟩
      · exact ih _ _ _ _ _ r e (x1 gg hg' hb) hl heW e1 hw (fun _ => Nat.zero_le _) sub.2 (by omega)
      · subst e'
        exact ih _ _ _ _ _ r e (x1 gg hg' hb) hl heW e1 hw zb sub.2 (by omega)
    · obtain ⟨x1, x2⟩ := w7 (Or.inr c12)
      rw [if_neg (by omega), if_neg (by omega), if_neg (by omega), if_neg (by omega)] at em
      rw [if_neg (by omega), if_neg (by omega), if_neg (by omega), if_neg (by omega), if_neg (by omega), if_neg (by omega), if_neg (by omega), if_neg (by omega), if_neg (by omega), if_neg (by omega), if_neg (by omega)] at hg
      have s0 := Nat.le_max_left (g3k f (nX t)) (g3k f (nY t))
      have s1 := Nat.le_max_right (g3k f (nX t)) (g3k f (nY t))
      rw [if_neg (by omega), if_neg (by omega), if_neg (by omega), if_neg (by omega), if_neg (by omega), if_neg (by omega)] at hzm
      refine ⟨ih _ _ _ _ _ r e x1 hl heW e1 hw (fun c => hzm (by rw [c]; rfl)) (fun c => ?_) (by omega), ih _ _ _ _ _ r e x2 hl heW e1 hw (fun c => hzm (by rw [c]; simp)) (fun c => ?_) (by omega)⟩
      · have := hg (by rw [c]; rfl)
        omega
      · have := hg (by rw [c]; simp)
        omega
end PmWd
