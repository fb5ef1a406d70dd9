/-! ARGUMENTS UNDER A TERM'S OWN BINDERS: values by the growth table. -/
section PmWn
variable {N t0 fn s2 hv r0 r1 r2 r3 x0 y : Nat} {n1 h : Nat → Nat} {E : Stk → Nat} {P Q : List (List Nat)} {F G W : FrT} {X : List Nat} {Z : Nat → Nat}
theorem gr_step (hn : NC t0 n1 s2 h) (T : TBs N t0 fn s2 hv r0 r1 r2 r3 x0 n1 h P Q F G X) (hg : fgc F W hv = true) (hy : x0 ≤ y) {r : Nat} {e : Nat × Nat} (he : e ∈ frg W r) (e1 : 1 ≤ e.1) {A : Ty} {ω : List Nat} (oa : ok ω.length A = true) (hw : ∀ j, j < ω.length → vw ω j ≤ e.2 + e.1 * y) (hk : r + tch A + 4 ≤ 38) : ∃ w ∈ frg W (r + tch A + 4), 1 ≤ w.1 ∧ e.2 + e.1 * y ≤ w.2 + w.1 * y ∧ h (nz t0 n1 s2 h ω A) ≤ w.2 + w.1 * y ∧ nz t0 n1 s2 h ω A ≤ w.2 + w.1 * y := by
  have ta := tch_pos oa
  have yy : y ≤ e.2 + e.1 * y := by
    have := Nat.mul_le_mul_right y e1
    omega
  obtain ⟨p, hp, q⟩ := val_any T oa (by omega) (Nat.le_trans hy yy) hw
  have H := T.2.2.1 (nz t0 n1 s2 h ω A) (e.2 + e.1 * y) (Nat.le_trans hy yy)
  have key : ∃ u ∈ frg F (tch A), h (nz t0 n1 s2 h ω A) ≤ hv + (u.2 + u.1 * (e.2 + e.1 * y)) := by
    by_cases c : nz t0 n1 s2 h ω A ≤ e.2 + e.1 * y
    · obtain ⟨v, hv', v1, v2⟩ := dom_ex (frc_0 T.1 (k := tch A) ta (by omega)).2.1
      refine ⟨v, hv', ?_⟩
      have := Nat.mul_le_mul_right (e.2 + e.1 * y) v1
      omega
    · exact ⟨p, hp, by omega⟩
  obtain ⟨u, hu, q2⟩ := key
  obtain ⟨w, hw', w1, w2⟩ := fgc_s hg ta (r := r) hk he hu
  have g1 : e.1 ≤ w.1 := Nat.le_trans (Nat.le_max_left _ _) w1
  have g2 : u.1 * e.1 ≤ w.1 := Nat.le_trans (Nat.le_max_right _ _) w1
  have m1 := Nat.mul_le_mul_right y g1
  have m2 := Nat.mul_le_mul_right y g2
  rw [Nat.mul_add, ← Nat.mul_assoc] at q2
  have q3 := hn.2.2.1 (nz t0 n1 s2 h ω A)
  exact ⟨w, hw', by omega, by omega, by omega, by omega⟩
theorem AH_w (ht0 : t0 ≤ x0) (hn : NC t0 n1 s2 h) (hm : ∀ y y', y ≤ y' → h y ≤ h y') (T : TBs N t0 fn s2 hv r0 r1 r2 r3 x0 n1 h P Q F G X) (hgr : fgc F W hv = true) (hy : x0 ≤ y) {g yg m0 : Nat} (g38 : g ≤ 38) (hyg : ∀ r, r ≤ g → ∀ e ∈ frg W r, e.2 + e.1 * y ≤ yg) (hA : ∀ (A : Ty) (ω : List Nat), ok ω.length A = true → tch A + 2 ≤ m0 → (∀ j, j < ω.length → vw ω j ≤ yg) → (∀ ρ, ρ ≠ [] → vz t0 n1 s2 h E A ρ ω ≤ E ρ) ∧ nz t0 n1 s2 h ω A ≤ Z (tch A + 2)) : ∀ (f : Nat) (t : Ty) (π : Stk) (ω : List Nat) (Γ : List Ty) (sc : List Nat) (r : Nat) (e : Nat × Nat), TWf f Γ.length sc t → ω.length = Γ.length → e ∈ frg W r → 1 ≤ e.1 → (∀ j, j < ω.length → vw ω j ≤ e.2 + e.1 * y) → zm π ≤ e.2 + e.1 * y → (hasq f t = true → r + gqk f t ≤ g) → mch t ≤ m0 → AQh t0 n1 s2 h E Z f t π ω
  | 0, _, _, _, _, _, _, _, w, _, _, _, _, _, _, _ => w.elim
  | f + 1, t, π, ω, Γ, sc, r, e, w, hl, heW, e1, hw, hzm, hg, hmm => by
    obtain ⟨w0, w5, w6, w7, w8, w9, w10, w11, w12⟩ := w
    have em := mch_is w0.2.1
    have ih := fun u π' ω' Γ' sc' r' e' => AH_w ht0 hn hm T hgr hy g38 hyg hA f u π' ω' Γ' sc' r' e'
    have kd : ∀ D sc (u : Ty), TWf f D sc u → 5 ≤ nKd u ∧ nKd u ≤ 12 := by
      intro D sc u wu
      cases f with
      | zero => exact wu.elim
      | succ f => exact wu.1.1
    have mpos : ∀ D sc (u : Ty), TWf f D sc u → 1 ≤ mch u := by
      intro D sc u wu
      cases f with
      | zero => exact wu.elim
      | succ f => exact mch_pos wu
    unfold hasq gqk at hg
    have text : ∀ A, ok Γ.length A = true → tch A + 2 ≤ m0 → r ≤ g → (∀ ρ, ρ ≠ [] → vz t0 n1 s2 h E A ρ ω ≤ E ρ) ∧ nz t0 n1 s2 h ω A ≤ Z (tch A + 2) := fun A oA ht hr => hA A ω (by rw [hl]; exact oA) ht (fun j hj => Nat.le_trans (hw j hj) (hyg r hr e heW))
    refine ⟨fun c6 => ?_, fun c7 => ?_, fun c8 => ?_, fun c9 => ?_, fun c10 gg hg' hb => ?_, fun c12 => ?_⟩
    · obtain ⟨-, x1, x2, x3⟩ := w6 c6
      rw [if_neg (by omega), if_pos (Or.inl c6)] at em
      rw [if_neg (by omega), if_pos c6, if_neg (by omega), if_pos c6] at hg
      refine ⟨fun e' => ?_, fun ρ e' => ?_⟩
      · exact ih _ _ _ _ _ r e x3 hl heW e1 hw (Nat.zero_le _) hg (by omega)
      · subst e'
        exact ih _ _ _ _ _ r e x3 hl heW e1 hw hzm hg (by omega)
    · rw [if_neg (by omega), if_neg (by omega), if_pos c7, if_neg (by omega), if_neg (by omega), if_pos c7] at hg
      have x1 : TWf f Γ.length sc (nX t) := by
        rcases c7 with c | c
        · exact (w7 (Or.inl c)).1
        · exact (w11 c).2
      have em2 : mch (nX t) ≤ mch t := by
        rcases c7 with c | c
        · rw [if_neg (by rw [c]; decide), if_neg (by rw [c]; decide), if_neg (by rw [c]; decide), if_neg (by rw [c]; decide)] at em
          omega
        · rw [if_neg (by rw [c]; decide), if_neg (by rw [c]; decide), if_neg (by rw [c]; decide), if_neg (by rw [c]; decide)] at em
          omega
      exact ih _ _ _ _ _ r e x1 hl heW e1 hw hzm hg (by omega)
    · obtain ⟨x1, x2, x3⟩ := w8 c8
      rw [if_neg (by omega), if_pos (Or.inr c8)] at em
      rw [if_neg (by omega), if_neg (by omega), if_neg (by omega), if_pos (Or.inl c8), if_neg (by omega), if_neg (by omega), if_neg (by omega), if_pos c8] at hg
      have g1 := hg rfl
      have tx := text (nX t) x1 (by have := mpos _ _ _ x3; omega) (by omega)
      have go : ∀ v ρ, zm ρ ≤ e.2 + e.1 * y → (hasq f (nY t) = true → ∀ w : Nat × Nat, h (nz t0 n1 s2 h ω (nX t)) ≤ w.2 + w.1 * y → e.2 + e.1 * y ≤ w.2 + w.1 * y → v ≤ w.2 + w.1 * y) → AQh t0 n1 s2 h E Z f (nY t) ρ (v :: ω) := by
        intro v ρ hzr hvv
        by_cases c : hasq f (nY t) = true
        · rw [if_pos c] at g1
          obtain ⟨w, hw', w1, w2, w3, w4⟩ := gr_step hn T hgr hy heW e1 (A := nX t) (ω := ω) (by rw [hl]; exact x1) hw (by omega)
          exact ih (nY t) ρ _ (nX t :: Γ) sc (r + tch (nX t) + 4) w x3 (by rw [List.length_cons, List.length_cons, hl]) hw' w1 (fun j hj => by
            rw [vw_cons]
            by_cases e' : j = ω.length
            · rw [if_pos e']; exact hvv c w w3 w2
            · rw [if_neg e']
              have := hw j (by rw [List.length_cons] at hj; omega)
              omega) (by omega) (fun _ => by omega) (by omega)
        · exact AH_triv f (nY t) ρ _ (kd _ _ _ x3) _ _ x3 (by simpa using c)
      refine ⟨tx.1, fun e' => go _ _ (Nat.zero_le _) (fun _ w a1 _ => a1), fun z ρ e' => ?_⟩
      subst e'
      have z1 : z ≤ e.2 + e.1 * y := Nat.le_trans (Nat.le_max_left z (zm ρ)) hzm
      exact go _ _ (Nat.le_trans (Nat.le_max_right z (zm ρ)) hzm) (fun _ w a1 a2 => Nat.max_le.mpr ⟨by omega, a1⟩)
    · obtain ⟨x1, x2, x3⟩ := w9 c9
      rw [if_neg (by omega), if_neg (by omega), if_pos c9] at em
      rw [if_neg (by omega), if_neg (by omega), if_neg (by omega), if_pos (Or.inr c9), if_neg (by omega), if_neg (by omega), if_neg (by omega), if_neg (by omega), if_pos c9] at hg
      have g1 := hg rfl
      have tx := text (nY t) x2 (by have := mpos _ _ _ x1; omega) (by omega)
      refine ⟨tx, ?_⟩
      by_cases c : hasq f (nX t) = true
      · rw [if_pos c] at g1
        by_cases eq : tch (nY t) = 1
        · rw [if_pos eq] at g1
          have u : nz t0 n1 s2 h ω (nY t) ≤ e.2 + e.1 * y := by
            have yy : y ≤ e.2 + e.1 * y := by
              have := Nat.mul_le_mul_right y e1
              omega
            rcases ok_cases x2 with e0 | ⟨j, hj, e0⟩ | ⟨a, b, e0, ha, hb⟩ | ⟨a, b, e0, ha, hb⟩ | ⟨c', u', v', w', hc, e0, h0, h1, h2⟩
            · rw [e0, nz_top]; omega
            · rw [e0, nz_var]; exact hw j (by rw [hl]; exact hj)
            · rw [e0, tch_fun] at eq; omega
            · rw [e0, tch_all] at eq; omega
            · rw [e0, tch_rec] at eq
              have key : ∀ m, m < 8 → 2 ≤ rch m := by decide
              have := key c' hc
              omega
          exact ih _ _ _ _ _ r e x1 hl heW e1 hw (Nat.max_le.mpr ⟨u, hzm⟩) (fun _ => by omega) (by omega)
        · rw [if_neg eq] at g1
          obtain ⟨w, hw', w1, w2, w3, w4⟩ := gr_step hn T hgr hy heW e1 (A := nY t) (ω := ω) (by rw [hl]; exact x2) hw (by omega)
          exact ih _ _ _ _ _ (r + tch (nY t) + 4) w x1 hl hw' w1 (fun j hj => Nat.le_trans (hw j hj) w2) (Nat.max_le.mpr ⟨w4, by omega⟩) (fun _ => by omega) (by omega)
      · exact AH_triv f (nX t) _ _ (kd _ _ _ x1) _ _ x1 (by simpa using c)
    · obtain ⟨m8, x1⟩ := w10 c10
      rw [if_neg (by omega), if_neg (by omega), if_neg (by omega), if_pos c10] at em
      rw [if_neg (by omega), if_neg (by omega), if_neg (by omega), if_neg (by omega), if_pos c10, if_neg (by omega), if_neg (by omega), if_neg (by omega), if_neg (by omega), if_neg (by omega), if_pos c10] at hg
      have sub : mch (nP t gg) ≤ mch t ∧ (hasq f (nP t gg) = true → r + gqk f (nP t gg) ≤ g) := by
        have s0 := Nat.le_max_left (gqk f (nX t)) (max (gqk f (nY t)) (gqk f (nZ t)))
        have s1 := Nat.le_max_right (gqk f (nX t)) (max (gqk f (nY t)) (gqk f (nZ t)))
        have s2' := Nat.le_max_left (gqk f (nY t)) (gqk f (nZ t))
        have s3 := Nat.le_max_right (gqk f (nY t)) (gqk f (nZ t))
        rcases (show gg = 0 ∨ gg = 1 ∨ gg = 2 by omega) with rfl | rfl | rfl
        · refine ⟨by show mch (nX t) ≤ _; omega, fun c => ?_⟩
          have c : hasq f (nX t) = true := c
          have := hg (by rw [c]; rfl)
          show r + gqk f (nX t) ≤ g
          omega
        · refine ⟨by show mch (nY t) ≤ _; omega, fun c => ?_⟩
          have c : hasq f (nY t) = true := c
          have := hg (by rw [c]; simp)
          show r + gqk f (nY t) ≤ g
          omega
        · refine ⟨by show mch (nZ t) ≤ _; omega, fun c => ?_⟩
          have c : hasq f (nZ t) = true := c
          have := hg (by rw [c]; simp)
          show r + gqk f (nZ t) ≤ g
          omega
      refine ⟨fun e' => ?_, fun ρ e' => ?_⟩
      · exact ih _ _ _ _ _ r e (x1 gg hg' hb) hl heW e1 hw (Nat.zero_le _) sub.2 (by omega)
      · subst e'
        exact ih _ _ _ _ _ r e (x1 gg hg' hb) hl heW e1 hw hzm sub.2 (by omega)
    · obtain ⟨x1, x2⟩ := w7 (Or.inr c12)
      rw [if_neg (by omega), if_neg (by omega), if_neg (by omega), if_neg (by omega)] at em
      rw [if_neg (by omega), if_neg (by omega), if_neg (by omega), if_neg (by omega), if_neg (by omega), if_neg (by omega), if_neg (by omega), if_neg (by omega), if_neg (by omega), if_neg (by omega), if_neg (by omega)] at hg
      have s0 := Nat.le_max_left (gqk f (nX t)) (gqk f (nY t))
      have s1 := Nat.le_max_right (gqk f (nX t)) (gqk f (nY t))
      refine ⟨ih _ _ _ _ _ r e x1 hl heW e1 hw hzm (fun c => ?_) (by omega), ih _ _ _ _ _ r e x2 hl heW e1 hw hzm (fun c => ?_) (by omega)⟩
      · have := hg (by rw [c]; rfl)
        omega
      · have := hg (by rw [c]; simp)
        omega
end PmWn
