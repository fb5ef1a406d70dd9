/-! WHAT IS ASKED ON THE WAY, AND ARGUMENTS BY CHARACTERS, heads counted exactly. -/
section PmS5
variable {N t0 fn s2 hv r0 r1 r2 r3 x0 : Nat} {n1 h : Nat → Nat} {E : Stk → Nat} {P Q : List (List Nat)} {F G : FrT} {X : List Nat} {Z : Nat → Nat} {hb : Nat} {B C : Ty} {Γ0 : List Ty}
theorem GH_nat (hn : NC t0 n1 s2 h) (hm : ∀ y y', y ≤ y' → h y ≤ h y') : ∀ (f : Nat) (t : Ty) (π : Stk) (ω : List Nat) (Γ : List Ty) (Δ : List (Nat × Ty × Nat)), TWf f Γ.length (Δ.map (fun a => a.1)) t → TE Γ Δ → COk f t π.length → AQh t0 n1 s2 h E Z f t π ω → CV t0 n1 s2 h ω Γ → GOk t0 n1 s2 h E f t π ω Γ Δ
  | 0, _, _, _, _, _, w, _, _, _, _ => w.elim
  | f + 1, t, π, ω, Γ, Δ, w, he, co, aq, hv => by
    obtain ⟨w0, w5, w6, w7, w8, w9, w10, w11, w12⟩ := w
    obtain ⟨o6, o7, o10, o12⟩ := co
    obtain ⟨a6, a7, a8, a9, a10, a12⟩ := aq
    have ih := fun t' π' ω' Γ' Δ' => GH_nat hn hm f t' π' ω' Γ' Δ'
    have hl := hv.len
    refine ⟨fun c6 => ?_, fun c7 => ?_, fun c8 => ?_, fun c9 => ?_, fun c10 g hg hb => ?_, fun c12 => ?_⟩
    · obtain ⟨-, x1, x2, x3⟩ := w6 c6
      refine ⟨fun e => ?_, fun ρ e => ?_⟩
      · subst e
        exact ih _ _ _ _ _ x3 (he.lam x1 x2) (o6 (Or.inl c6)) ((a6 c6).1 rfl) hv
      · subst e
        exact ih _ _ _ _ _ x3 (he.lam x1 x2) (by simpa using o6 (Or.inl c6)) ((a6 c6).2 ρ rfl) hv
    · have x1 : TWf f Γ.length (Δ.map (fun a => a.1)) (nX t) := by
        rcases c7 with c | c
        · exact (w7 (Or.inl c)).1
        · exact (w11 c).2
      exact ih _ _ _ _ _ x1 he (o7 (by omega)) (a7 c7) hv
    · obtain ⟨x1, x2, x3⟩ := w8 c8
      obtain ⟨k1, k2, k3⟩ := a8 c8
      refine ⟨k1, fun e => ?_, fun z ρ e => ?_⟩
      · subst e
        exact ih (nY t) [] _ (nX t :: Γ) Δ x3 (he.all x1 x2) (o6 (Or.inr c8)) (k2 rfl) (hv.ext hn he.1 x1)
      · subst e
        exact ih (nY t) ρ _ (nX t :: Γ) Δ x3 (he.all x1 x2) (by simpa using o6 (Or.inr c8)) (k3 z ρ rfl) (hv.extz hn he.1 x1 z)
    · obtain ⟨x1, x2, x3⟩ := w9 c9
      obtain ⟨k1, k2⟩ := a9 c9
      exact ⟨k1.1, ih _ _ _ _ _ x1 he (o7 (by omega)) k2 hv⟩
    · obtain ⟨m8, x1⟩ := w10 c10
      refine ⟨fun e => ?_, fun ρ e => ?_⟩
      · subst e
        exact ih _ _ _ _ _ (x1 g hg hb) he (o10 c10 g hg hb) ((a10 c10 g hg hb).1 rfl) hv
      · subst e
        exact ih _ _ _ _ _ (x1 g hg hb) he (by simpa using o10 c10 g hg hb) ((a10 c10 g hg hb).2 ρ rfl) hv
    · obtain ⟨x1, x2⟩ := w7 (Or.inr c12)
      obtain ⟨k0, k1, k2⟩ := o12 c12
      have e : π = [] := List.eq_nil_of_length_eq_zero k0
      subst e
      refine ⟨ih _ _ _ _ _ x1 he k1 (a12 c12).1 hv, ih _ _ _ _ _ x2 he k2 (a12 c12).2 hv, fun S T R hS hT e => ?_⟩
      obtain ⟨s1, s2'⟩ := tyF_ok f _ Γ Δ S x1 he hS
      obtain ⟨t1, t2⟩ := tyF_ok f _ Γ Δ T x2 he hT
      have oR := (cmu_ok (⟨⟨he.1, s1, t1⟩, he.2.1, s2', t2⟩) e).1
      rw [vz_no oR, vz_no s1, vz_no t1]
      exact cmu_nz hn hv ⟨he.1, s1, t1⟩ e
theorem AH_triv : ∀ (f : Nat) (t : Ty) (π : Stk) (ω : List Nat), 5 ≤ nKd t ∧ nKd t ≤ 12 → (∀ D sc, TWf f D sc t → hasq f t = false → AQh t0 n1 s2 h E Z f t π ω)
  | 0, _, _, _, _, _, _, _, _ => trivial
  | f + 1, t, π, ω, kk, D, sc, w, e => by
    obtain ⟨w0, w5, w6, w7, w8, w9, w10, w11, w12⟩ := w
    have kd : ∀ D sc (u : Ty), TWf f D sc u → 5 ≤ nKd u ∧ nKd u ≤ 12 := by
      intro D sc u wu
      cases f with
      | zero => exact wu.elim
      | succ f => exact wu.1.1
    have ih := fun u π' ω' D sc (wu : TWf f D sc u) => AH_triv f u π' ω' (kd D sc u wu) D sc wu
    unfold hasq at e
    refine ⟨fun c6 => ?_, fun c7 => ?_, fun c8 => ?_, fun c9 => ?_, fun c10 g hg hb => ?_, fun c12 => ?_⟩
    · obtain ⟨-, x1, x2, x3⟩ := w6 c6
      rw [if_neg (by omega), if_pos c6] at e
      exact ⟨fun _ => ih _ _ _ _ _ x3 e, fun ρ _ => ih _ _ _ _ _ x3 e⟩
    · rw [if_neg (by omega), if_neg (by omega), if_pos c7] at e
      have x1 : TWf f D sc (nX t) := by
        rcases c7 with c | c
        · exact (w7 (Or.inl c)).1
        · exact (w11 c).2
      exact ih _ _ _ _ _ x1 e
    · rw [if_neg (by omega), if_neg (by omega), if_neg (by omega), if_pos (Or.inl c8)] at e
      cases e
    · rw [if_neg (by omega), if_neg (by omega), if_neg (by omega), if_pos (Or.inr c9)] at e
      cases e
    · obtain ⟨m8, x1⟩ := w10 c10
      rw [if_neg (by omega), if_neg (by omega), if_neg (by omega), if_neg (by omega), if_pos c10, Bool.or_eq_false_iff, Bool.or_eq_false_iff] at e
      have eg : hasq f (nP t g) = false := by
        rcases (show g = 0 ∨ g = 1 ∨ g = 2 by omega) with rfl | rfl | rfl
        · exact e.1
        · exact e.2.1
        · exact e.2.2
      exact ⟨fun _ => ih _ _ _ _ _ (x1 g hg hb) eg, fun ρ _ => ih _ _ _ _ _ (x1 g hg hb) eg⟩
    · obtain ⟨x1, x2⟩ := w7 (Or.inr c12)
      rw [if_neg (by omega), if_neg (by omega), if_neg (by omega), if_neg (by omega), if_neg (by omega), Bool.or_eq_false_iff] at e
      exact ⟨ih _ _ _ _ _ x1 e.1, ih _ _ _ _ _ x2 e.2⟩
theorem AH_of (hm : ∀ y y', y ≤ y' → h y ≤ h y') (T : TBs N t0 fn s2 hv r0 r1 r2 r3 x0 n1 h P Q F G X) {L m0 : Nat} (hL : L ≤ 56) (hm0 : m0 ≤ 56) (hA : ∀ (A : Ty) (ω : List Nat), ok ω.length A = true → tch A + 2 ≤ m0 → (∀ j, j < ω.length → vw ω j ≤ X.getD L 0) → (∀ ρ, ρ ≠ [] → vz t0 n1 s2 h E A ρ ω ≤ E ρ) ∧ nz t0 n1 s2 h ω A ≤ Z (tch A + 2)) : ∀ (f : Nat) (t : Ty) (π : Stk) (ω : List Nat) (Γ : List Ty) (sc : List Nat) (cv : Nat), TWf f Γ.length sc t → ω.length = Γ.length → (∀ j, j < ω.length → vw ω j ≤ X.getD cv 0) → zm π ≤ X.getD cv 0 → (hasq f t = true → cv + gqk f t ≤ L) → mch t ≤ m0 → AQh t0 n1 s2 h E Z f t π ω
  | 0, _, _, _, _, _, _, w, _, _, _, _, _ => w.elim
  | f + 1, t, π, ω, Γ, sc, cv, w, hl, hw, hzm, hg, hmm => by
    obtain ⟨w0, w5, w6, w7, w8, w9, w10, w11, w12⟩ := w
    have em := mch_is w0.2.1
    have hz0 : 0 ≤ X.getD cv 0 := Nat.zero_le _
    have ih := fun u π' ω' Γ' sc' cv' => AH_of hm T hL hm0 hA f u π' ω' Γ' sc' cv'
    have kd : ∀ D sc (u : Ty), TWf f D sc u → 5 ≤ nKd u ∧ nKd u ≤ 12 := by
      intro D sc u wu
      cases f with
      | zero => exact wu.elim
      | succ f => exact wu.1.1
    have mpos : ∀ D sc (u : Ty), TWf f D sc u → 1 ≤ mch u := by
      intro D sc u wu
      cases f with
      | zero => exact wu.elim
      | succ f => exact mch_pos wu
    unfold hasq gqk at hg
    have text : ∀ A, ok Γ.length A = true → tch A + 2 ≤ m0 → cv ≤ L → (∀ ρ, ρ ≠ [] → vz t0 n1 s2 h E A ρ ω ≤ E ρ) ∧ nz t0 n1 s2 h ω A ≤ Z (tch A + 2) := by
      intro A oA ht hcv
      have q2 := fxc_le T.2.1 (c := cv) (d := L) hcv hL
      exact hA A ω (by rw [hl]; exact oA) ht (fun j hj => Nat.le_trans (hw j hj) q2)
    refine ⟨fun c6 => ?_, fun c7 => ?_, fun c8 => ?_, fun c9 => ?_, fun c10 g hg' hb => ?_, fun c12 => ?_⟩
    · obtain ⟨-, x1, x2, x3⟩ := w6 c6
      rw [if_neg (by omega), if_pos (Or.inl c6)] at em
      rw [if_neg (by omega), if_pos c6, if_neg (by omega), if_pos c6] at hg
      refine ⟨fun e => ?_, fun ρ e => ?_⟩
      · exact ih _ _ _ _ _ cv x3 hl hw (Nat.zero_le _) hg (by omega)
      · subst e
        exact ih _ _ _ _ _ cv x3 hl hw hzm hg (by omega)
    · rw [if_neg (by omega), if_neg (by omega), if_pos c7, if_neg (by omega), if_neg (by omega), if_pos c7] at hg
      have x1 : TWf f Γ.length sc (nX t) := by
        rcases c7 with c | c
        · exact (w7 (Or.inl c)).1
        · exact (w11 c).2
      have em2 : mch (nX t) ≤ mch t := by
        rcases c7 with c | c
        · rw [if_neg (by rw [c]; decide), if_neg (by rw [c]; decide), if_neg (by rw [c]; decide), if_neg (by rw [c]; decide)] at em
          omega
        · rw [if_neg (by rw [c]; decide), if_neg (by rw [c]; decide), if_neg (by rw [c]; decide), if_neg (by rw [c]; decide)] at em
          omega
      exact ih _ _ _ _ _ cv x1 hl hw hzm hg (by omega)
    · obtain ⟨x1, x2, x3⟩ := w8 c8
      rw [if_neg (by omega), if_pos (Or.inr c8)] at em
      rw [if_neg (by omega), if_neg (by omega), if_neg (by omega), if_pos (Or.inl c8), if_neg (by omega), if_neg (by omega), if_neg (by omega), if_pos c8] at hg
      have g1 := hg rfl
      have tx := text (nX t) x1 (by have := mpos _ _ _ x3; omega) (by omega)
      have go : ∀ z ρ, z ≤ X.getD cv 0 → zm ρ ≤ X.getD cv 0 → AQh t0 n1 s2 h E Z f (nY t) ρ (hzx h z (nz t0 n1 s2 h ω (nX t)) :: ω) := by
        intro z ρ zz zr
        by_cases c : hasq f (nY t) = true
        · rw [if_pos c] at g1
          have u0 := (val_up (z := z) (cv := cv) (c := cv + tch (nX t) + 4) T (A := nX t) (by rw [hl]; exact x1) (Nat.le_refl _) (by omega) hw zz).2
          have u1 := nz_mono (t0 := t0) (n1 := n1) (s2 := s2) (h_hzx hm z) _ (nX t) ω ω (Nat.le_refl _) rfl (by rw [hl]; exact x1) (fun j _ => Nat.le_refl _)
          have u := Nat.le_trans (hzx_le hm (Nat.le_refl z) _ _ u1) u0
          have q3 := fxc_le T.2.1 (c := cv) (d := cv + tch (nX t) + 4) (by omega) (by omega)
          exact ih (nY t) ρ _ (nX t :: Γ) sc (cv + tch (nX t) + 4) x3 (by rw [List.length_cons, List.length_cons, hl]) (fun j hj => by
            rw [vw_cons]
            by_cases e : j = ω.length
            · rw [if_pos e]; exact u
            · rw [if_neg e]
              have := hw j (by rw [List.length_cons] at hj; omega)
              omega) (by omega) (fun _ => by omega) (by omega)
        · exact AH_triv f (nY t) ρ _ (kd _ _ _ x3) _ _ x3 (by simpa using c)
      refine ⟨tx.1, fun e => ?_, fun z ρ e => ?_⟩
      · have := go 0 [] (Nat.zero_le _) (Nat.zero_le _)
        rw [show hzx h 0 = h from hzx_0] at this
        exact this
      · subst e
        exact go z ρ (Nat.le_trans (Nat.le_max_left z (zm ρ)) hzm) (Nat.le_trans (Nat.le_max_right z (zm ρ)) hzm)
    · obtain ⟨x1, x2, x3⟩ := w9 c9
      rw [if_neg (by omega), if_neg (by omega), if_pos c9] at em
      rw [if_neg (by omega), if_neg (by omega), if_neg (by omega), if_pos (Or.inr c9), if_neg (by omega), if_neg (by omega), if_neg (by omega), if_neg (by omega), if_pos c9] at hg
      have g1 := hg rfl
      have tx := text (nY t) x2 (by have := mpos _ _ _ x1; omega) (by omega)
      refine ⟨tx, ?_⟩
      by_cases c : hasq f (nX t) = true
      · rw [if_pos c] at g1
        have u1 := nz_mono (t0 := t0) (n1 := n1) (s2 := s2) (h_hzx hm (zm π)) _ (nY t) ω ω (Nat.le_refl _) rfl (by rw [hl]; exact x2) (fun j _ => Nat.le_refl _)
        by_cases eq : tch (nY t) = 1
        · rw [if_pos eq] at g1
          have u := val_arg (z := zm π) (cv := cv) (c := cv) T (A := nY t) (by rw [hl]; exact x2) hw hzm (Nat.le_refl _) (Or.inl eq) (by omega)
          exact ih _ _ _ _ _ cv x1 hl hw (by show max _ (zm π) ≤ _; omega) (fun _ => by omega) (by omega)
        · rw [if_neg eq] at g1
          have u := val_arg (z := zm π) (cv := cv) (c := cv + tch (nY t) + 4) T (A := nY t) (by rw [hl]; exact x2) hw hzm (by omega) (Or.inr (Nat.le_refl _)) (by omega)
          have q3 := fxc_le T.2.1 (c := cv) (d := cv + tch (nY t) + 4) (by omega) (by omega)
          exact ih _ _ _ _ _ (cv + tch (nY t) + 4) x1 hl (fun j hj => Nat.le_trans (hw j hj) q3) (by show max _ (zm π) ≤ _; omega) (fun _ => by omega) (by omega)
      · exact AH_triv f (nX t) _ _ (kd _ _ _ x1) _ _ x1 (by simpa using c)
    · obtain ⟨m8, x1⟩ := w10 c10
      rw [if_neg (by omega), if_neg (by omega), if_neg (by omega), if_pos c10] at em
      rw [if_neg (by omega), if_neg (by omega), if_neg (by omega), if_neg (by omega), if_pos c10, if_neg (by omega), if_neg (by omega), if_neg (by omega), if_neg (by omega), if_neg (by omega), if_pos c10] at hg
      have sub : mch (nP t g) ≤ mch t ∧ (hasq f (nP t g) = true → cv + gqk f (nP t g) ≤ L) := by
        have s0 := Nat.le_max_left (gqk f (nX t)) (max (gqk f (nY t)) (gqk f (nZ t)))
        have s1 := Nat.le_max_right (gqk f (nX t)) (max (gqk f (nY t)) (gqk f (nZ t)))
        have s2' := Nat.le_max_left (gqk f (nY t)) (gqk f (nZ t))
        have s3 := Nat.le_max_right (gqk f (nY t)) (gqk f (nZ t))
        rcases (show g = 0 ∨ g = 1 ∨ g = 2 by omega) with rfl | rfl | rfl
        · refine ⟨by show mch (nX t) ≤ _; omega, fun c => ?_⟩
          have c : hasq f (nX t) = true := c
          have := hg (by rw [c]; rfl)
          show cv + gqk f (nX t) ≤ L
          omega
        · refine ⟨by show mch (nY t) ≤ _; omega, fun c => ?_⟩
          have c : hasq f (nY t) = true := c
          have := hg (by rw [c]; simp)
          show cv + gqk f (nY t) ≤ L
          omega
        · refine ⟨by show mch (nZ t) ≤ _; omega, fun c => ?_⟩
          have c : hasq f (nZ t) = true := c
          have := hg (by rw [c]; simp)
          show cv + gqk f (nZ t) ≤ L
          omega
      refine ⟨fun e => ?_, fun ρ e => ?_⟩
      · exact ih _ _ _ _ _ cv (x1 g hg' hb) hl hw (Nat.zero_le _) sub.2 (by omega)
      · subst e
        exact ih _ _ _ _ _ cv (x1 g hg' hb) hl hw hzm sub.2 (by omega)
    · obtain ⟨x1, x2⟩ := w7 (Or.inr c12)
      rw [if_neg (by omega), if_neg (by omega), if_neg (by omega), if_neg (by omega)] at em
      rw [if_neg (by omega), if_neg (by omega), if_neg (by omega), if_neg (by omega), if_neg (by omega), if_neg (by omega), if_neg (by omega), if_neg (by omega), if_neg (by omega), if_neg (by omega), if_neg (by omega)] at hg
      have s0 := Nat.le_max_left (gqk f (nX t)) (gqk f (nY t))
      have s1 := Nat.le_max_right (gqk f (nX t)) (gqk f (nY t))
      refine ⟨ih _ _ _ _ _ cv x1 hl hw hzm (fun c => ?_) (by omega), ih _ _ _ _ _ cv x2 hl hw hzm (fun c => ?_) (by omega)⟩
      · have := hg (by rw [c]; rfl)
        omega
      · have := hg (by rw [c]; simp)
        omega
end PmS5
