/-! TERMS, THEIR HEADS COUNTED EXACTLY: the other cases. -/
section PmS4
variable {N t0 fn s2 hv r0 r1 r2 r3 x0 X7 : Nat} {n1 h : Nat → Nat} {E : Stk → Nat} {P Q : List (List Nat)} {F G : FrT} {X : List Nat} {Z hd : Nat → Nat}
theorem hs_cn : ∀ ρ : Stk, cnS ρ = 0 → hs ρ = false
  | [], _ => rfl
  | none :: ρ, e => hs_cn ρ e
  | some z :: ρ, e => by
    have e : cnS ρ + 1 = 0 := e
    omega
theorem bqk_5 : ∀ (f : Nat) (t : Ty) (n : Nat), nKd t = 5 → bqk f t n = 0
  | 0, _, _, _ => rfl
  | f + 1, t, n, c => by unfold bqk; rw [if_pos c]
section
variable {t : Ty} {π : Stk} {ω : List Nat} {Γ : List Ty} {Δ : List (Nat × Ty × Nat)} {cv cd s0 f : Nat}
theorem SH_7 (hEm : ∀ q ρ, E ρ ≤ E (q :: ρ)) (hE0 : ∀ ρ, hs ρ = false → E ρ ≤ X7) (hE1 : ∀ ρ s, cnS ρ ≤ 1 → hs ρ = true → zm ρ ≤ Z s → E ρ ≤ hd s) (hm : ∀ y y', y ≤ y' → h y ≤ h y') (T : TBs N t0 fn s2 hv r0 r1 r2 r3 x0 n1 h P Q F G X) (hx : PXk N P F X fn s2 r1 = true) (h21 : r2 ≤ r1) (h32 : r3 ≤ r2) (ih : SGh N t0 n1 s2 h E P X X7 Z hd f) (w : TWf (f + 1) Γ.length (Δ.map (fun a => a.1)) t) (he : TE Γ Δ) (co : COk (f + 1) t π.length) (nq : NQk (f + 1) t (cnS π)) (hc1 : cnS π ≤ 1) (aq : AQh t0 n1 s2 h E Z (f + 1) t π ω) (hl : ω.length = Γ.length) (hw : ∀ j, j < ω.length → vw ω j ≤ X.getD cv 0) (hzm : zm π ≤ X.getD cv 0) (hzs : hs π = true → zm π ≤ Z (s0 + 1) ∧ 2 ≤ s0) (hz0 : hs π = false → s0 = 0) (hX : ∀ s, X7 ≤ hd s) (hdc : dch Δ ≤ cd) (hcd : 2 ≤ cd) (hb : cv + cd + 2 * mch t ≤ N) (c7 : nKd t = 7 ∨ nKd t = 11) : (π = [] → BGh P hd (bqk (f + 1) t 0) (cv + cd) (mch t) (GSk t0 n1 s2 h E (f + 1) t [] ω Γ Δ)) ∧ (π ≠ [] → LRh P hd X7 (bqk (f + 1) t π.length) (cv + cd) s0 (mch t) (GSk t0 n1 s2 h E (f + 1) t π ω Γ Δ)) := by
  have mp := mch_pos w
  have bl := fun n => bqk_le (f + 1) t n _ _ w
  have zz : 0 ≤ X.getD cv 0 := Nat.zero_le _
  obtain ⟨w0, w5, w6, w7, w8, w9, w10, w11, w12⟩ := w
  obtain ⟨o6, o7, o10, o12⟩ := co
  obtain ⟨u6, u7, u8, u9, u10, u12⟩ := nq
  obtain ⟨a6, a7, a8, a9, a10, a12⟩ := aq
  have em := mch_is w0.2.1
  have hN := T.2.2.2.2.2.2.1
  have hp := T.2.2.2.2.2.1
  have x1 : TWf f Γ.length (Δ.map (fun a => a.1)) (nX t) := by
    rcases c7 with c | c
    · exact (w7 (Or.inl c)).1
    · exact (w11 c).2
  have em2 : mch (nX t) + 2 ≤ mch t := by
    clear u6 u7 u8 u9 u10 u12 o6 o7 o10 o12 a6 a7 a8 a9 a10 a12 w5 w6 w7 w8 w9 w10 w11 w12 ih hb hzm hzs hw hp hN bl
    rcases c7 with c | c
    · rw [if_neg (by rw [c]; decide), if_neg (by rw [c]; decide), if_neg (by rw [c]; decide), if_neg (by rw [c]; decide)] at em
      omega
    · rw [if_neg (by rw [c]; decide), if_neg (by rw [c]; decide), if_neg (by rw [c]; decide), if_neg (by rw [c]; decide)] at em
      omega
  have hb2 : cv + cd + 2 * mch (nX t) ≤ N := Nat.le_trans (Nat.add_le_add_left (Nat.mul_le_mul_left 2 (Nat.le_trans (Nat.le_add_right _ 2) em2)) _) hb
  have o7' := o7 (c7.elim Or.inl (fun c => Or.inr (Or.inr c)))
  have a7' := a7 c7
  have u7' : NQk f (nX t) (cnS (none :: π)) := u7 c7
  clear o6 o7 o10 o12 a6 a7 a8 a9 a10 a12 u6 u7 u8 u9 u10 u12 w5 w6 w7 w8 w9 w10 w11 w12 em
  have q := (ih (nX t) (none :: π) ω Γ Δ cv cd s0 x1 he o7' u7' hc1 a7' hl hw hzm hzs hz0 hdc hcd hb2).2 (List.cons_ne_nil _ _)
  have eg : ∀ ρ, GSk t0 n1 s2 h E (f + 1) t ρ ω Γ Δ = GSk t0 n1 s2 h E f (nX t) (none :: ρ) ω Γ Δ := by
    intro ρ
    clear ih q o7' a7' u7' hw hzm hzs hb hb2
    conv => lhs; unfold GSk
    rcases c7 with c | c
    · rw [if_neg (by rw [c]; decide), if_neg (by rw [c]; decide), if_pos c]
    · rw [if_neg (by rw [c]; decide), if_neg (by rw [c]; decide), if_neg (by rw [c]; decide), if_neg (by rw [c]; decide), if_neg (by rw [c]; decide), if_neg (by rw [c]; decide), if_pos c]
  have eb : ∀ n, bqk (f + 1) t n = bqk f (nX t) (n + 1) := by
    intro n
    clear ih q o7' a7' u7' hw hzm hzs hb hb2
    conv => lhs; unfold bqk
    rcases c7 with c | c
    · rw [if_neg (by rw [c]; decide), if_neg (by rw [c]; decide), if_pos (Or.inl c)]
    · rw [if_neg (by rw [c]; decide), if_neg (by rw [c]; decide), if_pos (Or.inr c)]
  rw [eg, eg, eb, eb]
  have q2 := q.up hp (Or.inr em2) hb
  have bz := bqk_z f (nX t) (0 + 1) _ _ x1
  have by' := bqk_le f (nX t) (0 + 1) _ _ x1
  rw [List.length_cons] at q2
  refine ⟨fun e => ?_, fun _ => q2⟩
  have e0 := hz0 (by subst e; rfl)
  subst e
  rw [e0] at q2
  exact LRh.bf hX (by omega) bz q2
theorem SH_8 (hEm : ∀ q ρ, E ρ ≤ E (q :: ρ)) (hE0 : ∀ ρ, hs ρ = false → E ρ ≤ X7) (hE1 : ∀ ρ s, cnS ρ ≤ 1 → hs ρ = true → zm ρ ≤ Z s → E ρ ≤ hd s) (hm : ∀ y y', y ≤ y' → h y ≤ h y') (T : TBs N t0 fn s2 hv r0 r1 r2 r3 x0 n1 h P Q F G X) (hx : PXk N P F X fn s2 r1 = true) (h21 : r2 ≤ r1) (h32 : r3 ≤ r2) (ih : SGh N t0 n1 s2 h E P X X7 Z hd f) (w : TWf (f + 1) Γ.length (Δ.map (fun a => a.1)) t) (he : TE Γ Δ) (co : COk (f + 1) t π.length) (nq : NQk (f + 1) t (cnS π)) (hc1 : cnS π ≤ 1) (aq : AQh t0 n1 s2 h E Z (f + 1) t π ω) (hl : ω.length = Γ.length) (hw : ∀ j, j < ω.length → vw ω j ≤ X.getD cv 0) (hzm : zm π ≤ X.getD cv 0) (hzs : hs π = true → zm π ≤ Z (s0 + 1) ∧ 2 ≤ s0) (hz0 : hs π = false → s0 = 0) (hX : ∀ s, X7 ≤ hd s) (hdc : dch Δ ≤ cd) (hcd : 2 ≤ cd) (hb : cv + cd + 2 * mch t ≤ N) (c8 : nKd t = 8) : (π = [] → BGh P hd (bqk (f + 1) t 0) (cv + cd) (mch t) (GSk t0 n1 s2 h E (f + 1) t [] ω Γ Δ)) ∧ (π ≠ [] → LRh P hd X7 (bqk (f + 1) t π.length) (cv + cd) s0 (mch t) (GSk t0 n1 s2 h E (f + 1) t π ω Γ Δ)) := by
  have mp := mch_pos w
  have bl := fun n => bqk_le (f + 1) t n _ _ w
  have zz : 0 ≤ X.getD cv 0 := Nat.zero_le _
  obtain ⟨w0, w5, w6, w7, w8, w9, w10, w11, w12⟩ := w
  obtain ⟨o6, o7, o10, o12⟩ := co
  obtain ⟨u6, u7, u8, u9, u10, u12⟩ := nq
  obtain ⟨a6, a7, a8, a9, a10, a12⟩ := aq
  have em := mch_is w0.2.1
  have hN := T.2.2.2.2.2.2.1
  have hp := T.2.2.2.2.2.1
  rw [if_neg (by omega), if_pos (Or.inr c8)] at em
  obtain ⟨x1, x2, x3⟩ := w8 c8
  have tp := tch_pos x1
  have q3 := fxc_le T.2.1 (c := cv) (d := cv + tch (nX t) + 4) (by omega) (by omega)
  obtain ⟨k1, k2, k3⟩ := a8 c8
  have eb : ∀ n, bqk (f + 1) t n = bqk f (nY t) (n - 1) + (tch (nX t) + 4) := by
    intro n
    conv => lhs; unfold bqk
    rw [if_neg (by rw [c8]; decide), if_neg (by rw [c8]; decide), if_neg (by rw [c8]; decide), if_pos c8]
  have all : ∀ v b, BGh P hd b (cv + tch (nX t) + 4 + cd) (mch (nY t)) v → BGh P hd (b + (tch (nX t) + 4)) (cv + cd) (mch t) (s2 + v) := by
    intro v b q
    rw [show cv + tch (nX t) + 4 + cd = cv + cd + tch (nX t) + 4 by omega] at q
    have q2 := BGh.all hp hx tp q (by omega)
    rw [em, show 4 + (tch (nX t) + mch (nY t)) = mch (nY t) + tch (nX t) + 4 by omega]
    exact q2
  cases π with
  | nil =>
    refine ⟨fun _ => ?_, fun e => absurd rfl e⟩
    have u := (val_up (z := 0) (cv := cv) (c := cv + tch (nX t) + 4) T (A := nX t) (by rw [hl]; exact x1) (Nat.le_refl _) (by omega) hw zz).2
    rw [hzx_0] at u
    have q := (ih (nY t) [] (h (nz t0 n1 s2 h ω (nX t)) :: ω) (nX t :: Γ) Δ (cv + tch (nX t) + 4) cd s0 x3 (he.all x1 x2) (o6 (Or.inr c8)) (u8 c8) (Nat.zero_le _) (k2 rfl) (by rw [List.length_cons, List.length_cons, hl]) (fun j hj => by
      rw [vw_cons]
      by_cases e : j = ω.length
      · rw [if_pos e]; exact u
      · rw [if_neg e]
        have := hw j (by rw [List.length_cons] at hj; omega)
        omega) (by omega) hzs hz0 hdc hcd (by omega)).1 rfl
    rw [eb]
    unfold GSk
    rw [if_neg (by omega), if_neg (by omega), if_neg (by omega), if_pos c8]
    exact all _ _ q
  | cons o ρ =>
    refine ⟨fun e => (by cases e), fun _ => ?_⟩
    have blo := bl (o :: ρ).length
    cases o with
    | none =>
      unfold GSk
      rw [if_neg (by omega), if_neg (by omega), if_neg (by omega), if_pos c8]
      exact LRh.zero mp (by omega)
    | some z =>
      have zz : z ≤ X.getD cv 0 := Nat.le_trans (Nat.le_max_left z (zm ρ)) hzm
      have zr : zm ρ ≤ zm (some z :: ρ) := Nat.le_max_right _ _
      have c0 : cnS ρ = 0 := by
        have : cnS ρ + 1 ≤ 1 := hc1
        omega
      have h0 := hs_cn ρ c0
      have u0 := (val_up (z := z) (cv := cv) (c := cv + tch (nX t) + 4) T (A := nX t) (by rw [hl]; exact x1) (Nat.le_refl _) (by omega) hw zz).2
      have u1 := nz_mono (t0 := t0) (n1 := n1) (s2 := s2) (h_hzx hm z) _ (nX t) ω ω (Nat.le_refl _) rfl (by rw [hl]; exact x1) (fun j _ => Nat.le_refl _)
      have u := Nat.le_trans (hzx_le hm (Nat.le_refl z) _ _ u1) u0
      have q := ih (nY t) ρ (hzx h z (nz t0 n1 s2 h ω (nX t)) :: ω) (nX t :: Γ) Δ (cv + tch (nX t) + 4) cd 0 x3 (he.all x1 x2) (by simpa using o6 (Or.inr c8)) (by simpa [cnS] using u8 c8) (by omega) (k3 z ρ rfl) (by rw [List.length_cons, List.length_cons, hl]) (fun j hj => by
        rw [vw_cons]
        by_cases e : j = ω.length
        · rw [if_pos e]; exact u
        · rw [if_neg e]
          have := hw j (by rw [List.length_cons] at hj; omega)
          omega) (by omega) (fun e => by rw [h0] at e; cases e) (fun _ => rfl) hdc hcd (by omega)
      have e2 : (some z :: ρ : Stk).length - 1 = ρ.length := by simp
      rw [eb, e2]
      unfold GSk
      rw [if_neg (by omega), if_neg (by omega), if_neg (by omega), if_pos c8]
      show LRh P hd X7 (bqk f (nY t) ρ.length + (tch (nX t) + 4)) (cv + cd) s0 (mch t) (GSk t0 n1 s2 h E f (nY t) ρ (hzx h z (nz t0 n1 s2 h ω (nX t)) :: ω) (nX t :: Γ) Δ)
      by_cases er : ρ = []
      · subst er
        exact LRh.r ((all _ _ (q.1 rfl)).mono (by omega))
      · rcases q.2 er with q0 | ⟨s, h1, h2, h3, h4⟩ | q
        · exact Or.inl q0
        · exact LRh.l ⟨s, h1, by omega, by omega, h4⟩
        · exact LRh.r ((all _ _ q).mono (by omega))
theorem SH_9 (hEm : ∀ q ρ, E ρ ≤ E (q :: ρ)) (hE0 : ∀ ρ, hs ρ = false → E ρ ≤ X7) (hE1 : ∀ ρ s, cnS ρ ≤ 1 → hs ρ = true → zm ρ ≤ Z s → E ρ ≤ hd s) (hm : ∀ y y', y ≤ y' → h y ≤ h y') (T : TBs N t0 fn s2 hv r0 r1 r2 r3 x0 n1 h P Q F G X) (hx : PXk N P F X fn s2 r1 = true) (h21 : r2 ≤ r1) (h32 : r3 ≤ r2) (ih : SGh N t0 n1 s2 h E P X X7 Z hd f) (w : TWf (f + 1) Γ.length (Δ.map (fun a => a.1)) t) (he : TE Γ Δ) (co : COk (f + 1) t π.length) (nq : NQk (f + 1) t (cnS π)) (hc1 : cnS π ≤ 1) (aq : AQh t0 n1 s2 h E Z (f + 1) t π ω) (hl : ω.length = Γ.length) (hw : ∀ j, j < ω.length → vw ω j ≤ X.getD cv 0) (hzm : zm π ≤ X.getD cv 0) (hzs : hs π = true → zm π ≤ Z (s0 + 1) ∧ 2 ≤ s0) (hz0 : hs π = false → s0 = 0) (hX : ∀ s, X7 ≤ hd s) (hdc : dch Δ ≤ cd) (hcd : 2 ≤ cd) (hb : cv + cd + 2 * mch t ≤ N) (c9 : nKd t = 9) : (π = [] → BGh P hd (bqk (f + 1) t 0) (cv + cd) (mch t) (GSk t0 n1 s2 h E (f + 1) t [] ω Γ Δ)) ∧ (π ≠ [] → LRh P hd X7 (bqk (f + 1) t π.length) (cv + cd) s0 (mch t) (GSk t0 n1 s2 h E (f + 1) t π ω Γ Δ)) := by
  have mp := mch_pos w
  have bl := fun n => bqk_le (f + 1) t n _ _ w
  have zz : 0 ≤ X.getD cv 0 := Nat.zero_le _
  obtain ⟨w0, w5, w6, w7, w8, w9, w10, w11, w12⟩ := w
  obtain ⟨o6, o7, o10, o12⟩ := co
  obtain ⟨u6, u7, u8, u9, u10, u12⟩ := nq
  obtain ⟨a6, a7, a8, a9, a10, a12⟩ := aq
  have em := mch_is w0.2.1
  have hN := T.2.2.2.2.2.2.1
  have hp := T.2.2.2.2.2.1
  rw [if_neg (by omega), if_neg (by omega), if_pos c9] at em
  obtain ⟨x1, x2, x3⟩ := w9 c9
  have tp := tch_pos x2
  obtain ⟨⟨k1, k3⟩, k4⟩ := a9 c9
  obtain ⟨n0, n1'⟩ := u9 c9
  have u9' : NQk f (nX t) (cnS (some (nz t0 n1 s2 h ω (nY t)) :: π)) := by
    show NQk f (nX t) (cnS π + 1)
    rw [n0]; exact n1'
  have c91 : cnS (some (nz t0 n1 s2 h ω (nY t)) :: π) ≤ 1 := by
    show cnS π + 1 ≤ 1
    omega
  have e1 : 1 ≤ mch (nX t) := by
    cases f with
    | zero => exact x1.elim
    | succ f => exact mch_pos x1
  have e0 := hz0 (hs_cn π n0)
  have z0 := zm_hs π (hs_cn π n0)
  subst e0
  have eg : ∀ ρ, GSk t0 n1 s2 h E (f + 1) t ρ ω Γ Δ = GSk t0 n1 s2 h E f (nX t) (some (nz t0 n1 s2 h ω (nY t)) :: ρ) ω Γ Δ := by
    intro ρ
    conv => lhs; unfold GSk
    rw [if_neg (by omega), if_neg (by omega), if_neg (by omega), if_neg (by omega), if_pos c9]
  have eb : ∀ n, bqk (f + 1) t n = bqk f (nX t) (n + 1) := by
    intro n
    conv => lhs; unfold bqk
    rw [if_neg (by rw [c9]; decide), if_neg (by rw [c9]; decide), if_neg (by rw [c9]; decide), if_neg (by rw [c9]; decide), if_pos c9]
  rw [eg, eg, eb, eb]
  have zq : zm (some (nz t0 n1 s2 h ω (nY t)) :: π) ≤ Z (tch (nY t) + 1 + 1) ∧ 2 ≤ tch (nY t) + 1 := by
    refine ⟨?_, by omega⟩
    show max (nz t0 n1 s2 h ω (nY t)) (zm π) ≤ _
    rw [z0, Nat.max_zero]
    exact k3
  have main : LRh P hd X7 (bqk f (nX t) (π.length + 1)) (cv + cd) 0 (mch t) (GSk t0 n1 s2 h E f (nX t) (some (nz t0 n1 s2 h ω (nY t)) :: π) ω Γ Δ) := by
    have u1 := nz_mono (t0 := t0) (n1 := n1) (s2 := s2) (h_hzx hm (zm π)) _ (nY t) ω ω (Nat.le_refl _) rfl (by rw [hl]; exact x2) (fun j _ => Nat.le_refl _)
    by_cases eq : tch (nY t) = 1
    · have u := val_arg (z := zm π) (cv := cv) (c := cv) T (A := nY t) (by rw [hl]; exact x2) hw hzm (Nat.le_refl _) (Or.inl eq) (by omega)
      have q := (ih (nX t) (some (nz t0 n1 s2 h ω (nY t)) :: π) ω Γ Δ cv cd (tch (nY t) + 1) x1 he (o7 (by omega)) u9' c91 k4 hl hw (by show max _ (zm π) ≤ _; omega) (fun _ => zq) (fun e => by cases e) hdc hcd (by omega)).2 (by simp)
      rw [List.length_cons] at q
      rcases q with q0 | ⟨s, h1, h2, h3, h4⟩ | q
      · exact Or.inl q0
      · exact LRh.l ⟨s, h1, by omega, by omega, h4⟩
      · exact LRh.r (q.up hp (Or.inr (by omega)) hb)
    · have u := val_arg (z := zm π) (cv := cv) (c := cv + tch (nY t) + 4) T (A := nY t) (by rw [hl]; exact x2) hw hzm (by omega) (Or.inr (Nat.le_refl _)) (by omega)
      have q3 := fxc_le T.2.1 (c := cv) (d := cv + tch (nY t) + 4) (by omega) (by omega)
      have hw3 : ∀ j, j < ω.length → vw ω j ≤ X.getD (cv + tch (nY t) + 4) 0 := fun j hj => Nat.le_trans (hw j hj) q3
      have q := (ih (nX t) (some (nz t0 n1 s2 h ω (nY t)) :: π) ω Γ Δ (cv + tch (nY t) + 4) cd (tch (nY t) + 1) x1 he (o7 (by omega)) u9' c91 k4 hl hw3 (by show max _ (zm π) ≤ _; omega) (fun _ => zq) (fun e => by cases e) hdc hcd (by omega)).2 (by simp)
      rw [List.length_cons] at q
      rcases q with q0 | ⟨s, h1, h2, h3, h4⟩ | q
      · exact Or.inl q0
      · exact LRh.l ⟨s, h1, by omega, by omega, h4⟩
      · rw [show cv + tch (nY t) + 4 + cd = cv + cd + tch (nY t) + 4 by omega] at q
        have q2 := BGh.arg hp (by omega) q (by omega)
        rw [show mch (nX t) + tch (nY t) + 1 = mch t by omega] at q2
        exact LRh.r q2
  have by' := bqk_le f (nX t) (0 + 1) _ _ x1
  refine ⟨fun e => ?_, fun _ => main⟩
  subst e
  exact LRh.bf hX (by omega) (bqk_z f (nX t) _ _ _ x1) main
theorem SH_10 (hEm : ∀ q ρ, E ρ ≤ E (q :: ρ)) (hE0 : ∀ ρ, hs ρ = false → E ρ ≤ X7) (hE1 : ∀ ρ s, cnS ρ ≤ 1 → hs ρ = true → zm ρ ≤ Z s → E ρ ≤ hd s) (hm : ∀ y y', y ≤ y' → h y ≤ h y') (T : TBs N t0 fn s2 hv r0 r1 r2 r3 x0 n1 h P Q F G X) (hx : PXk N P F X fn s2 r1 = true) (h21 : r2 ≤ r1) (h32 : r3 ≤ r2) (ih : SGh N t0 n1 s2 h E P X X7 Z hd f) (w : TWf (f + 1) Γ.length (Δ.map (fun a => a.1)) t) (he : TE Γ Δ) (co : COk (f + 1) t π.length) (nq : NQk (f + 1) t (cnS π)) (hc1 : cnS π ≤ 1) (aq : AQh t0 n1 s2 h E Z (f + 1) t π ω) (hl : ω.length = Γ.length) (hw : ∀ j, j < ω.length → vw ω j ≤ X.getD cv 0) (hzm : zm π ≤ X.getD cv 0) (hzs : hs π = true → zm π ≤ Z (s0 + 1) ∧ 2 ≤ s0) (hz0 : hs π = false → s0 = 0) (hX : ∀ s, X7 ≤ hd s) (hdc : dch Δ ≤ cd) (hcd : 2 ≤ cd) (hb : cv + cd + 2 * mch t ≤ N) (c10 : nKd t = 10) : (π = [] → BGh P hd (bqk (f + 1) t 0) (cv + cd) (mch t) (GSk t0 n1 s2 h E (f + 1) t [] ω Γ Δ)) ∧ (π ≠ [] → LRh P hd X7 (bqk (f + 1) t π.length) (cv + cd) s0 (mch t) (GSk t0 n1 s2 h E (f + 1) t π ω Γ Δ)) := by
  have mp := mch_pos w
  have bl := fun n => bqk_le (f + 1) t n _ _ w
  have zz : 0 ≤ X.getD cv 0 := Nat.zero_le _
  obtain ⟨w0, w5, w6, w7, w8, w9, w10, w11, w12⟩ := w
  obtain ⟨o6, o7, o10, o12⟩ := co
  obtain ⟨u6, u7, u8, u9, u10, u12⟩ := nq
  obtain ⟨a6, a7, a8, a9, a10, a12⟩ := aq
  have em := mch_is w0.2.1
  have hN := T.2.2.2.2.2.2.1
  have hp := T.2.2.2.2.2.1
  rw [if_neg (by omega), if_neg (by omega), if_neg (by omega), if_pos c10] at em
  obtain ⟨m8, x1⟩ := w10 c10
  have m0 : mch (nX t) ≤ mch t ∧ mch (nY t) ≤ mch t ∧ mch (nZ t) ≤ mch t := by
    rw [em]
    exact ⟨Nat.le_trans (Nat.le_add_right _ _) (Nat.le_add_left _ _), Nat.le_trans (Nat.le_trans (Nat.le_add_right _ _) (Nat.le_add_left _ _)) (Nat.le_add_left _ _), Nat.le_trans (Nat.le_trans (Nat.le_add_left _ _) (Nat.le_add_left _ _)) (Nat.le_add_left _ _)⟩
  have ab : ∀ g, g < 3 → bit (nMk t) g = false → mch (nP t g) = 0 := by
    intro g hg hbg
    rw [w0.2.2.1 g hg (by
      rw [c10]
      show (if bit (nMk t) g = true then 1 else 0) = 0
      rw [hbg]; rfl)]
    rfl
  have eb : ∀ n, bqk (f + 1) t n = if n = 0 then (if bit (nMk t) 0 = true then bqk f (nX t) 0 else 0) + (if bit (nMk t) 1 = true then bqk f (nY t) 0 else 0) + (if bit (nMk t) 2 = true then bqk f (nZ t) 0 else 0) else 0 := by
    intro n
    conv => lhs; unfold bqk
    rw [if_neg (by rw [c10]; decide), if_neg (by rw [c10]; decide), if_neg (by rw [c10]; decide), if_neg (by rw [c10]; decide), if_neg (by rw [c10]; decide), if_pos c10]
  cases π with
  | nil =>
    refine ⟨fun _ => ?_, fun e => absurd rfl e⟩
    have k : ∀ g, g < 3 → bit (nMk t) g = true → mch (nP t g) ≤ mch t → BGh P hd (bqk f (nP t g) 0) (cv + cd) (mch (nP t g)) (GSk t0 n1 s2 h E f (nP t g) [] ω Γ Δ) := fun g hg hbg hmg => (ih (nP t g) [] ω Γ Δ cv cd s0 (x1 g hg hbg) he (o10 c10 g hg hbg) (u10 c10 g hg hbg) hc1 ((a10 c10 g hg hbg).1 rfl) hl hw hzm hzs hz0 hdc hcd (by omega)).1 rfl
    have eb0 := eb 0
    rw [if_pos rfl] at eb0
    unfold GSk
    rw [if_neg (by omega), if_neg (by omega), if_neg (by omega), if_neg (by omega), if_neg (by omega), if_pos c10]
    rw [em] at hb ⊢
    rw [eb0]
    exact BGh_rec T hx h21 h32 m8 (by omega) (fun hbg => k 0 (by decide) hbg m0.1) (fun hbg => k 1 (by decide) hbg m0.2.1) (fun hbg => k 2 (by decide) hbg m0.2.2) (ab 0 (by decide)) (ab 1 (by decide)) (ab 2 (by decide)) hb
  | cons o ρ =>
    refine ⟨fun e => (by cases e), fun _ => ?_⟩
    rw [eb, if_neg (by simp)]
    cases o with
    | some z =>
      unfold GSk
      rw [if_neg (by omega), if_neg (by omega), if_neg (by omega), if_neg (by omega), if_neg (by omega), if_pos c10]
      exact LRh.zero mp (by omega)
    | none =>
      have four : ∀ k, k < 8 → ∀ g, g < 3 → bit k g = true → 4 ≤ (if k = 0 then 2 else 1 + 3 * nlb k) := by decide
      have k : ∀ g, g < 3 → (bit (nMk t) g = true → mch (nP t g) + 4 ≤ mch t) → LRh P hd X7 0 (cv + cd) s0 (mch t) (if bit (nMk t) g = true then GSk t0 n1 s2 h E f (nP t g) ρ ω Γ Δ else 0) := by
        intro g hg hmg
        by_cases hbg : bit (nMk t) g = true
        · rw [if_pos hbg]
          have hmg := hmg hbg
          have q := ih (nP t g) ρ ω Γ Δ cv cd s0 (x1 g hg hbg) he (by simpa using o10 c10 g hg hbg) (u10 c10 g hg hbg) hc1 ((a10 c10 g hg hbg).2 ρ rfl) hl hw hzm hzs hz0 hdc hcd (by omega)
          by_cases er : ρ = []
          · subst er
            exact LRh.r (((q.1 rfl).up hp (Or.inr (by omega)) hb).less (Nat.zero_le _))
          · exact ((q.2 er).up hp (Or.inr (by omega)) hb).less (Nat.zero_le _)
        · rw [if_neg hbg]; exact LRh.zero mp (Nat.zero_le _)
      have k0 := k 0 (by decide) (fun hbg => by
        have := four _ m8 0 (by decide) hbg
        show mch (nX t) + 4 ≤ _
        omega)
      have k1 := k 1 (by decide) (fun hbg => by
        have := four _ m8 1 (by decide) hbg
        show mch (nY t) + 4 ≤ _
        omega)
      have k2 := k 2 (by decide) (fun hbg => by
        have := four _ m8 2 (by decide) hbg
        show mch (nZ t) + 4 ≤ _
        omega)
      unfold GSk
      rw [if_neg (by omega), if_neg (by omega), if_neg (by omega), if_neg (by omega), if_neg (by omega), if_pos c10]
      exact k0.mx (k1.mx k2)
theorem SH_12 (hEm : ∀ q ρ, E ρ ≤ E (q :: ρ)) (hE0 : ∀ ρ, hs ρ = false → E ρ ≤ X7) (hE1 : ∀ ρ s, cnS ρ ≤ 1 → hs ρ = true → zm ρ ≤ Z s → E ρ ≤ hd s) (hm : ∀ y y', y ≤ y' → h y ≤ h y') (T : TBs N t0 fn s2 hv r0 r1 r2 r3 x0 n1 h P Q F G X) (hx : PXk N P F X fn s2 r1 = true) (h21 : r2 ≤ r1) (h32 : r3 ≤ r2) (ih : SGh N t0 n1 s2 h E P X X7 Z hd f) (w : TWf (f + 1) Γ.length (Δ.map (fun a => a.1)) t) (he : TE Γ Δ) (co : COk (f + 1) t π.length) (nq : NQk (f + 1) t (cnS π)) (hc1 : cnS π ≤ 1) (aq : AQh t0 n1 s2 h E Z (f + 1) t π ω) (hl : ω.length = Γ.length) (hw : ∀ j, j < ω.length → vw ω j ≤ X.getD cv 0) (hzm : zm π ≤ X.getD cv 0) (hzs : hs π = true → zm π ≤ Z (s0 + 1) ∧ 2 ≤ s0) (hz0 : hs π = false → s0 = 0) (hX : ∀ s, X7 ≤ hd s) (hdc : dch Δ ≤ cd) (hcd : 2 ≤ cd) (hb : cv + cd + 2 * mch t ≤ N) (c12 : nKd t = 12) : (π = [] → BGh P hd (bqk (f + 1) t 0) (cv + cd) (mch t) (GSk t0 n1 s2 h E (f + 1) t [] ω Γ Δ)) ∧ (π ≠ [] → LRh P hd X7 (bqk (f + 1) t π.length) (cv + cd) s0 (mch t) (GSk t0 n1 s2 h E (f + 1) t π ω Γ Δ)) := by
  have mp := mch_pos w
  have bl := fun n => bqk_le (f + 1) t n _ _ w
  have zz : 0 ≤ X.getD cv 0 := Nat.zero_le _
  obtain ⟨w0, w5, w6, w7, w8, w9, w10, w11, w12⟩ := w
  obtain ⟨o6, o7, o10, o12⟩ := co
  obtain ⟨u6, u7, u8, u9, u10, u12⟩ := nq
  obtain ⟨a6, a7, a8, a9, a10, a12⟩ := aq
  have em := mch_is w0.2.1
  have hN := T.2.2.2.2.2.2.1
  have hp := T.2.2.2.2.2.1
  rw [if_neg (by omega), if_neg (by omega), if_neg (by omega), if_neg (by omega)] at em
  obtain ⟨x1, x2⟩ := w7 (Or.inr c12)
  obtain ⟨k0, k1, k2⟩ := o12 c12
  have e : π = [] := List.eq_nil_of_length_eq_zero k0
  subst e
  refine ⟨fun _ => ?_, fun e => absurd rfl e⟩
  have bl0 := bl 0
  have e1 : 1 ≤ mch (nX t) := by
    cases f with
    | zero => exact x1.elim
    | succ f => exact mch_pos x1
  have e2 : 1 ≤ mch (nY t) := by
    cases f with
    | zero => exact x2.elim
    | succ f => exact mch_pos x2
  have q1 := (ih (nX t) [] ω Γ Δ cv cd s0 x1 he k1 (u12 c12).1 hc1 (a12 c12).1 hl hw hzm hzs hz0 hdc hcd (by omega)).1 rfl
  have q2 := (ih (nY t) [] ω Γ Δ cv cd s0 x2 he k2 (u12 c12).2 hc1 (a12 c12).2 hl hw hzm hzs hz0 hdc hcd (by omega)).1 rfl
  have eb : bqk (f + 1) t 0 = bqk f (nX t) 0 + bqk f (nY t) 0 := by
    conv => lhs; unfold bqk
    rw [if_neg (by rw [c12]; decide), if_neg (by rw [c12]; decide), if_neg (by rw [c12]; decide), if_neg (by rw [c12]; decide), if_neg (by rw [c12]; decide), if_neg (by rw [c12]; decide)]
  rw [GSk.eq_2, if_neg (by omega), if_neg (by omega), if_neg (by omega), if_neg (by omega), if_neg (by omega), if_neg (by omega), if_neg (by omega)]
  by_cases cq : nKd (nX t) = 5 ∧ nKd (nY t) = 5 ∧ nMk (nX t) = nMk (nY t)
  · rw [if_pos cq, eb, bqk_5 _ _ _ cq.2.1]
    exact q1.up hp (Or.inr (by omega)) hb
  rw [if_neg cq]
  by_cases cv5 : nKd (nX t) = 5 ∧ nKd (nY t) = 5
  · cases f with
    | zero => exact x1.elim
    | succ f =>
      obtain ⟨a, ha⟩ := dlk_some (x1.2.1 cv5.1)
      obtain ⟨a', ha'⟩ := dlk_some (x2.2.1 cv5.2)
      have ne : nMk (nX t) ≠ nMk (nY t) := fun e => cq ⟨cv5.1, cv5.2, e⟩
      have d2 := dch_two ha ha' ne
      obtain ⟨g1, g2, g3⟩ := he.2.2 _ (dlk_mem ha)
      obtain ⟨g1', g2', g3'⟩ := he.2.2 _ (dlk_mem ha')
      have g1 : a.2 ≤ Γ.length := g1
      have g1' : a'.2 ≤ Γ.length := g1'
      have g2 : ok a.2 a.1 = true := g2
      have g2' : ok a'.2 a'.1 = true := g2'
      have o := ok_lft a.2 (Γ.length - a.2) a.1 0 g2
      rw [show a.2 + (Γ.length - a.2) + 0 = Γ.length by omega] at o
      have o' := ok_lft a'.2 (Γ.length - a'.2) a'.1 0 g2'
      rw [show a'.2 + (Γ.length - a'.2) + 0 = Γ.length by omega] at o'
      have et : tch (lft a.2 (Γ.length - a.2) a.1) = tch a.1 := tch_lft _ _ _ _ g2
      have et' : tch (lft a'.2 (Γ.length - a'.2) a'.1) = tch a'.1 := tch_lft _ _ _ _ g2'
      have q3 := val_two (z := 0) (cv := cv) (c := cv + cd) T (by rw [hl]; exact o) (by rw [hl]; exact o') (by rw [et, et']; omega) (by omega) hw zz
      rw [hzx_0] at q3
      have q4 := (psc_m hp (c := cv + cd) mp hb).1
      rw [GSk.eq_2, if_pos cv5.1, GSk.eq_2, if_pos cv5.2, ha, ha']
      show BGh P hd _ (cv + cd) (mch t) (vz t0 n1 s2 h E (lft a.2 (Γ.length - a.2) a.1) [] ω + vz t0 n1 s2 h E (lft a'.2 (Γ.length - a'.2) a'.1) [] ω)
      rw [vz_no o, vz_no o']
      exact BGh.base mp (by omega) (by omega)
  have three : 3 ≤ mch (nX t) + mch (nY t) := by
    cases f with
    | zero => exact x1.elim
    | succ f =>
      by_cases c1 : nKd (nX t) = 5
      · have := mch_two x2 (fun e => cv5 ⟨c1, e⟩)
        omega
      · have := mch_two x1 c1
        omega
  have q3 := BGh.two hp q1 q2 three e1 e2 (by omega)
  rw [eb, em, show 2 + (mch (nX t) + mch (nY t)) = mch (nX t) + mch (nY t) + 2 by omega]
  exact q3
end
theorem SH_le (hEm : ∀ q ρ, E ρ ≤ E (q :: ρ)) (hE0 : ∀ ρ, hs ρ = false → E ρ ≤ X7) (hE1 : ∀ ρ s, cnS ρ ≤ 1 → hs ρ = true → zm ρ ≤ Z s → E ρ ≤ hd s) (hm : ∀ y y', y ≤ y' → h y ≤ h y') (T : TBs N t0 fn s2 hv r0 r1 r2 r3 x0 n1 h P Q F G X) (hx : PXk N P F X fn s2 r1 = true) (h21 : r2 ≤ r1) (h32 : r3 ≤ r2) (hX : ∀ s, X7 ≤ hd s) : ∀ f, SGh N t0 n1 s2 h E P X X7 Z hd f
  | 0 => fun _ _ _ _ _ _ _ _ w => w.elim
  | f + 1 => by
    intro t π ω Γ Δ cv cd s0 w he co nq hc1 aq hl hw hzm hzs hz0 hdc hcd hb
    have ih := SH_le hEm hE0 hE1 hm T hx h21 h32 hX f
    have kk := w.1.1
    have k1 := kk.1
    have k2 := kk.2
    by_cases c5 : nKd t = 5
    · exact SH_5 hEm hE0 hE1 hm T hx h21 h32 ih w he co nq hc1 aq hl hw hzm hzs hz0 hX hdc hcd hb c5
    by_cases c6 : nKd t = 6
    · exact SH_6 hEm hE0 hE1 hm T hx h21 h32 ih w he co nq hc1 aq hl hw hzm hzs hz0 hX hdc hcd hb c6
    by_cases c7 : nKd t = 7 ∨ nKd t = 11
    · exact SH_7 hEm hE0 hE1 hm T hx h21 h32 ih w he co nq hc1 aq hl hw hzm hzs hz0 hX hdc hcd hb c7
    by_cases c8 : nKd t = 8
    · exact SH_8 hEm hE0 hE1 hm T hx h21 h32 ih w he co nq hc1 aq hl hw hzm hzs hz0 hX hdc hcd hb c8
    by_cases c9 : nKd t = 9
    · exact SH_9 hEm hE0 hE1 hm T hx h21 h32 ih w he co nq hc1 aq hl hw hzm hzs hz0 hX hdc hcd hb c9
    by_cases c10 : nKd t = 10
    · exact SH_10 hEm hE0 hE1 hm T hx h21 h32 ih w he co nq hc1 aq hl hw hzm hzs hz0 hX hdc hcd hb c10
    · exact SH_12 hEm hE0 hE1 hm T hx h21 h32 ih w he co nq hc1 aq hl hw hzm hzs hz0 hX hdc hcd hb (by omega)
end PmS4
