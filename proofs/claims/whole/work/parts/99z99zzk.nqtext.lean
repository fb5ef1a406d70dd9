/-! WHAT IS ASKED OF A TERM WHOSE CHOICES STAND ANYWHERE holds by characters. -/
/-- one name, no choice of it with itself -/
theorem cho_min9 : ∀ (f D p : Nat) (t : Ty) (σ : List Bool), TWf f D [p] t → TNo f t → ¬ CHo f t σ → 9 ≤ mch t + 2 * σ.length
  | 0, _, _, _, _, w, _, _ => w.elim
  | f + 1, D, p, t, σ, w, tn, nc => by
    have ih := fun D t σ => cho_min9 f D p t σ
    obtain ⟨w0, w5, w6, w7, w8, w9, w10, w11, w12⟩ := w
    obtain ⟨n6, n7, n9, n10, n12⟩ := tn
    have em := mch_is w0.2.1
    refine Classical.byContradiction (fun lt => nc ⟨fun c => Classical.byContradiction (fun n => ?_), fun c => Classical.byContradiction (fun n => ?_), fun c => Classical.byContradiction (fun n => ?_), fun c g hg hb => Classical.byContradiction (fun n => ?_), fun c => ?_⟩)
    · rw [if_neg (by omega), if_pos c] at em
      have hl : σ.tail.length = σ.length - 1 := List.length_tail
      rcases c with c | c
      · have := cho_min _ _ _ _ _ (w6 c).2.2.2 n
        have := tch_pos (w6 c).2.1
        omega
      · have := ih _ _ _ (w8 c).2.2 (n6 (Or.inr c)) n
        have := tch_pos (w8 c).1
        omega
    · rw [if_neg (by omega), if_neg (by omega), if_neg (by omega), if_neg (by omega)] at em
      rcases c with c | c
      · have := ih _ _ _ (w7 (Or.inl c)).1 (n7 (Or.inl c)).1 n
        rw [List.length_cons] at this
        omega
      · have := ih _ _ _ (w11 c).2 (n9 (Or.inr c)) n
        rw [List.length_cons] at this
        omega
    · rw [if_neg (by omega), if_neg (by omega), if_pos c] at em
      have := ih _ _ _ (w9 c).1 (n9 (Or.inl c)) n
      rw [List.length_cons] at this
      have := tch_pos (w9 c).2.1
      omega
    · rw [if_neg (by omega), if_neg (by omega), if_neg (by omega), if_pos c] at em
      have := ih _ _ _ ((w10 c).2 g hg hb) (n10 c g hg hb) n
      have hl : σ.tail.length = σ.length - 1 := List.length_tail
      have hm : ¬ nMk t = 0 := by
        intro e
        rw [e] at hb
        rcases (show g = 0 ∨ g = 1 ∨ g = 2 by omega) with rfl | rfl | rfl <;> exact absurd hb (by decide)
      rw [if_neg hm] at em
      rcases (show g = 0 ∨ g = 1 ∨ g = 2 by omega) with rfl | rfl | rfl
      · have this : 9 ≤ mch (nX t) + 2 * σ.tail.length := this
        omega
      · have this : 9 ≤ mch (nY t) + 2 * σ.tail.length := this
        omega
      · have this : 9 ≤ mch (nZ t) + 2 * σ.tail.length := this
        omega
    · rw [if_neg (by omega), if_neg (by omega), if_neg (by omega), if_neg (by omega)] at em
      obtain ⟨x1, x2⟩ := w7 (Or.inr c)
      have p1 := mch_pos' x1
      have p2 := mch_pos' x2
      have three : 3 ≤ mch (nX t) + mch (nY t) := Classical.byContradiction (fun l => by
        have k1 := one_nm x1 (by omega)
        have k2 := one_nm x2 (by omega)
        exact n12 c (smW_is.mpr ⟨k1, k2, by rw [nm_mk x1 k1, nm_mk x2 k2]⟩))
      refine ⟨Classical.byContradiction (fun n => ?_), Classical.byContradiction (fun n => ?_), Classical.byContradiction (fun n => ?_)⟩
      · have l2 : 2 ≤ σ.length := by
          match σ, n with
          | [], n => exact absurd rfl n
          | [b], n =>
            cases b
            · exact absurd rfl n
            · exact absurd rfl n
          | a :: b :: l, _ => rw [List.length_cons, List.length_cons]; omega
        omega
      · have := ih _ _ _ x1 (n7 (Or.inr c)).1 n
        omega
      · have := ih _ _ _ x2 (n7 (Or.inr c)).2 n
        omega
theorem chk_two {σ : List Bool} (n : ¬ chkB σ = true) : 2 ≤ σ.length := by
  match σ, n with
  | [], n => exact absurd rfl n
  | [b], n =>
    cases b
    · exact absurd rfl n
    · exact absurd rfl n
  | a :: b :: l, _ => rw [List.length_cons, List.length_cons]; omega
section PmZk1
variable {t0 s2 Y : Nat} {n1 h : Nat → Nat} {E : Stk → Nat}
/-- what a text of at most La characters is, values being at most V -/
def TxP (t0 : Nat) (n1 : Nat → Nat) (s2 : Nat) (h : Nat → Nat) (E : Stk → Nat) (Y La V : Nat) : Prop := ∀ (A : Ty) (ω : List Nat), ok ω.length A = true → tch A ≤ La → (∀ j, j < ω.length → vw ω j ≤ V) → (∀ ρ : Stk, ρ ≠ [] → vz t0 n1 s2 h E A ρ ω ≤ E ρ) ∧ UB t0 n1 s2 h E Y A ω ∧ nz t0 n1 s2 h ω A ≤ Y
/-- behind a header written in the term -/
theorem UQ_one (P : TxP t0 n1 s2 h E Y 3 Y) : ∀ (f D : Nat) (sc : List Nat) (u : Ty) (ω : List Nat), TWf f D sc u → ω.length = D → mch u ≤ 5 → (∀ j, j < ω.length → vw ω j ≤ Y) → UQt t0 n1 s2 h E Y f u ω
  | 0, _, _, _, _, w, _, _, _ => w.elim
  | f + 1, D, sc, u, ω, w, hl, m5, hw => by
    have ih := fun D sc u ω => UQ_one P f D sc u ω
    obtain ⟨w0, w5, w6, w7, w8, w9, w10, w11, w12⟩ := w
    have em := mch_is w0.2.1
    refine ⟨fun c => ?_, fun c => ?_, fun c => ?_, fun c => ?_, fun c g hg hb => ?_, fun c => ?_⟩
    · exfalso
      rw [if_neg (by omega), if_pos (Or.inl c)] at em
      have := tch_pos (w6 c).2.1
      have := mch_pos' (w6 c).2.2.2
      omega
    · rw [if_neg (by omega), if_neg (by omega), if_neg (by omega), if_neg (by omega)] at em
      rcases c with c | c
      · exact ih _ _ _ _ (w7 (Or.inl c)).1 hl (by omega) hw
      · exact ih _ _ _ _ (w11 c).2 hl (by omega) hw
    · exfalso
      rw [if_neg (by omega), if_pos (Or.inr c)] at em
      have := tch_pos (w8 c).1
      have := mch_pos' (w8 c).2.2
      omega
    · rw [if_neg (by omega), if_neg (by omega), if_pos c] at em
      obtain ⟨x1, x2, x3⟩ := w9 c
      have := mch_pos' x1
      exact ⟨P _ _ (by rw [hl]; exact x2) (by omega) hw, ih _ _ _ _ x1 hl (by have := tch_pos x2; omega) hw⟩
    · rw [if_neg (by omega), if_neg (by omega), if_neg (by omega), if_pos c] at em
      refine ih _ _ _ _ ((w10 c).2 g hg hb) hl ?_ hw
      rcases (show g = 0 ∨ g = 1 ∨ g = 2 by omega) with rfl | rfl | rfl
      · show mch (nX u) ≤ 5
        omega
      · show mch (nY u) ≤ 5
        omega
      · show mch (nZ u) ≤ 5
        omega
    · rw [if_neg (by omega), if_neg (by omega), if_neg (by omega), if_neg (by omega)] at em
      obtain ⟨x1, x2⟩ := w7 (Or.inr c)
      exact ⟨ih _ _ _ _ x1 hl (by omega) hw, ih _ _ _ _ x2 hl (by omega) hw⟩
theorem vw_hz {ω : List Nat} {v V : Nat} (hw : ∀ j, j < ω.length → vw ω j ≤ V) (hv : v ≤ V) : ∀ j, j < (v :: ω).length → vw (v :: ω) j ≤ V := by
  intro j hj
  rw [vw_cons]
  by_cases e : j = ω.length
  · rw [if_pos e]; exact hv
  · rw [if_neg e]
    rw [List.length_cons] at hj
    exact hw j (by omega)
theorem UQ_zero {La V M0 : Nat} (vy : V ≤ Y) (P0 : TxP t0 n1 s2 h E Y La V) (P1 : TxP t0 n1 s2 h E Y 3 Y) (h8 : 13 ≤ M0 → ∀ (B : Ty) (ω : List Nat), ok ω.length B = true → tch B ≤ 4 → (∀ j, j < ω.length → vw ω j ≤ V) → h (nz t0 n1 s2 h ω B) ≤ Y) : ∀ (f D : Nat) (sc : List Nat) (u : Ty) (ω : List Nat), TWf f D sc u → ω.length = D → mch u ≤ La + 2 → mch u + 7 ≤ M0 → M0 ≤ 16 → (∀ j, j < ω.length → vw ω j ≤ V) → UQt t0 n1 s2 h E Y f u ω
  | 0, _, _, _, _, w, _, _, _, _, _ => w.elim
  | f + 1, D, sc, u, ω, w, hl, mL, m9, m16, hw => by
    have ih := fun D sc u ω => UQ_zero vy P0 P1 h8 f D sc u ω
    obtain ⟨w0, w5, w6, w7, w8, w9, w10, w11, w12⟩ := w
    have em := mch_is w0.2.1
    refine ⟨fun c => ?_, fun c => ?_, fun c => ?_, fun c => ?_, fun c g hg hb => ?_, fun c => ?_⟩
    · rw [if_neg (by omega), if_pos (Or.inl c)] at em
      obtain ⟨-, x1, x2, x3⟩ := w6 c
      have := mch_pos' x3
      exact ⟨(P0 _ _ (by rw [hl]; exact x1) (by omega) hw).2.1, ih _ _ _ _ x3 hl (by omega) (by omega) m16 hw⟩
    · rw [if_neg (by omega), if_neg (by omega), if_neg (by omega), if_neg (by omega)] at em
      rcases c with c | c
      · exact ih _ _ _ _ (w7 (Or.inl c)).1 hl (by omega) (by omega) m16 hw
      · exact ih _ _ _ _ (w11 c).2 hl (by omega) (by omega) m16 hw
    · rw [if_neg (by omega), if_pos (Or.inr c)] at em
      obtain ⟨x1, x2, x3⟩ := w8 c
      have := mch_pos' x3
      have := tch_pos x1
      have q := P0 _ _ (show ok ω.length (nX u) = true by rw [hl]; exact x1) (by omega) hw
      have q8 := h8 (by omega) _ _ (show ok ω.length (nX u) = true by rw [hl]; exact x1) (by omega) hw
      refine ⟨⟨q.1, q.2.1⟩, fun z hz => UQ_one P1 f (D + 1) sc (nY u) _ x3 (by rw [List.length_cons, hl]) (by omega) (vw_hz (fun j hj => Nat.le_trans (hw j hj) vy) ?_)⟩
      unfold hzx
      omega
    · rw [if_neg (by omega), if_neg (by omega), if_pos c] at em
      obtain ⟨x1, x2, x3⟩ := w9 c
      have := mch_pos' x1
      have := tch_pos x2
      exact ⟨P0 _ _ (by rw [hl]; exact x2) (by omega) hw, ih _ _ _ _ x1 hl (by omega) (by omega) m16 hw⟩
    · rw [if_neg (by omega), if_neg (by omega), if_neg (by omega), if_pos c] at em
      have l : mch (nP u g) ≤ mch u := by
        rcases (show g = 0 ∨ g = 1 ∨ g = 2 by omega) with rfl | rfl | rfl
        · show mch (nX u) ≤ _
          omega
        · show mch (nY u) ≤ _
          omega
        · show mch (nZ u) ≤ _
          omega
      exact ih _ _ _ _ ((w10 c).2 g hg hb) hl (by omega) (by omega) m16 hw
    · rw [if_neg (by omega), if_neg (by omega), if_neg (by omega), if_neg (by omega)] at em
      obtain ⟨x1, x2⟩ := w7 (Or.inr c)
      exact ⟨ih _ _ _ _ x1 hl (by omega) (by omega) m16 hw, ih _ _ _ _ x2 hl (by omega) (by omega) m16 hw⟩
theorem NQ_cho {f : Nat} {t : Ty} {ω : List Nat} {σ : List Bool} (c : CHo f t σ) : NQ t0 n1 s2 h E Y f t ω σ := by
  cases f with
  | zero => trivial
  | succ f => exact Or.inl c
theorem cho_lam {f : Nat} {t : Ty} {σ : List Bool} (k : nKd t = 6 ∨ nKd t = 8) (c : CHo f (nY t) σ.tail) : CHo (f + 1) t σ := ⟨fun _ => c, fun e => by omega, fun e => by omega, fun e => by omega, fun e => by omega⟩
theorem cho_ins {f : Nat} {t : Ty} {σ : List Bool} (k : nKd t = 9) (c : CHo f (nX t) (true :: σ)) : CHo (f + 1) t σ := ⟨fun e => by omega, fun e => by omega, fun _ => c, fun e => by omega, fun e => by omega⟩
theorem NQ_one8 (P1 : TxP t0 n1 s2 h E Y 3 Y) : ∀ (f D : Nat) (sc : List Nat) (t : Ty) (ω : List Nat) (σ : List Bool) (M : Nat), TWf f D sc t → ω.length = D → mch t + 2 * σ.length ≤ M → M ≤ 10 → (∀ j, j < ω.length → vw ω j ≤ Y) → NQ t0 n1 s2 h E Y f t ω σ
  | 0, _, _, _, _, _, _, w, _, _, _, _ => w.elim
  | f + 1, D, sc, t, ω, σ, M, w, hl, hM, hM2, hw => by
    by_cases ch : CHo (f + 1) t σ
    · exact Or.inl ch
    right
    have mn := cho_min _ _ _ _ _ w ch
    obtain ⟨w0, w5, w6, w7, w8, w9, w10, w11, w12⟩ := w
    have em := mch_is w0.2.1
    have hlt : σ.tail.length = σ.length - 1 := List.length_tail
    refine ⟨fun c => ?_, fun c => ?_, fun c => ?_, fun c => ?_, fun c g hg hb => ?_, fun c => ?_⟩
    · rw [if_neg (by omega), if_pos (Or.inl c)] at em
      obtain ⟨-, x1, x2, x3⟩ := w6 c
      have t1 := tch_pos x1
      have m1 := mch_pos' x3
      by_cases cb : CHo f (nY t) σ.tail
      · exact absurd (cho_lam (Or.inl c) cb) ch
      · exfalso
        have := cho_min _ _ _ _ _ x3 cb
        omega
    · rw [if_neg (by omega), if_neg (by omega), if_neg (by omega), if_neg (by omega)] at em
      rcases c with c | c
      · exact NQ_one8 P1 f _ _ _ _ _ M (w7 (Or.inl c)).1 hl (by simp only [List.length_cons]; omega) hM2 hw
      · exact NQ_one8 P1 f _ _ _ _ _ M (w11 c).2 hl (by simp only [List.length_cons]; omega) hM2 hw
    · rw [if_neg (by omega), if_pos (Or.inr c)] at em
      obtain ⟨x1, x2, x3⟩ := w8 c
      have t1 := tch_pos x1
      by_cases cb : CHo f (nY t) σ.tail
      · exact absurd (cho_lam (Or.inr c) cb) ch
      have b8 := cho_min _ _ _ _ _ x3 cb
      exfalso
      omega
    · rw [if_neg (by omega), if_neg (by omega), if_pos c] at em
      obtain ⟨x1, x2, x3⟩ := w9 c
      have t1 := tch_pos x2
      by_cases cb : CHo f (nX t) (true :: σ)
      · exact absurd (cho_ins c cb) ch
      have b8 := cho_min _ _ _ _ _ x1 cb
      rw [List.length_cons] at b8
      exact ⟨(P1 _ _ (by rw [hl]; exact x2) (by omega) hw).2.2, NQ_one8 P1 f _ _ _ _ _ M x1 hl (by simp only [List.length_cons]; omega) hM2 hw⟩
    · rw [if_neg (by omega), if_neg (by omega), if_neg (by omega), if_pos c] at em
      have l : mch (nP t g) ≤ mch t := by
        rcases (show g = 0 ∨ g = 1 ∨ g = 2 by omega) with rfl | rfl | rfl
        · show mch (nX t) ≤ _
          omega
        · show mch (nY t) ≤ _
          omega
        · show mch (nZ t) ≤ _
          omega
      exact NQ_one8 P1 f _ _ _ _ _ M ((w10 c).2 g hg hb) hl (by omega) hM2 hw
    · rw [if_neg (by omega), if_neg (by omega), if_neg (by omega), if_neg (by omega)] at em
      obtain ⟨x1, x2⟩ := w7 (Or.inr c)
      have p1 := mch_pos' x1
      have p2 := mch_pos' x2
      refine ⟨⟨NQ_one8 P1 f _ _ _ _ _ M x1 hl (by omega) hM2 hw, NQ_one8 P1 f _ _ _ _ _ M x2 hl (by omega) hM2 hw⟩, ?_⟩
      by_cases ck : chkB σ = true
      · exact Or.inl ck
      · have l2 := chk_two ck
        exact Or.inr ⟨UQ_one P1 f _ _ _ _ x1 hl (by omega) hw, UQ_one P1 f _ _ _ _ x2 hl (by omega) hw⟩
theorem NQ_one9 (P1 : TxP t0 n1 s2 h E Y 3 Y) : ∀ (f D : Nat) (p : Nat) (t : Ty) (ω : List Nat) (σ : List Bool) (M : Nat), TWf f D [p] t → TNo f t → ω.length = D → mch t + 2 * σ.length ≤ M → M ≤ 11 → (∀ j, j < ω.length → vw ω j ≤ Y) → NQ t0 n1 s2 h E Y f t ω σ
  | 0, _, _, _, _, _, _, w, _, _, _, _, _ => w.elim
  | f + 1, D, p, t, ω, σ, M, w, tn, hl, hM, hM2, hw => by
    by_cases ch : CHo (f + 1) t σ
    · exact Or.inl ch
    right
    have mn := cho_min9 _ _ _ _ _ w tn ch
    obtain ⟨w0, w5, w6, w7, w8, w9, w10, w11, w12⟩ := w
    obtain ⟨n6, n7, n9, n10, n12⟩ := tn
    have em := mch_is w0.2.1
    have hlt : σ.tail.length = σ.length - 1 := List.length_tail
    refine ⟨fun c => ?_, fun c => ?_, fun c => ?_, fun c => ?_, fun c g hg hb => ?_, fun c => ?_⟩
    · rw [if_neg (by omega), if_pos (Or.inl c)] at em
      obtain ⟨-, x1, x2, x3⟩ := w6 c
      have t1 := tch_pos x1
      have m1 := mch_pos' x3
      by_cases cb : CHo f (nY t) σ.tail
      · exact absurd (cho_lam (Or.inl c) cb) ch
      · exfalso
        have := cho_min _ _ _ _ _ x3 cb
        omega
    · rw [if_neg (by omega), if_neg (by omega), if_neg (by omega), if_neg (by omega)] at em
      rcases c with c | c
      · exact NQ_one9 P1 f _ _ _ _ _ M (w7 (Or.inl c)).1 (n7 (Or.inl c)).1 hl (by simp only [List.length_cons]; omega) hM2 hw
      · exact NQ_one9 P1 f _ _ _ _ _ M (w11 c).2 (n9 (Or.inr c)) hl (by simp only [List.length_cons]; omega) hM2 hw
    · rw [if_neg (by omega), if_pos (Or.inr c)] at em
      obtain ⟨x1, x2, x3⟩ := w8 c
      have t1 := tch_pos x1
      by_cases cb : CHo f (nY t) σ.tail
      · exact absurd (cho_lam (Or.inr c) cb) ch
      have b8 := cho_min9 _ _ _ _ _ x3 (n6 (Or.inr c)) cb
      exfalso
      omega
    · rw [if_neg (by omega), if_neg (by omega), if_pos c] at em
      obtain ⟨x1, x2, x3⟩ := w9 c
      have t1 := tch_pos x2
      by_cases cb : CHo f (nX t) (true :: σ)
      · exact absurd (cho_ins c cb) ch
      have b8 := cho_min9 _ _ _ _ _ x1 (n9 (Or.inl c)) cb
      rw [List.length_cons] at b8
      exact ⟨(P1 _ _ (by rw [hl]; exact x2) (by omega) hw).2.2, NQ_one9 P1 f _ _ _ _ _ M x1 (n9 (Or.inl c)) hl (by simp only [List.length_cons]; omega) hM2 hw⟩
    · rw [if_neg (by omega), if_neg (by omega), if_neg (by omega), if_pos c] at em
      have l : mch (nP t g) ≤ mch t := by
        rcases (show g = 0 ∨ g = 1 ∨ g = 2 by omega) with rfl | rfl | rfl
        · show mch (nX t) ≤ _
          omega
        · show mch (nY t) ≤ _
          omega
        · show mch (nZ t) ≤ _
          omega
      exact NQ_one9 P1 f _ _ _ _ _ M ((w10 c).2 g hg hb) (n10 c g hg hb) hl (by omega) hM2 hw
    · rw [if_neg (by omega), if_neg (by omega), if_neg (by omega), if_neg (by omega)] at em
      obtain ⟨x1, x2⟩ := w7 (Or.inr c)
      have p1 := mch_pos' x1
      have p2 := mch_pos' x2
      refine ⟨⟨NQ_one9 P1 f _ _ _ _ _ M x1 (n7 (Or.inr c)).1 hl (by omega) hM2 hw, NQ_one9 P1 f _ _ _ _ _ M x2 (n7 (Or.inr c)).2 hl (by omega) hM2 hw⟩, ?_⟩
      by_cases ck : chkB σ = true
      · exact Or.inl ck
      · have l2 := chk_two ck
        exact Or.inr ⟨UQ_one P1 f _ _ _ _ x1 hl (by omega) hw, UQ_one P1 f _ _ _ _ x2 hl (by omega) hw⟩
theorem NQ_zero8 {La V M0 : Nat} (vy : V ≤ Y) (P0 : TxP t0 n1 s2 h E Y La V) (P1 : TxP t0 n1 s2 h E Y 3 Y) (h8 : 13 ≤ M0 → ∀ (B : Ty) (ω : List Nat), ok ω.length B = true → tch B ≤ 4 → (∀ j, j < ω.length → vw ω j ≤ V) → h (nz t0 n1 s2 h ω B) ≤ Y) : ∀ (f D : Nat) (sc : List Nat) (t : Ty) (ω : List Nat) (σ : List Bool) (M : Nat), TWf f D sc t → ω.length = D → mch t + 2 * σ.length ≤ M → M ≤ La + 7 → M ≤ 15 → M ≤ M0 → M0 ≤ 16 → (∀ j, j < ω.length → vw ω j ≤ V) → NQ t0 n1 s2 h E Y f t ω σ
  | 0, _, _, _, _, _, _, w, _, _, _, _, _, _, _ => w.elim
  | f + 1, D, sc, t, ω, σ, M, w, hl, hM, hML, hM2, hM0, h16, hw => by
    by_cases ch : CHo (f + 1) t σ
    · exact Or.inl ch
    right
    have mn := cho_min _ _ _ _ _ w ch
    obtain ⟨w0, w5, w6, w7, w8, w9, w10, w11, w12⟩ := w
    have em := mch_is w0.2.1
    have hlt : σ.tail.length = σ.length - 1 := List.length_tail
    refine ⟨fun c => ?_, fun c => ?_, fun c => ?_, fun c => ?_, fun c g hg hb => ?_, fun c => ?_⟩
    · rw [if_neg (by omega), if_pos (Or.inl c)] at em
      obtain ⟨-, x1, x2, x3⟩ := w6 c
      have t1 := tch_pos x1
      have m1 := mch_pos' x3
      by_cases cb : CHo f (nY t) σ.tail
      · exact absurd (cho_lam (Or.inl c) cb) ch
      · have b8 := cho_min _ _ _ _ _ x3 cb
        refine ⟨(P0 _ _ (by rw [hl]; exact x1) (by omega) hw).2.1, ?_⟩
        exact NQ_zero8 vy P0 P1 h8 f _ _ _ _ _ M x3 hl (by omega) hML hM2 hM0 h16 hw
    · rw [if_neg (by omega), if_neg (by omega), if_neg (by omega), if_neg (by omega)] at em
      rcases c with c | c
      · exact NQ_zero8 vy P0 P1 h8 f _ _ _ _ _ M (w7 (Or.inl c)).1 hl (by simp only [List.length_cons]; omega) hML hM2 hM0 h16 hw
      · exact NQ_zero8 vy P0 P1 h8 f _ _ _ _ _ M (w11 c).2 hl (by simp only [List.length_cons]; omega) hML hM2 hM0 h16 hw
    · rw [if_neg (by omega), if_pos (Or.inr c)] at em
      obtain ⟨x1, x2, x3⟩ := w8 c
      have t1 := tch_pos x1
      by_cases cb : CHo f (nY t) σ.tail
      · exact absurd (cho_lam (Or.inr c) cb) ch
      have b8 := cho_min _ _ _ _ _ x3 cb
      have q := P0 _ _ (show ok ω.length (nX t) = true by rw [hl]; exact x1) (by omega) hw
      have q8 := h8 (by omega) _ _ (show ok ω.length (nX t) = true by rw [hl]; exact x1) (by omega) hw
      refine ⟨q.2.1, fun z hz => NQ_one8 P1 f (D + 1) _ _ _ _ (M - 5) x3 (by rw [List.length_cons, hl]) (by omega) (by omega) (vw_hz (fun j hj => Nat.le_trans (hw j hj) vy) ?_)⟩
      unfold hzx
      omega
    · rw [if_neg (by omega), if_neg (by omega), if_pos c] at em
      obtain ⟨x1, x2, x3⟩ := w9 c
      have t1 := tch_pos x2
      by_cases cb : CHo f (nX t) (true :: σ)
      · exact absurd (cho_ins c cb) ch
      have b8 := cho_min _ _ _ _ _ x1 cb
      rw [List.length_cons] at b8
      exact ⟨(P0 _ _ (by rw [hl]; exact x2) (by omega) hw).2.2, NQ_zero8 vy P0 P1 h8 f _ _ _ _ _ M x1 hl (by simp only [List.length_cons]; omega) hML hM2 hM0 h16 hw⟩
    · rw [if_neg (by omega), if_neg (by omega), if_neg (by omega), if_pos c] at em
      have l : mch (nP t g) ≤ mch t := by
        rcases (show g = 0 ∨ g = 1 ∨ g = 2 by omega) with rfl | rfl | rfl
        · show mch (nX t) ≤ _
          omega
        · show mch (nY t) ≤ _
          omega
        · show mch (nZ t) ≤ _
          omega
      exact NQ_zero8 vy P0 P1 h8 f _ _ _ _ _ M ((w10 c).2 g hg hb) hl (by omega) hML hM2 hM0 h16 hw
    · rw [if_neg (by omega), if_neg (by omega), if_neg (by omega), if_neg (by omega)] at em
      obtain ⟨x1, x2⟩ := w7 (Or.inr c)
      have p1 := mch_pos' x1
      have p2 := mch_pos' x2
      refine ⟨⟨NQ_zero8 vy P0 P1 h8 f _ _ _ _ _ M x1 hl (by omega) hML hM2 hM0 h16 hw, NQ_zero8 vy P0 P1 h8 f _ _ _ _ _ M x2 hl (by omega) hML hM2 hM0 h16 hw⟩, ?_⟩
      by_cases ck : chkB σ = true
      · exact Or.inl ck
      · have l2 := chk_two ck
        exact Or.inr ⟨UQ_zero vy P0 P1 h8 f _ _ _ _ x1 hl (by omega) (by omega) h16 hw, UQ_zero vy P0 P1 h8 f _ _ _ _ x2 hl (by omega) (by omega) h16 hw⟩
theorem NQ_zero9 {La V M0 : Nat} (vy : V ≤ Y) (P0 : TxP t0 n1 s2 h E Y La V) (P1 : TxP t0 n1 s2 h E Y 3 Y) (h8 : 13 ≤ M0 → ∀ (B : Ty) (ω : List Nat), ok ω.length B = true → tch B ≤ 4 → (∀ j, j < ω.length → vw ω j ≤ V) → h (nz t0 n1 s2 h ω B) ≤ Y) : ∀ (f D : Nat) (p : Nat) (t : Ty) (ω : List Nat) (σ : List Bool) (M : Nat), TWf f D [p] t → TNo f t → ω.length = D → mch t + 2 * σ.length ≤ M → M ≤ La + 8 → M ≤ 16 → M ≤ M0 → M0 ≤ 16 → (∀ j, j < ω.length → vw ω j ≤ V) → NQ t0 n1 s2 h E Y f t ω σ
  | 0, _, _, _, _, _, _, w, _, _, _, _, _, _, _, _ => w.elim
  | f + 1, D, p, t, ω, σ, M, w, tn, hl, hM, hML, hM2, hM0, h16, hw => by
    by_cases ch : CHo (f + 1) t σ
    · exact Or.inl ch
    right
    have mn := cho_min9 _ _ _ _ _ w tn ch
    obtain ⟨w0, w5, w6, w7, w8, w9, w10, w11, w12⟩ := w
    obtain ⟨n6, n7, n9, n10, n12⟩ := tn
    have em := mch_is w0.2.1
    have hlt : σ.tail.length = σ.length - 1 := List.length_tail
    refine ⟨fun c => ?_, fun c => ?_, fun c => ?_, fun c => ?_, fun c g hg hb => ?_, fun c => ?_⟩
    · rw [if_neg (by omega), if_pos (Or.inl c)] at em
      obtain ⟨-, x1, x2, x3⟩ := w6 c
      have t1 := tch_pos x1
      have m1 := mch_pos' x3
      by_cases cb : CHo f (nY t) σ.tail
      · exact absurd (cho_lam (Or.inl c) cb) ch
      · have b8 := cho_min _ _ _ _ _ x3 cb
        refine ⟨(P0 _ _ (by rw [hl]; exact x1) (by omega) hw).2.1, ?_⟩
        exact NQ_zero8 vy P0 P1 h8 f _ _ _ _ _ (M - 5) x3 hl (by omega) (by omega) (by omega) (by omega) h16 hw
    · rw [if_neg (by omega), if_neg (by omega), if_neg (by omega), if_neg (by omega)] at em
      rcases c with c | c
      · exact NQ_zero9 vy P0 P1 h8 f _ _ _ _ _ M (w7 (Or.inl c)).1 (n7 (Or.inl c)).1 hl (by simp only [List.length_cons]; omega) hML hM2 hM0 h16 hw
      · exact NQ_zero9 vy P0 P1 h8 f _ _ _ _ _ M (w11 c).2 (n9 (Or.inr c)) hl (by simp only [List.length_cons]; omega) hML hM2 hM0 h16 hw
    · rw [if_neg (by omega), if_pos (Or.inr c)] at em
      obtain ⟨x1, x2, x3⟩ := w8 c
      have t1 := tch_pos x1
      by_cases cb : CHo f (nY t) σ.tail
      · exact absurd (cho_lam (Or.inr c) cb) ch
      have b8 := cho_min9 _ _ _ _ _ x3 (n6 (Or.inr c)) cb
      have q := P0 _ _ (show ok ω.length (nX t) = true by rw [hl]; exact x1) (by omega) hw
      have q8 := h8 (by omega) _ _ (show ok ω.length (nX t) = true by rw [hl]; exact x1) (by omega) hw
      refine ⟨q.2.1, fun z hz => NQ_one9 P1 f (D + 1) _ _ _ _ (M - 5) x3 (n6 (Or.inr c)) (by rw [List.length_cons, hl]) (by omega) (by omega) (vw_hz (fun j hj => Nat.le_trans (hw j hj) vy) ?_)⟩
      unfold hzx
      omega
    · rw [if_neg (by omega), if_neg (by omega), if_pos c] at em
      obtain ⟨x1, x2, x3⟩ := w9 c
      have t1 := tch_pos x2
      by_cases cb : CHo f (nX t) (true :: σ)
      · exact absurd (cho_ins c cb) ch
      have b8 := cho_min9 _ _ _ _ _ x1 (n9 (Or.inl c)) cb
      rw [List.length_cons] at b8
      exact ⟨(P0 _ _ (by rw [hl]; exact x2) (by omega) hw).2.2, NQ_zero9 vy P0 P1 h8 f _ _ _ _ _ M x1 (n9 (Or.inl c)) hl (by simp only [List.length_cons]; omega) hML hM2 hM0 h16 hw⟩
    · rw [if_neg (by omega), if_neg (by omega), if_neg (by omega), if_pos c] at em
      have l : mch (nP t g) ≤ mch t := by
        rcases (show g = 0 ∨ g = 1 ∨ g = 2 by omega) with rfl | rfl | rfl
        · show mch (nX t) ≤ _
          omega
        · show mch (nY t) ≤ _
          omega
        · show mch (nZ t) ≤ _
          omega
      exact NQ_zero9 vy P0 P1 h8 f _ _ _ _ _ M ((w10 c).2 g hg hb) (n10 c g hg hb) hl (by omega) hML hM2 hM0 h16 hw
    · rw [if_neg (by omega), if_neg (by omega), if_neg (by omega), if_neg (by omega)] at em
      obtain ⟨x1, x2⟩ := w7 (Or.inr c)
      have p1 := mch_pos' x1
      have p2 := mch_pos' x2
      refine ⟨⟨NQ_zero9 vy P0 P1 h8 f _ _ _ _ _ M x1 (n7 (Or.inr c)).1 hl (by omega) hML hM2 hM0 h16 hw, NQ_zero9 vy P0 P1 h8 f _ _ _ _ _ M x2 (n7 (Or.inr c)).2 hl (by omega) hML hM2 hM0 h16 hw⟩, ?_⟩
      by_cases ck : chkB σ = true
      · exact Or.inl ck
      · have l2 := chk_two ck
        exact Or.inr ⟨UQ_zero vy P0 P1 h8 f _ _ _ _ x1 hl (by omega) (by omega) h16 hw, UQ_zero vy P0 P1 h8 f _ _ _ _ x2 hl (by omega) (by omega) h16 hw⟩
end PmZk1
