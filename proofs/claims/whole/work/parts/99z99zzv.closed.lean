/-! CHOICES ANYWHERE, no names around. -/
theorem cl_two {f D : Nat} {v : Ty} (w : TWf f D [] v) : 2 ≤ mch v := by
  have n5 : nKd v ≠ 5 := fun k5 => by
    cases f with
    | zero => exact w.elim
    | succ f => exact absurd (w.2.1 k5) (by simp)
  exact mch_two (tw_up _ _ _ _ w) n5
theorem cho_min0 : ∀ (f D : Nat) (t : Ty) (σ : List Bool), TWf f D [] t → TNo f t → ¬ CHo f t σ → 10 ≤ mch t + 2 * σ.length
  | 0, _, _, _, w, _, _ => w.elim
  | f + 1, D, t, σ, w, tn, nc => by
    have ih := fun D t σ => cho_min0 f D t σ
    obtain ⟨w0, w5, w6, w7, w8, w9, w10, w11, w12⟩ := w
    obtain ⟨n6, n7, n9, n10, n12⟩ := tn
    have em := mch_is w0.2.1
    refine Classical.byContradiction (fun lt => nc ⟨fun c => Classical.byContradiction (fun n => ?_), fun c => Classical.byContradiction (fun n => ?_), fun c => Classical.byContradiction (fun n => ?_), fun c g hg hb => Classical.byContradiction (fun n => ?_), fun c => ?_⟩)
    · rw [if_neg (by omega), if_pos c] at em
      have hl : σ.tail.length = σ.length - 1 := List.length_tail
      rcases c with c | c
      · have := cho_min _ _ _ _ _ (w6 c).2.2.2 n
        have := tch_pos (w6 c).2.1
        omega
      · have := ih _ _ _ (w8 c).2.2 (n6 (Or.inr c)) n
        have := tch_pos (w8 c).1
        omega
    · rw [if_neg (by omega), if_neg (by omega), if_neg (by omega), if_neg (by omega)] at em
      rcases c with c | c
      · have := ih _ _ _ (w7 (Or.inl c)).1 (n7 (Or.inl c)).1 n
        rw [List.length_cons] at this
        omega
      · have := ih _ _ _ (w11 c).2 (n9 (Or.inr c)) n
        rw [List.length_cons] at this
        omega
    · rw [if_neg (by omega), if_neg (by omega), if_pos c] at em
      have := ih _ _ _ (w9 c).1 (n9 (Or.inl c)) n
      rw [List.length_cons] at this
      have := tch_pos (w9 c).2.1
      omega
    · rw [if_neg (by omega), if_neg (by omega), if_neg (by omega), if_pos c] at em
      have := ih _ _ _ ((w10 c).2 g hg hb) (n10 c g hg hb) n
      have hl : σ.tail.length = σ.length - 1 := List.length_tail
      have hm : ¬ nMk t = 0 := by
        intro e
        rw [e] at hb
        rcases (show g = 0 ∨ g = 1 ∨ g = 2 by omega) with rfl | rfl | rfl <;> exact absurd hb (by decide)
      rw [if_neg hm] at em
      rcases (show g = 0 ∨ g = 1 ∨ g = 2 by omega) with rfl | rfl | rfl
      · have this : 10 ≤ mch (nX t) + 2 * σ.tail.length := this
        omega
      · have this : 10 ≤ mch (nY t) + 2 * σ.tail.length := this
        omega
      · have this : 10 ≤ mch (nZ t) + 2 * σ.tail.length := this
        omega
    · rw [if_neg (by omega), if_neg (by omega), if_neg (by omega), if_neg (by omega)] at em
      obtain ⟨x1, x2⟩ := w7 (Or.inr c)
      have p1 := mch_pos' x1
      have p2 := mch_pos' x2
      have p1 := cl_two x1
      have p2 := cl_two x2
      refine ⟨Classical.byContradiction (fun n => ?_), Classical.byContradiction (fun n => ?_), Classical.byContradiction (fun n => ?_)⟩
      · have l2 : 2 ≤ σ.length := by
          match σ, n with
          | [], n => exact absurd rfl n
          | [b], n =>
            cases b
            · exact absurd rfl n
            · exact absurd rfl n
          | a :: b :: l, _ => rw [List.length_cons, List.length_cons]; omega
        omega
      · have := ih _ _ _ x1 (n7 (Or.inr c)).1 n
        omega
      · have := ih _ _ _ x2 (n7 (Or.inr c)).2 n
        omega
section PmZv1
variable {t0 s2 Y : Nat} {n1 h : Nat → Nat} {E : Stk → Nat}
theorem NQ_one0 (P1 : TxP t0 n1 s2 h E Y 3 Y) : ∀ (f D : Nat) (t : Ty) (ω : List Nat) (σ : List Bool) (M : Nat), TWf f D [] t → TNo f t → ω.length = D → mch t + 2 * σ.length ≤ M → M ≤ 12 → (∀ j, j < ω.length → vw ω j ≤ Y) → NQ t0 n1 s2 h E Y f t ω σ
  | 0, _, _, _, _, _, w, _, _, _, _, _ => w.elim
  | f + 1, D, t, ω, σ, M, w, tn, hl, hM, hM2, hw => by
    by_cases ch : CHo (f + 1) t σ
    · exact Or.inl ch
    right
    have mn := cho_min0 _ _ _ _ w tn ch
    obtain ⟨w0, w5, w6, w7, w8, w9, w10, w11, w12⟩ := w
    obtain ⟨n6, n7, n9, n10, n12⟩ := tn
    have em := mch_is w0.2.1
    have hlt : σ.tail.length = σ.length - 1 := List.length_tail
    refine ⟨fun c => ?_, fun c => ?_, fun c => ?_, fun c => ?_, fun c g hg hb => ?_, fun c => ?_⟩
    · rw [if_neg (by omega), if_pos (Or.inl c)] at em
      obtain ⟨-, x1, x2, x3⟩ := w6 c
      have t1 := tch_pos x1
      have m1 := mch_pos' x3
      by_cases cb : CHo f (nY t) σ.tail
      · exact absurd (cho_lam (Or.inl c) cb) ch
      · exfalso
        have := cho_min _ _ _ _ _ x3 cb
        omega
    · rw [if_neg (by omega), if_neg (by omega), if_neg (by omega), if_neg (by omega)] at em
      rcases c with c | c
      · exact NQ_one0 P1 f _ _ _ _ M (w7 (Or.inl c)).1 (n7 (Or.inl c)).1 hl (by simp only [List.length_cons]; omega) hM2 hw
      · exact NQ_one0 P1 f _ _ _ _ M (w11 c).2 (n9 (Or.inr c)) hl (by simp only [List.length_cons]; omega) hM2 hw
    · rw [if_neg (by omega), if_pos (Or.inr c)] at em
      obtain ⟨x1, x2, x3⟩ := w8 c
      have t1 := tch_pos x1
      by_cases cb : CHo f (nY t) σ.tail
      · exact absurd (cho_lam (Or.inr c) cb) ch
      have b8 := cho_min0 _ _ _ _ x3 (n6 (Or.inr c)) cb
      exfalso
      omega
    · rw [if_neg (by omega), if_neg (by omega), if_pos c] at em
      obtain ⟨x1, x2, x3⟩ := w9 c
      have t1 := tch_pos x2
      by_cases cb : CHo f (nX t) (true :: σ)
      · exact absurd (cho_ins c cb) ch
      have b8 := cho_min0 _ _ _ _ x1 (n9 (Or.inl c)) cb
      rw [List.length_cons] at b8
      exact ⟨(P1 _ _ (by rw [hl]; exact x2) (by omega) hw).2.2, NQ_one0 P1 f _ _ _ _ M x1 (n9 (Or.inl c)) hl (by simp only [List.length_cons]; omega) hM2 hw⟩
    · rw [if_neg (by omega), if_neg (by omega), if_neg (by omega), if_pos c] at em
      have l : mch (nP t g) ≤ mch t := by
        rcases (show g = 0 ∨ g = 1 ∨ g = 2 by omega) with rfl | rfl | rfl
        · show mch (nX t) ≤ _
          omega
        · show mch (nY t) ≤ _
          omega
        · show mch (nZ t) ≤ _
          omega
      exact NQ_one0 P1 f _ _ _ _ M ((w10 c).2 g hg hb) (n10 c g hg hb) hl (by omega) hM2 hw
    · rw [if_neg (by omega), if_neg (by omega), if_neg (by omega), if_neg (by omega)] at em
      obtain ⟨x1, x2⟩ := w7 (Or.inr c)
      have p1 := cl_two x1
      have p2 := cl_two x2
      refine ⟨⟨NQ_one0 P1 f _ _ _ _ M x1 (n7 (Or.inr c)).1 hl (by omega) hM2 hw, NQ_one0 P1 f _ _ _ _ M x2 (n7 (Or.inr c)).2 hl (by omega) hM2 hw⟩, ?_⟩
      by_cases ck : chkB σ = true
      · exact Or.inl ck
      · have l2 := chk_two ck
        exact Or.inr ⟨UQ_one P1 f _ _ _ _ x1 hl (by omega) hw, UQ_one P1 f _ _ _ _ x2 hl (by omega) hw⟩
theorem NQ_zero0 {La V : Nat} (vy : V ≤ Y) (P0 : TxP t0 n1 s2 h E Y La V) (P1 : TxP t0 n1 s2 h E Y 3 Y) (h8 : ∀ (B : Ty) (ω : List Nat), ok ω.length B = true → tch B ≤ 4 → (∀ j, j < ω.length → vw ω j ≤ V) → h (nz t0 n1 s2 h ω B) ≤ Y) : ∀ (f D : Nat) (t : Ty) (ω : List Nat) (σ : List Bool) (M : Nat), TWf f D [] t → TNo f t → ω.length = D → mch t + 2 * σ.length ≤ M → M ≤ La + 9 → M ≤ 17 → (∀ j, j < ω.length → vw ω j ≤ V) → NQ t0 n1 s2 h E Y f t ω σ
  | 0, _, _, _, _, _, w, _, _, _, _, _, _ => w.elim
  | f + 1, D, t, ω, σ, M, w, tn, hl, hM, hML, hM2, hw => by
    by_cases ch : CHo (f + 1) t σ
    · exact Or.inl ch
    right
    have mn := cho_min0 _ _ _ _ w tn ch
    obtain ⟨w0, w5, w6, w7, w8, w9, w10, w11, w12⟩ := w
    obtain ⟨n6, n7, n9, n10, n12⟩ := tn
    have em := mch_is w0.2.1
    have hlt : σ.tail.length = σ.length - 1 := List.length_tail
    refine ⟨fun c => ?_, fun c => ?_, fun c => ?_, fun c => ?_, fun c g hg hb => ?_, fun c => ?_⟩
    · rw [if_neg (by omega), if_pos (Or.inl c)] at em
      obtain ⟨-, x1, x2, x3⟩ := w6 c
      have t1 := tch_pos x1
      have m1 := mch_pos' x3
      by_cases cb : CHo f (nY t) σ.tail
      · exact absurd (cho_lam (Or.inl c) cb) ch
      · have b8 := cho_min _ _ _ _ _ x3 cb
        refine ⟨(P0 _ _ (by rw [hl]; exact x1) (by omega) hw).2.1, ?_⟩
        exact NQ_zero9 (M0 := 16) vy P0 P1 (fun _ => h8) f _ _ _ _ _ (M - 5) x3 (n6 (Or.inl c)) hl (by omega) (by omega) (by omega) (by omega) (Nat.le_refl _) hw
    · rw [if_neg (by omega), if_neg (by omega), if_neg (by omega), if_neg (by omega)] at em
      rcases c with c | c
      · exact NQ_zero0 vy P0 P1 h8 f _ _ _ _ M (w7 (Or.inl c)).1 (n7 (Or.inl c)).1 hl (by simp only [List.length_cons]; omega) hML hM2 hw
      · exact NQ_zero0 vy P0 P1 h8 f _ _ _ _ M (w11 c).2 (n9 (Or.inr c)) hl (by simp only [List.length_cons]; omega) hML hM2 hw
    · rw [if_neg (by omega), if_pos (Or.inr c)] at em
      obtain ⟨x1, x2, x3⟩ := w8 c
      have t1 := tch_pos x1
      by_cases cb : CHo f (nY t) σ.tail
      · exact absurd (cho_lam (Or.inr c) cb) ch
      have b8 := cho_min0 _ _ _ _ x3 (n6 (Or.inr c)) cb
      have q := P0 _ _ (show ok ω.length (nX t) = true by rw [hl]; exact x1) (by omega) hw
      have q8 := h8 _ _ (show ok ω.length (nX t) = true by rw [hl]; exact x1) (by omega) hw
      refine ⟨q.2.1, fun z hz => NQ_one0 P1 f (D + 1) _ _ _ (M - 5) x3 (n6 (Or.inr c)) (by rw [List.length_cons, hl]) (by omega) (by omega) (vw_hz (fun j hj => Nat.le_trans (hw j hj) vy) ?_)⟩
      unfold hzx
      omega
    · rw [if_neg (by omega), if_neg (by omega), if_pos c] at em
      obtain ⟨x1, x2, x3⟩ := w9 c
      have t1 := tch_pos x2
      by_cases cb : CHo f (nX t) (true :: σ)
      · exact absurd (cho_ins c cb) ch
      have b8 := cho_min0 _ _ _ _ x1 (n9 (Or.inl c)) cb
      rw [List.length_cons] at b8
      exact ⟨(P0 _ _ (by rw [hl]; exact x2) (by omega) hw).2.2, NQ_zero0 vy P0 P1 h8 f _ _ _ _ M x1 (n9 (Or.inl c)) hl (by simp only [List.length_cons]; omega) hML hM2 hw⟩
    · rw [if_neg (by omega), if_neg (by omega), if_neg (by omega), if_pos c] at em
      have l : mch (nP t g) ≤ mch t := by
        rcases (show g = 0 ∨ g = 1 ∨ g = 2 by omega) with rfl | rfl | rfl
        · show mch (nX t) ≤ _
          omega
        · show mch (nY t) ≤ _
          omega
        · show mch (nZ t) ≤ _
          omega
      exact NQ_zero0 vy P0 P1 h8 f _ _ _ _ M ((w10 c).2 g hg hb) (n10 c g hg hb) hl (by omega) hML hM2 hw
    · rw [if_neg (by omega), if_neg (by omega), if_neg (by omega), if_neg (by omega)] at em
      obtain ⟨x1, x2⟩ := w7 (Or.inr c)
      have p1 := cl_two x1
      have p2 := cl_two x2
      refine ⟨⟨NQ_zero0 vy P0 P1 h8 f _ _ _ _ M x1 (n7 (Or.inr c)).1 hl (by omega) hML hM2 hw, NQ_zero0 vy P0 P1 h8 f _ _ _ _ M x2 (n7 (Or.inr c)).2 hl (by omega) hML hM2 hw⟩, ?_⟩
      by_cases ck : chkB σ = true
      · exact Or.inl ck
      · have l2 := chk_two ck
        exact Or.inr ⟨UQ_zero (M0 := 16) vy P0 P1 (fun _ => h8) f _ _ _ _ x1 hl (by omega) (by omega) (Nat.le_refl _) hw, UQ_zero (M0 := 16) vy P0 P1 (fun _ => h8) f _ _ _ _ x2 hl (by omega) (by omega) (Nat.le_refl _) hw⟩
end PmZv1
section PmZv2
variable {t0 fn s2 hv r0 r1 r2 r3 x0 : Nat} {n1 h : Nat → Nat} {P Q : List (List Nat)} {F G W : FrT} {X : List Nat}
theorem gen_zjqn (hn : NC t0 n1 s2 h) (hm : ∀ y y', y ≤ y' → h y ≤ h y') (hh : ∀ y δ, h (y + δ) ≤ h y + δ) (T : TBs 58 t0 fn s2 hv r0 r1 r2 r3 x0 n1 h P Q F G X) (hFm : frm F = true) (hgr : fgc F W hv = true) (hWm : fgm W = true) (hW1 : fg1s W = true) (hW : (1, 0) ∈ frg W 0) (H1 : ∀ y, h y ≤ hv + max 1 y) (s21 : 1 ≤ s2) {f : Nat} {t S b b' B C : Ty} {Γ0 Δ1 : List Ty} {Δ : List (Nat × Ty × Nat)} {a5 ob cd Bd y1 κ wB : Nat} {v : Nat × Nat} (ds : DSp Γ0.length (tAll B C) b' b) (w : TWf f (cxs Δ1 Γ0 b).length (Δ.map (fun a => a.1)) t) (he : TE (cxs Δ1 Γ0 b) Δ) (cu : TNo f t) (eD : Δ = []) (hm30 : mch t ≤ 30) (hdc : dch Δ ≤ cd) (hcd : cd ≤ 56) (a55 : a5 ≤ 5) (ha5 : Δ ≠ [] → a5 = 0) (hb0 : ∀ a ∈ Γ0, OBs ob a) (hb1 : ∀ a ∈ Δ1, OBs ob a) (hbs : ∀ B' C', ok Γ0.length (tAll B' C') = true → tch C' ≤ tch C → tch (tAll B' C') + tch (tAll B C) + 5 ≤ tch b → tch C' ≤ 40 ∧ lmx xr1 (tch C') ≤ ob ∧ lmx fr1 (tch C') ≤ ob) (q38 : cch Δ1 ≤ 38) (q56 : cch Γ0 ≤ 56) (e1 : max x0 (X.getD (cch Γ0) 0) ≤ y1) (hκ : nz t0 n1 s2 h (onz t0 n1 s2 h Γ0) b' ≤ κ) (hwB : h (nz t0 n1 s2 h (onz t0 n1 s2 h Γ0) B) ≤ wB) (hv1 : xt (Γ0.length + 1) C ≤ v.1) (hv2 : xa t0 n1 s2 hv (Γ0.length + 1) C ≤ v.2) {K La : Nat} (hLK : La ≤ K) (K30 : K ≤ 30) (kB : tch B ≤ K) (kC : tch C ≤ K + 5) (kq1 : cch Γ0 ≤ K + 9) (kq2 : cch Δ1 ≤ K + 9) (kov : tch b ≤ tch (tAll B C) + K + 10) (kcd : dch Δ ≤ K + 9) (hM : mch t ≤ La + 9) (hM16 : mch t ≤ 17) (hLa : 5 ≤ La) (hT : ∀ p, p ≤ v.1 → ∀ u ∈ frg W (cch Δ1), ∃ s : T6, (TiD hv s2 κ wB y1 ob (tch C) p v u s ∧ ∃ w0 ∈ frg F s.2.2.2.2.2, ob + 1 ≤ w0.1) ∧ gqx F W hv K La s = true ∧ dpD true F W a5 hv fn s2 r0 r1 r2 r3 s.2.2.1 s.2.2.2.1 s.1 s.2.2.2.2.1 s.2.2.2.2.2 s.1 cd (mch t) ≤ Bd) (hS : tyF f t (cxs Δ1 Γ0 b) Δ = .inr S) : nz t0 n1 s2 h (onz t0 n1 s2 h (cxs Δ1 Γ0 b)) S ≤ Bd := by
  obtain ⟨oc0, oB⟩ := okc_low Δ1 he.1
  obtain ⟨ob', oσ, cσ, nσ, iσ⟩ := ds
  have oC := (ok_all.mp oσ).2
  have l0 := onz_len t0 n1 s2 h Γ0
  have l1 := onz_len t0 n1 s2 h (cxs Δ1 Γ0 b)
  have x01 : x0 ≤ y1 := Nat.le_trans (Nat.le_max_left _ _) e1
  have hω : ∀ j, j < (onz t0 n1 s2 h Γ0).length → vw (onz t0 n1 s2 h Γ0) j ≤ y1 := fun j hj => Nat.le_trans (onz_chars T.1 T.2.1 T.2.2.1 T.2.2.2.1 T.2.2.2.2.1 Γ0 oc0 q56 j (by rw [l0] at hj; exact hj)) (Nat.le_trans (Nat.le_max_right _ _) e1)
  rw [xt_xo] at hv1
  have vC : ∀ z, nz t0 n1 s2 h (z :: onz t0 n1 s2 h Γ0) C ≤ v.2 + (v.1 - xf (Γ0.length + 1) Γ0.length C) * y1 + xf (Γ0.length + 1) Γ0.length C * z := by
    intro z
    have q := nz_xo (t0 := t0) (n1 := n1) (s2 := s2) H1 (t := C) (ω := onz t0 n1 s2 h Γ0) (z := z) (by rw [l0]; exact oC) hω
    rw [l0] at q
    have q2 := Nat.mul_le_mul_right y1 (show xo Γ0.length C ≤ v.1 - xf (Γ0.length + 1) Γ0.length C by omega)
    omega
  have hp : xf (Γ0.length + 1) Γ0.length C ≤ v.1 := by omega
  generalize xf (Γ0.length + 1) Γ0.length C = p at *
  have vA : nz t0 n1 s2 h (onz t0 n1 s2 h Γ0) (tAll B C) ≤ s2 + (v.2 + (v.1 - p) * y1 + p * wB) := by
    rw [nz_all]
    have q := vC (h (nz t0 n1 s2 h (onz t0 n1 s2 h Γ0) B))
    have q2 := Nat.mul_le_mul_left p hwB
    omega
  have vZ : ∀ z, nz t0 n1 s2 h (hzx h z (nz t0 n1 s2 h (onz t0 n1 s2 h Γ0) B) :: onz t0 n1 s2 h Γ0) C ≤ v.2 + (v.1 - p) * y1 + p * max z wB := by
    intro z
    have q := vC (hzx h z (nz t0 n1 s2 h (onz t0 n1 s2 h Γ0) B))
    have q2 : hzx h z (nz t0 n1 s2 h (onz t0 n1 s2 h Γ0) B) ≤ max z wB := by
      unfold hzx
      omega
    have q3 := Nat.mul_le_mul_left p q2
    omega
  have vb : nz t0 n1 s2 h (onz t0 n1 s2 h Γ0) b ≤ κ + (s2 + (v.2 + (v.1 - p) * y1 + p * wB)) := by
    have := nσ t0 n1 s2 h (onz t0 n1 s2 h Γ0)
    omega
  have EA1 : 1 ≤ κ + (s2 + (v.2 + (v.1 - p) * y1 + p * wB)) := by omega
  have h0' : ∀ j, j < (b :: Γ0).length → vw (onz t0 n1 s2 h (b :: Γ0)) j ≤ max y1 (hv + (κ + (s2 + (v.2 + (v.1 - p) * y1 + p * wB)))) := by
    intro j hj
    show vw (h (nz t0 n1 s2 h (onz t0 n1 s2 h Γ0) b) :: onz t0 n1 s2 h Γ0) j ≤ _
    rw [vw_cons, l0]
    by_cases e : j = Γ0.length
    · rw [if_pos e]
      have := H1 (nz t0 n1 s2 h (onz t0 n1 s2 h Γ0) b)
      omega
    · rw [if_neg e]
      rw [List.length_cons] at hj
      exact Nat.le_trans (hω j (by rw [l0]; omega)) (Nat.le_max_left _ _)
  obtain ⟨u, hu, u1, hw⟩ := onz_gr T hgr hW (Nat.le_trans x01 (Nat.le_max_left _ _)) h0' Δ1 he.1 q38
  obtain ⟨s, ⟨⟨k1, k2, k3, k4, k5, k6, k7⟩, k8⟩, gq, R⟩ := hT p hp u hu
  have hw' : ∀ j, j < (cxs Δ1 Γ0 b).length → vw (onz t0 n1 s2 h (cxs Δ1 Γ0 b)) j ≤ s.1 := fun j hj => Nat.le_trans (hw j hj) k1
  have y01 : x0 ≤ s.1 := by
    have a1 := Nat.mul_le_mul_right (max y1 (hv + (κ + (s2 + (v.2 + (v.1 - p) * y1 + p * wB))))) u1
    have a2 := Nat.le_max_left y1 (hv + (κ + (s2 + (v.2 + (v.1 - p) * y1 + p * wB))))
    omega
  have hA2 : HS2 t0 n1 s2 h (ebw F W hv s.1 cd (mch t) s.2.2.1 s.2.2.2.1 s.1 s.2.2.2.2.1) (e2w F W hv s.1 cd (mch t) s.2.2.2.2.2) (onz t0 n1 s2 h Γ0) (tAll B C) := by
    refine ⟨B, C, rfl, fun z => ?_, fun z => ?_⟩
    · refine Nat.le_trans (vZ z) ?_
      have a1 : p * max z wB ≤ s.2.2.2.1 * max z s.1 := Nat.mul_le_mul k3 (by omega)
      unfold ebw
      exact le_mx (Or.inl (le_mx (Or.inl (by omega))))
    · have q4 := Zx_leh T (x := max z s.1) (z := z) (ω := hzx h z (nz t0 n1 s2 h (onz t0 n1 s2 h Γ0) B) :: onz t0 n1 s2 h Γ0) (A := C) (by rw [List.length_cons, l0]; exact oC) (by omega) (by omega) (by omega) (fun j hj => by
        rw [vw_cons]
        by_cases e : j = (onz t0 n1 s2 h Γ0).length
        · rw [if_pos e]
          unfold hzx
          omega
        · rw [if_neg e]
          rw [List.length_cons] at hj
          have q := onz_low (t0 := t0) (n1 := n1) (s2 := s2) (h := h) (Γ0 := Γ0) (β := b) Δ1 (j := j) (by rw [l0] at hj e; omega)
          have q2 := hw' j (by rw [cxs_len]; rw [l0] at hj e; omega)
          rw [q] at q2
          omega)
      have q5 := Zx_ms hFm (x := max z s.1) (s := tch C + 2) (s' := s.2.2.2.2.2 + 2) (by omega) (by omega)
      unfold e2w
      exact le_mx (Or.inl (Nat.le_trans q4 q5))
  have few : ∀ (Γ' : List Ty) (B' C' : Ty), ok Γ'.length (tAll B' C') = true → nz t0 n1 s2 h (onz t0 n1 s2 h Γ') (tAll B' C') ≤ s.1 → tch C' ≤ 40 → lmx xr1 (tch C') ≤ ob → lmx fr1 (tch C') ≤ ob → HS2 t0 n1 s2 h (ebw F W hv s.1 cd (mch t) s.2.2.1 s.2.2.2.1 s.1 s.2.2.2.2.1) (e2w F W hv s.1 cd (mch t) s.2.2.2.2.2) (onz t0 n1 s2 h Γ') (tAll B' C') := by
    intro Γ' B' C' o' q c1 c2 c3
    have l2 := onz_len t0 n1 s2 h Γ'
    have oC' := (ok_all.mp o').2
    refine ⟨B', C', rfl, fun z => ?_, fun z => ?_⟩
    · have a1 := sch_rse (t0 := t0) (n1 := n1) (s2 := s2) hm hh (B := B') (C := C') (ω := onz t0 n1 s2 h Γ') (by rw [l2]; exact o') z
      rw [l2] at a1
      have a2 := Nat.mul_le_mul_right z (Nat.le_trans (xf_lx oC' (by omega)) (Nat.le_trans c2 k4))
      unfold ebw
      omega
    · have q4 := nz_flv (t0 := t0) (n1 := n1) (s2 := s2) hm hh (z := z) _ C' (h (nz t0 n1 s2 h (onz t0 n1 s2 h Γ') B') :: onz t0 n1 s2 h Γ') (hzx h z (nz t0 n1 s2 h (onz t0 n1 s2 h Γ') B') :: onz t0 n1 s2 h Γ') z (Nat.le_refl _) (by rw [List.length_cons, List.length_cons]) (by rw [List.length_cons, l2]; exact oC') (Nat.le_refl _) (fun j hj => by
        rw [vw_cons, vw_cons]
        by_cases e : j = (onz t0 n1 s2 h Γ').length
        · rw [if_pos e, if_pos e]
          unfold hzx
          omega
        · rw [if_neg e, if_neg e]
          omega)
      obtain ⟨w0, hw0, hw1⟩ := k8
      have q5 := Zx_mem (x := max z s.1) (frg F s.2.2.2.2.2) w0 hw0
      have q6 : (frg F s.2.2.2.2.2).foldr (fun u a => max (u.2 + u.1 * max z s.1) a) 0 = Zx F (max z s.1) (s.2.2.2.2.2 + 2) := rfl
      rw [q6] at q5
      have q7 : (flv C' + 1) * max z s.1 ≤ w0.1 * max z s.1 := Nat.mul_le_mul_right _ (by have := flv_lmx oC' (Nat.le_refl _) (by omega); omega)
      have q8 : flv C' * z ≤ flv C' * max z s.1 := Nat.mul_le_mul_left _ (Nat.le_max_left _ _)
      have q9 := Nat.le_max_right z s.1
      rw [Nat.add_mul, Nat.one_mul] at q7
      rw [nz_all] at q
      unfold e2w
      exact le_mx (Or.inl (by omega))
  unfold gqx at gq
  rw [Bool.and_eq_true, Bool.and_eq_true, Bool.and_eq_true, Bool.or_eq_true] at gq
  obtain ⟨gk, gy1, gy2, gy3⟩ := gq
  have gy1 := Nat.le_of_ble_eq_true gy1
  have gy2 := Nat.le_of_ble_eq_true gy2
  generalize hYq : Zx F s.1 (max La 3 + 2) = Yq at gk gy1 gy2 gy3
  have go : ∀ Z, AQh t0 n1 s2 h (E2 (X7q F W hv s.1 cd (mch t) s.2.2.1 s.2.2.2.1 s.1 s.2.2.2.2.1) (ebw F W hv s.1 cd (mch t) s.2.2.1 s.2.2.2.1 s.1 s.2.2.2.2.1) (e2w F W hv s.1 cd (mch t) s.2.2.2.2.2)) Z f t [] (onz t0 n1 s2 h (cxs Δ1 Γ0 b)) → HEk t0 n1 s2 h (E2 (X7q F W hv s.1 cd (mch t) s.2.2.1 s.2.2.2.1 s.1 s.2.2.2.2.1) (ebw F W hv s.1 cd (mch t) s.2.2.1 s.2.2.2.1 s.1 s.2.2.2.2.1) (e2w F W hv s.1 cd (mch t) s.2.2.2.2.2)) (cxs Δ1 Γ0 b) (onz t0 n1 s2 h (cxs Δ1 Γ0 b)) → GOk t0 n1 s2 h (E2 (X7q F W hv s.1 cd (mch t) s.2.2.1 s.2.2.2.1 s.1 s.2.2.2.2.1) (ebw F W hv s.1 cd (mch t) s.2.2.1 s.2.2.2.1 s.1 s.2.2.2.2.1) (e2w F W hv s.1 cd (mch t) s.2.2.2.2.2)) f t [] (onz t0 n1 s2 h (cxs Δ1 Γ0 b)) (cxs Δ1 Γ0 b) Δ := by
    intro Z aq hk
    have Yg : ∀ bb, Yq ≤ gyw W Yq bb := by
      intro bb
      have a0 := Zx_mem (x := Yq) (frg W 0) (1, 0) hW
      simp only at a0
      have a1 : Yq ≤ gyw W Yq 0 := by
        show Yq ≤ (frg W 0).foldr (fun u a => max (u.2 + u.1 * Yq) a) 0
        omega
      exact Nat.le_trans a1 (gyw_mono hWm (Nat.zero_le _))
    have xY : x0 ≤ Yq := Nat.le_trans y01 gy1
    have ebb : ∀ z, s.2.2.1 + s.2.2.2.1 * max z s.1 ≤ ebw F W hv s.1 cd (mch t) s.2.2.1 s.2.2.2.1 s.1 s.2.2.2.2.1 z := fun z => by
      unfold ebw
      exact le_mx (Or.inl (le_mx (Or.inl (Nat.le_refl _))))
    have hG := fun A ω bb => gq_E (t0 := t0) (n1 := n1) (s2 := s2) (h := h) (X7 := X7w F W s.1 cd (mch t)) (e2 := e2w F W hv s.1 cd (mch t) s.2.2.2.2.2) T hm hFm Yg ebw_mono e2w_mono ebb gk K30 xY A ω bb
    have hgr' : ∀ (A : Ty) (ω : List Nat) (bb : Nat), ok ω.length A = true → tch A + bb ≤ K → (∀ j, j < ω.length → vw ω j ≤ gyw W Yq bb) → h (nz t0 n1 s2 h ω A) ≤ gyw W Yq (bb + tch A + 4) := fun A ω bb o hk' hw'' => ((dh_ok (un := true) (a5 := 0) (ob := 0) (cd := 0) (wB := 0) (y := Yq) (E0 := 0) (p := 0) (k := 0) (mt := 0) hn hm T hFm hgr hWm hW1 hW H1 (by omega) (by omega) xY).gr A ω bb o (by omega) hw'').1
    have tx := fun (A : Ty) (ω : List Nat) (o : ok ω.length A = true) (hk' : tch A ≤ K + 5) (hw'' : ∀ j, j < ω.length → vw ω j ≤ Yq) => txt_UB (t0 := t0) (n1 := n1) (s2 := s2) (h := h) (E := (E2 (X7q F W hv s.1 cd (mch t) s.2.2.1 s.2.2.2.1 s.1 s.2.2.2.2.1) (ebw F W hv s.1 cd (mch t) s.2.2.1 s.2.2.2.1 s.1 s.2.2.2.2.1) (e2w F W hv s.1 cd (mch t) s.2.2.2.2.2))) (Y := Yq) (K := K) (g := gyw W Yq) (fun b1 b2 hb => gyw_mono hWm hb) (Yg 0) hgr' hG _ A ω 0 (Nat.le_refl _) o (by omega) (fun j hj => Nat.le_trans (hw'' j hj) (Yg 0))
    have wY : ∀ j, j < (cxs Δ1 Γ0 b).length → vw (onz t0 n1 s2 h (cxs Δ1 Γ0 b)) j ≤ Yq := fun j hj => Nat.le_trans (hw' j hj) gy1
    have low : ∀ (Δ' : List Ty) (b1 : Ty) (Γ' : List Ty), cxs Δ1 Γ0 b = Δ' ++ b1 :: Γ' → ∀ j, j < (onz t0 n1 s2 h Γ').length → vw (onz t0 n1 s2 h Γ') j ≤ Yq := by
      intro Δ' b1 Γ' e j hj
      have lo := onz_len t0 n1 s2 h Γ'
      have q := onz_low (t0 := t0) (n1 := n1) (s2 := s2) (h := h) (Γ0 := Γ') (β := b1) Δ' (j := j) (by rw [lo] at hj; exact hj)
      have e' : cxs Δ1 Γ0 b = cxs Δ' Γ' b1 := e
      have q2 := wY j (by rw [e', cxs_len]; rw [lo] at hj; omega)
      rw [e', q] at q2
      exact q2
    have hU : HUB t0 n1 s2 h (E2 (X7q F W hv s.1 cd (mch t) s.2.2.1 s.2.2.2.1 s.1 s.2.2.2.2.1) (ebw F W hv s.1 cd (mch t) s.2.2.1 s.2.2.2.1 s.1 s.2.2.2.2.1) (e2w F W hv s.1 cd (mch t) s.2.2.2.2.2)) Yq (cxs Δ1 Γ0 b) (onz t0 n1 s2 h (cxs Δ1 Γ0 b)) := by
      refine HUB_of he.1 (fun Δ' b1 Γ' e o => ?_)
      have lo := onz_len t0 n1 s2 h Γ'
      have o' : ok (onz t0 n1 s2 h Γ').length b1 = true := by rw [lo]; exact o
      have lw := low Δ' b1 Γ' e
      rcases app_cut Δ1 Δ' e with m | ⟨m1, m2⟩ | m
      · obtain ⟨d, o1, o2⟩ := okc_top Δ1 he.1 b1 m
        exact tx b1 _ o' (by omega) lw
      · subst m1
        subst m2
        refine UB_is2 _ b1 _ (Nat.le_refl _) o' ?_
        have hh' : IS2 (fun s' => UB t0 n1 s2 h (E2 (X7q F W hv s.1 cd (mch t) s.2.2.1 s.2.2.2.1 s.1 s.2.2.2.2.1) (ebw F W hv s.1 cd (mch t) s.2.2.1 s.2.2.2.1 s.1 s.2.2.2.2.1) (e2w F W hv s.1 cd (mch t) s.2.2.2.2.2)) Yq s' (onz t0 n1 s2 h Γ')) b1 := by
          refine IS2_okt _ Γ'.length b1 (Nat.le_refl _) oB (fun s' o3 t3 n3 d3 => ?_) iσ
          rcases d3 with d3 | ⟨d4, d5, d6, d7⟩
          · rw [d3]
            obtain ⟨oBB, oCC⟩ := ok_all.mp oσ
            refine UB_all.mpr ⟨hG B _ 0 (by rw [lo]; exact oBB) (by omega) (fun j hj => Nat.le_trans (lw j hj) (Yg 0)), tx B _ (by rw [lo]; exact oBB) (by omega) lw, fun z hz => ?_⟩
            refine tx C _ (by rw [List.length_cons, lo]; exact oCC) (by omega) (vw_hz lw ?_)
            unfold hzx
            omega
          · exact tx s' _ (by rw [lo]; exact d4) (by omega) lw
        exact hh'
      · obtain ⟨d, o1, o2⟩ := okc_mch oc0 m
        exact tx b1 _ o' (by omega) lw
    have dU : DU t0 n1 s2 h (E2 (X7q F W hv s.1 cd (mch t) s.2.2.1 s.2.2.2.1 s.1 s.2.2.2.2.1) (ebw F W hv s.1 cd (mch t) s.2.2.1 s.2.2.2.1 s.1 s.2.2.2.2.1) (e2w F W hv s.1 cd (mch t) s.2.2.2.2.2)) Yq (onz t0 n1 s2 h (cxs Δ1 Γ0 b)) Δ := by
      intro a ha
      obtain ⟨a1, a2, a3⟩ := he.2.2 a ha
      have ad := dch_mem ha
      have al : a.2.2 ≤ (onz t0 n1 s2 h (cxs Δ1 Γ0 b)).length := by rw [l1]; exact a1
      have ll : ((onz t0 n1 s2 h (cxs Δ1 Γ0 b)).drop ((onz t0 n1 s2 h (cxs Δ1 Γ0 b)).length - a.2.2)).length = a.2.2 := by rw [List.length_drop]; omega
      refine ⟨(onz t0 n1 s2 h (cxs Δ1 Γ0 b)).take ((onz t0 n1 s2 h (cxs Δ1 Γ0 b)).length - a.2.2), (onz t0 n1 s2 h (cxs Δ1 Γ0 b)).drop ((onz t0 n1 s2 h (cxs Δ1 Γ0 b)).length - a.2.2), (List.take_append_drop _ _).symm, ll, ?_⟩
      refine tx a.2.1 _ (by rw [ll]; exact a2) (by omega) (fun j hj => ?_)
      have q := vw_app_lo ((onz t0 n1 s2 h (cxs Δ1 Γ0 b)).take ((onz t0 n1 s2 h (cxs Δ1 Γ0 b)).length - a.2.2)) _ j hj
      rw [List.take_append_drop] at q
      rw [← q]
      exact wY j (by rw [ll] at hj; rw [l1] at al; omega)
    have P0 : TxP t0 n1 s2 h (E2 (X7q F W hv s.1 cd (mch t) s.2.2.1 s.2.2.2.1 s.1 s.2.2.2.2.1) (ebw F W hv s.1 cd (mch t) s.2.2.1 s.2.2.2.1 s.1 s.2.2.2.2.1) (e2w F W hv s.1 cd (mch t) s.2.2.2.2.2)) Yq La s.1 := fun A ω o hk' hw'' => by
      have wq : ∀ j, j < ω.length → vw ω j ≤ Yq := fun j hj => Nat.le_trans (hw'' j hj) gy1
      refine ⟨hG A ω 0 o (by omega) (fun j hj => Nat.le_trans (wq j hj) (Yg 0)), tx A ω o (by omega) wq, ?_⟩
      rw [← hYq]
      exact Nat.le_trans (Zx_le T o (by omega) y01 hw'') (Zx_ms hFm (by omega) (by omega))
    have P1 : TxP t0 n1 s2 h (E2 (X7q F W hv s.1 cd (mch t) s.2.2.1 s.2.2.2.1 s.1 s.2.2.2.2.1) (ebw F W hv s.1 cd (mch t) s.2.2.1 s.2.2.2.1 s.1 s.2.2.2.2.1) (e2w F W hv s.1 cd (mch t) s.2.2.2.2.2)) Yq 3 Yq := fun A ω o hk' hw'' => by
      refine ⟨fun ρ hρ => ?_, tx A ω o (by omega) hw'', Nat.le_trans (Zx_le T o (by omega) xY hw'') (Nat.le_trans (Zx_ms hFm (by omega) (by omega)) gy2)⟩
      rcases two_txt o (by omega) with e | ⟨j, hj, e⟩ | e
      · rw [e]
        cases ρ with
        | nil => exact absurd rfl hρ
        | cons p9 ρ => rw [vz_top]; exact Nat.zero_le _
      · rw [e]
        cases ρ with
        | nil => exact absurd rfl hρ
        | cons p9 ρ => rw [vz_var]; exact Nat.le_refl _
      · rw [e]
        unfold tR0
        cases ρ with
        | nil => exact absurd rfl hρ
        | cons p9 ρ =>
          cases p9 with
          | none => rw [vz_recN, vz_nil]; exact Nat.zero_le _
          | some z9 => rw [vz_recS]; exact Nat.zero_le _
    have h8 : ∀ (B : Ty) (ω : List Nat), ok ω.length B = true → tch B ≤ 4 → (∀ j, j < ω.length → vw ω j ≤ s.1) → h (nz t0 n1 s2 h ω B) ≤ Yq := fun B9 ω o hk' hw'' => by
      have l5 := hLa
      have g3 := gy3.resolve_left (by intro q; have := Nat.le_of_ble_eq_true q; omega)
      have g3 := Nat.le_of_ble_eq_true g3
      have q1 := H1 (nz t0 n1 s2 h ω B9)
      have q2 := Nat.le_trans (Zx_le T o (by omega) y01 hw'') (Zx_ms hFm (x := s.1) (s := tch B9 + 2) (s' := 6) (by omega) (by omega))
      omega
    have w9 : TWf f (cxs Δ1 Γ0 b).length [] t := by
      have q := w
      rw [eD] at q
      exact q
    have nq := NQ_zero0 (t0 := t0) (n1 := n1) (s2 := s2) (h := h) (E := (E2 (X7q F W hv s.1 cd (mch t) s.2.2.1 s.2.2.2.1 s.1 s.2.2.2.2.1) (ebw F W hv s.1 cd (mch t) s.2.2.1 s.2.2.2.1 s.1 s.2.2.2.2.1) (e2w F W hv s.1 cd (mch t) s.2.2.2.2.2))) (Y := Yq) gy1 P0 P1 h8 f (cxs Δ1 Γ0 b).length t (onz t0 n1 s2 h (cxs Δ1 Γ0 b)) [] (mch t) w9 cu l1 (by simp) hM hM16 (fun j hj => hw' j (by rw [l1] at hj; exact hj))
    exact GH_nq hn hm f t [] _ _ Δ w he trivial aq nq dU (onz_cv hn he.1) hk hU
  refine gen_fin6q (un := true) (a5 := a5) (cd := cd) (wB := s.1) (E0 := s.2.2.1) (p := s.2.2.2.1) (ob := s.2.2.2.2.1) (k := s.2.2.2.2.2) (y := s.1) hn hm T hFm hgr hWm hW1 hW H1 w he l1 (Or.inl rfl) hm30 hdc hcd a55 ha5 y01 (fun j hj => hw' j (by rw [l1] at hj; exact hj)) (HE_sfy ebw_mono e2w_mono hm hh hn (Nat.le_trans (Nat.le_max_left _ _) (Nat.le_max_left _ _)) he.1 hw' (fun Δ' b1 Γ' e' o9 w9 q => ?_)) go R hS
  have oth : OBs ob b1 → IS2 (fun s' => HS2 t0 n1 s2 h (ebw F W hv s.1 cd (mch t) s.2.2.1 s.2.2.2.1 s.1 s.2.2.2.2.1) (e2w F W hv s.1 cd (mch t) s.2.2.2.2.2) (onz t0 n1 s2 h Γ') s' ∨ ∀ z, nz t0 n1 s2 h (onz t0 n1 s2 h Γ') s' + flv s' * z ≤ ebw F W hv s.1 cd (mch t) s.2.2.1 s.2.2.2.1 s.1 s.2.2.2.2.1 z) b1 := fun c => by
    refine IS2_sch _ Γ'.length b1 (Nat.le_refl _) o9 (fun B' C' o3 n3 d3 => ?_) c
    obtain ⟨c1, c2, c3⟩ := d3 B' C' rfl
    exact Or.inl (few Γ' B' C' o3 (Nat.le_trans (n3 t0 n1 s2 h _) q) c1 c2 c3)
  rcases app_cut Δ1 Δ' e' with m | ⟨m1, m2⟩ | m
  · exact Or.inr (Or.inr (oth (hb1 b1 m)))
  · subst m1
    subst m2
    refine Or.inr (Or.inr (IS2_sch _ Γ'.length b1 (Nat.le_refl _) oB (fun B' C' o3 n3 d3 => ?_) iσ))
    rcases d3 with d3 | ⟨d4, d5, d6, d7⟩
    · rw [d3]
      exact Or.inl hA2
    · obtain ⟨c1, c2, c3⟩ := hbs B' C' d4 d5 d6
      exact Or.inl (few Γ' B' C' o3 (Nat.le_trans (n3 t0 n1 s2 h _) q) c1 c2 c3)
  · exact Or.inr (Or.inr (oth (hb0 b1 m)))
end PmZv2
section PmZv3
variable {t0 fn s2 hv r0 r1 r2 r3 x0 : Nat} {n1 h : Nat → Nat} {P Q : List (List Nat)} {F G W : FrT} {X : List Nat}
theorem gen_z0qn (hn : NC t0 n1 s2 h) (hm : ∀ y y', y ≤ y' → h y ≤ h y') (hh : ∀ y δ, h (y + δ) ≤ h y + δ) (T : TBs 58 t0 fn s2 hv r0 r1 r2 r3 x0 n1 h P Q F G X) (hFm : frm F = true) (hgr : fgc F W hv = true) (hWm : fgm W = true) (hW1 : fg1s W = true) (hW : (1, 0) ∈ frg W 0) (H1 : ∀ y, h y ≤ hv + max 1 y) {f : Nat} {t S : Ty} {Γ : List Ty} {Δ : List (Nat × Ty × Nat)} {a5 cd Bd : Nat} (w : TWf f Γ.length (Δ.map (fun a => a.1)) t) (he : TE Γ Δ) (cu : TNo f t) (eD : Δ = []) (hm30 : mch t ≤ 30) (hdc : dch Δ ≤ cd) (hcd : cd ≤ 56) (a55 : a5 ≤ 5) (ha5 : Δ ≠ [] → a5 = 0) (hb0 : ∀ b ∈ Γ, IS2 (fun _ => False) b) {K La : Nat} (hLK : La ≤ K) (K30 : K ≤ 30) (kcd : dch Δ ≤ K + 9) (hM : mch t ≤ La + 9) (hM16 : mch t ≤ 17) (hLa : 5 ≤ La) {s : T6} (y01 : x0 ≤ s.1) (hw' : ∀ j, j < Γ.length → vw (onz t0 n1 s2 h Γ) j ≤ s.1) (gq : gqx F W hv K La s = true) (R : dpD true F W a5 hv fn s2 r0 r1 r2 r3 s.2.2.1 s.2.2.2.1 s.1 s.2.2.2.2.1 s.2.2.2.2.2 s.1 cd (mch t) ≤ Bd) (hS : tyF f t Γ Δ = .inr S) : nz t0 n1 s2 h (onz t0 n1 s2 h Γ) S ≤ Bd := by
  have l1 := onz_len t0 n1 s2 h Γ
  unfold gqx at gq
  rw [Bool.and_eq_true, Bool.and_eq_true, Bool.and_eq_true, Bool.or_eq_true] at gq
  obtain ⟨gk, gy1, gy2, gy3⟩ := gq
  have gy1 := Nat.le_of_ble_eq_true gy1
  have gy2 := Nat.le_of_ble_eq_true gy2
  generalize hYq : Zx F s.1 (max La 3 + 2) = Yq at gk gy1 gy2 gy3
  have go : ∀ Z, AQh t0 n1 s2 h (E2 (X7q F W hv s.1 cd (mch t) s.2.2.1 s.2.2.2.1 s.1 s.2.2.2.2.1) (ebw F W hv s.1 cd (mch t) s.2.2.1 s.2.2.2.1 s.1 s.2.2.2.2.1) (e2w F W hv s.1 cd (mch t) s.2.2.2.2.2)) Z f t [] (onz t0 n1 s2 h Γ) → HEk t0 n1 s2 h (E2 (X7q F W hv s.1 cd (mch t) s.2.2.1 s.2.2.2.1 s.1 s.2.2.2.2.1) (ebw F W hv s.1 cd (mch t) s.2.2.1 s.2.2.2.1 s.1 s.2.2.2.2.1) (e2w F W hv s.1 cd (mch t) s.2.2.2.2.2)) Γ (onz t0 n1 s2 h Γ) → GOk t0 n1 s2 h (E2 (X7q F W hv s.1 cd (mch t) s.2.2.1 s.2.2.2.1 s.1 s.2.2.2.2.1) (ebw F W hv s.1 cd (mch t) s.2.2.1 s.2.2.2.1 s.1 s.2.2.2.2.1) (e2w F W hv s.1 cd (mch t) s.2.2.2.2.2)) f t [] (onz t0 n1 s2 h Γ) Γ Δ := by
    intro Z aq hk
    have Yg : ∀ bb, Yq ≤ gyw W Yq bb := by
      intro bb
      have a0 := Zx_mem (x := Yq) (frg W 0) (1, 0) hW
      simp only at a0
      have a1 : Yq ≤ gyw W Yq 0 := by
        show Yq ≤ (frg W 0).foldr (fun u a => max (u.2 + u.1 * Yq) a) 0
        omega
      exact Nat.le_trans a1 (gyw_mono hWm (Nat.zero_le _))
    have xY : x0 ≤ Yq := Nat.le_trans y01 gy1
    have ebb : ∀ z, s.2.2.1 + s.2.2.2.1 * max z s.1 ≤ ebw F W hv s.1 cd (mch t) s.2.2.1 s.2.2.2.1 s.1 s.2.2.2.2.1 z := fun z => by
      unfold ebw
      exact le_mx (Or.inl (le_mx (Or.inl (Nat.le_refl _))))
    have hG := fun A ω bb => gq_E (t0 := t0) (n1 := n1) (s2 := s2) (h := h) (X7 := X7w F W s.1 cd (mch t)) (e2 := e2w F W hv s.1 cd (mch t) s.2.2.2.2.2) T hm hFm Yg ebw_mono e2w_mono ebb gk K30 xY A ω bb
    have hgr' : ∀ (A : Ty) (ω : List Nat) (bb : Nat), ok ω.length A = true → tch A + bb ≤ K → (∀ j, j < ω.length → vw ω j ≤ gyw W Yq bb) → h (nz t0 n1 s2 h ω A) ≤ gyw W Yq (bb + tch A + 4) := fun A ω bb o hk' hw'' => ((dh_ok (un := true) (a5 := 0) (ob := 0) (cd := 0) (wB := 0) (y := Yq) (E0 := 0) (p := 0) (k := 0) (mt := 0) hn hm T hFm hgr hWm hW1 hW H1 (by omega) (by omega) xY).gr A ω bb o (by omega) hw'').1
    have tx := fun (A : Ty) (ω : List Nat) (o : ok ω.length A = true) (hk' : tch A ≤ K + 5) (hw'' : ∀ j, j < ω.length → vw ω j ≤ Yq) => txt_UB (t0 := t0) (n1 := n1) (s2 := s2) (h := h) (E := (E2 (X7q F W hv s.1 cd (mch t) s.2.2.1 s.2.2.2.1 s.1 s.2.2.2.2.1) (ebw F W hv s.1 cd (mch t) s.2.2.1 s.2.2.2.1 s.1 s.2.2.2.2.1) (e2w F W hv s.1 cd (mch t) s.2.2.2.2.2))) (Y := Yq) (K := K) (g := gyw W Yq) (fun b1 b2 hb => gyw_mono hWm hb) (Yg 0) hgr' hG _ A ω 0 (Nat.le_refl _) o (by omega) (fun j hj => Nat.le_trans (hw'' j hj) (Yg 0))
    have wY : ∀ j, j < Γ.length → vw (onz t0 n1 s2 h Γ) j ≤ Yq := fun j hj => Nat.le_trans (hw' j hj) gy1
    have hU : HUB t0 n1 s2 h (E2 (X7q F W hv s.1 cd (mch t) s.2.2.1 s.2.2.2.1 s.1 s.2.2.2.2.1) (ebw F W hv s.1 cd (mch t) s.2.2.1 s.2.2.2.1 s.1 s.2.2.2.2.1) (e2w F W hv s.1 cd (mch t) s.2.2.2.2.2)) Yq Γ (onz t0 n1 s2 h Γ) := by
      refine HUB_of he.1 (fun Δ' b1 Γ' e o => ?_)
      have lo := onz_len t0 n1 s2 h Γ'
      exact UB_is2 _ b1 _ (Nat.le_refl _) (by rw [lo]; exact o) (IS2_okt _ Γ'.length b1 (Nat.le_refl _) o (fun _ _ _ _ p => p.elim) (hb0 b1 (by rw [e]; simp)))
    have dU : DU t0 n1 s2 h (E2 (X7q F W hv s.1 cd (mch t) s.2.2.1 s.2.2.2.1 s.1 s.2.2.2.2.1) (ebw F W hv s.1 cd (mch t) s.2.2.1 s.2.2.2.1 s.1 s.2.2.2.2.1) (e2w F W hv s.1 cd (mch t) s.2.2.2.2.2)) Yq (onz t0 n1 s2 h Γ) Δ := by
      intro a ha
      obtain ⟨a1, a2, a3⟩ := he.2.2 a ha
      have ad := dch_mem ha
      have al : a.2.2 ≤ (onz t0 n1 s2 h Γ).length := by rw [l1]; exact a1
      have ll : ((onz t0 n1 s2 h Γ).drop ((onz t0 n1 s2 h Γ).length - a.2.2)).length = a.2.2 := by rw [List.length_drop]; omega
      refine ⟨(onz t0 n1 s2 h Γ).take ((onz t0 n1 s2 h Γ).length - a.2.2), (onz t0 n1 s2 h Γ).drop ((onz t0 n1 s2 h Γ).length - a.2.2), (List.take_append_drop _ _).symm, ll, ?_⟩
      refine tx a.2.1 _ (by rw [ll]; exact a2) (by omega) (fun j hj => ?_)
      have q := vw_app_lo ((onz t0 n1 s2 h Γ).take ((onz t0 n1 s2 h Γ).length - a.2.2)) _ j hj
      rw [List.take_append_drop] at q
      rw [← q]
      exact wY j (by rw [ll] at hj; rw [l1] at al; omega)
    have P0 : TxP t0 n1 s2 h (E2 (X7q F W hv s.1 cd (mch t) s.2.2.1 s.2.2.2.1 s.1 s.2.2.2.2.1) (ebw F W hv s.1 cd (mch t) s.2.2.1 s.2.2.2.1 s.1 s.2.2.2.2.1) (e2w F W hv s.1 cd (mch t) s.2.2.2.2.2)) Yq La s.1 := fun A ω o hk' hw'' => by
      have wq : ∀ j, j < ω.length → vw ω j ≤ Yq := fun j hj => Nat.le_trans (hw'' j hj) gy1
      refine ⟨hG A ω 0 o (by omega) (fun j hj => Nat.le_trans (wq j hj) (Yg 0)), tx A ω o (by omega) wq, ?_⟩
      rw [← hYq]
      exact Nat.le_trans (Zx_le T o (by omega) y01 hw'') (Zx_ms hFm (by omega) (by omega))
    have P1 : TxP t0 n1 s2 h (E2 (X7q F W hv s.1 cd (mch t) s.2.2.1 s.2.2.2.1 s.1 s.2.2.2.2.1) (ebw F W hv s.1 cd (mch t) s.2.2.1 s.2.2.2.1 s.1 s.2.2.2.2.1) (e2w F W hv s.1 cd (mch t) s.2.2.2.2.2)) Yq 3 Yq := fun A ω o hk' hw'' => by
      refine ⟨fun ρ hρ => ?_, tx A ω o (by omega) hw'', Nat.le_trans (Zx_le T o (by omega) xY hw'') (Nat.le_trans (Zx_ms hFm (by omega) (by omega)) gy2)⟩
      rcases two_txt o (by omega) with e | ⟨j, hj, e⟩ | e
      · rw [e]
        cases ρ with
        | nil => exact absurd rfl hρ
        | cons p9 ρ => rw [vz_top]; exact Nat.zero_le _
      · rw [e]
        cases ρ with
        | nil => exact absurd rfl hρ
        | cons p9 ρ => rw [vz_var]; exact Nat.le_refl _
      · rw [e]
        unfold tR0
        cases ρ with
        | nil => exact absurd rfl hρ
        | cons p9 ρ =>
          cases p9 with
          | none => rw [vz_recN, vz_nil]; exact Nat.zero_le _
          | some z9 => rw [vz_recS]; exact Nat.zero_le _
    have h8 : ∀ (B : Ty) (ω : List Nat), ok ω.length B = true → tch B ≤ 4 → (∀ j, j < ω.length → vw ω j ≤ s.1) → h (nz t0 n1 s2 h ω B) ≤ Yq := fun B9 ω o hk' hw'' => by
      have l5 := hLa
      have g3 := gy3.resolve_left (by intro q; have := Nat.le_of_ble_eq_true q; omega)
      have g3 := Nat.le_of_ble_eq_true g3
      have q1 := H1 (nz t0 n1 s2 h ω B9)
      have q2 := Nat.le_trans (Zx_le T o (by omega) y01 hw'') (Zx_ms hFm (x := s.1) (s := tch B9 + 2) (s' := 6) (by omega) (by omega))
      omega
    have w9 : TWf f Γ.length [] t := by
      have q := w
      rw [eD] at q
      exact q
    have nq := NQ_zero0 (t0 := t0) (n1 := n1) (s2 := s2) (h := h) (E := (E2 (X7q F W hv s.1 cd (mch t) s.2.2.1 s.2.2.2.1 s.1 s.2.2.2.2.1) (ebw F W hv s.1 cd (mch t) s.2.2.1 s.2.2.2.1 s.1 s.2.2.2.2.1) (e2w F W hv s.1 cd (mch t) s.2.2.2.2.2))) (Y := Yq) gy1 P0 P1 h8 f Γ.length t (onz t0 n1 s2 h Γ) [] (mch t) w9 cu l1 (by simp) hM hM16 (fun j hj => hw' j (by rw [l1] at hj; exact hj))
    exact GH_nq hn hm f t [] _ _ Δ w he trivial aq nq dU (onz_cv hn he.1) hk hU
  refine gen_fin6q (un := true) (a5 := a5) (cd := cd) (wB := s.1) (E0 := s.2.2.1) (p := s.2.2.2.1) (ob := s.2.2.2.2.1) (k := s.2.2.2.2.2) (y := s.1) hn hm T hFm hgr hWm hW1 hW H1 w he l1 (Or.inl rfl) hm30 hdc hcd a55 ha5 y01 (fun j hj => hw' j (by rw [l1] at hj; exact hj)) (HE_sfy ebw_mono e2w_mono hm hh hn (Nat.le_trans (Nat.le_max_left _ _) (Nat.le_max_left _ _)) he.1 hw' (fun Δ' b1 Γ' e' o9 _ _ => Or.inr (Or.inr (IS2_okt _ _ b1 (Nat.le_refl _) o9 (fun _ _ _ _ p => p.elim) (hb0 b1 (by rw [e']; simp)))))) go R hS
end PmZv3
def lnqn (L : LnT) (F W : FrT) (hv fn s2 r0 r1 r2 r3 Bd m K La : Nat) : Bool := (lng L 0).all (fun s => gqx F W hv K La s && Nat.ble (dpD true F W 5 hv fn s2 r0 r1 r2 r3 s.2.2.1 s.2.2.2.1 s.1 s.2.2.2.2.1 s.2.2.2.2.2 s.1 0 m) Bd)
theorem lnqn_get {L : LnT} {F W : FrT} {hv fn s2 r0 r1 r2 r3 Bd m K La : Nat} (h : lnqn L F W hv fn s2 r0 r1 r2 r3 Bd m K La = true) {s : T6} (hs : s ∈ lng L 0) : gqx F W hv K La s = true ∧ dpD true F W 5 hv fn s2 r0 r1 r2 r3 s.2.2.1 s.2.2.2.1 s.1 s.2.2.2.2.1 s.2.2.2.2.2 s.1 0 m ≤ Bd := by
  have q := List.all_eq_true.mp h s hs
  rw [Bool.and_eq_true] at q
  exact ⟨q.1, Nat.le_of_ble_eq_true q.2⟩
section PmZv4
variable {f : Nat} {t b b' B C : Ty} {Γ0 Δ1 : List Ty} {Δ : List (Nat × Ty × Nat)} {e : Bool} {LR LG : LnT}
theorem zone_jqn {VR VG : FrT} (fR : ∃ v ∈ frg VR (tch C), xt (Γ0.length + 1) C ≤ v.1 ∧ xa 0 (fun _ => 1 + 1) 3 1 (Γ0.length + 1) C ≤ v.2) (fG : ∃ v ∈ frg VG (tch C), xt (Γ0.length + 1) C ≤ v.1 ∧ xa 1 ngc 1 0 (Γ0.length + 1) C ≤ v.2) (lb : LBd Γ0 Δ1 b b' B C) (w : TWf f (cxs Δ1 Γ0 b).length (Δ.map (fun a => a.1)) t) (he : TE (cxs Δ1 Γ0 b) Δ) (cu : TNo f t) (eD : Δ = []) {K La : Nat} (hLK : La ≤ K) (K30 : K ≤ 30) (kB : tch B ≤ K) (kC : tch C ≤ K + 5) (kq1 : cch Γ0 ≤ K + 9) (kq2 : cch Δ1 ≤ K + 9) (kov : tch b ≤ tch (tAll B C) + K + 10) (hM : mch t ≤ La + 9) (hM16 : mch t ≤ 17) (hLa : 5 ≤ La) (zR : liz LR VR fr1 fg1 1 3 (kpz fr1 0 (max 1 (fx1.getD (cch Γ0) 0)) (tch b - tch (tAll B C))) (wbz fr1 1 (max 1 (fx1.getD (cch Γ0) 0)) (tch B)) (max 1 (fx1.getD (cch Γ0) 0)) (ojy (tch C) (tch b - tch (tAll B C)) (cch Γ0) (cch Δ1)) (tch C) (cch Δ1) 0 = true) (zG : liz LG VG frq fgq 0 1 (kpz frq 1 (max 1 (fxq.getD (cch Γ0) 0)) (tch b - tch (tAll B C))) (wbz frq 0 (max 1 (fxq.getD (cch Γ0) 0)) (tch B)) (max 1 (fxq.getD (cch Γ0) 0)) (ojy (tch C) (tch b - tch (tAll B C)) (cch Γ0) (cch Δ1)) (tch C) (cch Δ1) 0 = true) (tR : lnqn LR fr1 fg1 1 2 3 2 2 2 2 887 (mch t) K La = true) (tG : lnqn LG frq fgq 0 1 1 1 3 2 1 597 (mch t) K La = true) (m30 : mch t ≤ 30) (h47 : cch (cxs Δ1 Γ0 b) ≤ 47) (q38 : cch Δ1 ≤ 38) : NtV (cxs Δ1 Γ0 b) Δ f t 887 597 := by
  obtain ⟨ds, eT, eB, k40, i0, i1⟩ := lb
  obtain ⟨oc0, oB⟩ := okc_low Δ1 he.1
  have ec := cch_cx (Γ0 := Γ0) (β := b) Δ1
  have oσ := ds.2.1
  have oBB := (ok_all.mp oσ).1
  have oC := (ok_all.mp oσ).2
  have pB := tch_pos oBB
  have pC := tch_pos oC
  have cσ := ds.ch
  have pb' := ds.2.2.1
  have eσ := tch_all B C
  have b0 : ∀ a ∈ Γ0, OBs (ojy (tch C) (tch b - tch (tAll B C)) (cch Γ0) (cch Δ1)) a := fun a ha => by
    obtain ⟨d, o1, o2⟩ := okc_mch oc0 ha
    exact OBs_of o1 o2 k40 (i0 a ha) (Nat.le_max_left _ _)
  have b1 : ∀ a ∈ Δ1, OBs (ojy (tch C) (tch b - tch (tAll B C)) (cch Γ0) (cch Δ1)) a := fun a ha => by
    obtain ⟨d, o1, o2⟩ := okc_top Δ1 he.1 a ha
    exact OBs_of o1 o2 k40 (i1 a ha) (Nat.le_trans (Nat.le_max_left _ _) (Nat.le_max_right _ _))
  have bs : ∀ B' C', ok Γ0.length (tAll B' C') = true → tch C' ≤ tch C → tch (tAll B' C') + tch (tAll B C) + 5 ≤ tch b → tch C' ≤ 40 ∧ lmx xr1 (tch C') ≤ ojy (tch C) (tch b - tch (tAll B C)) (cch Γ0) (cch Δ1) ∧ lmx fr1 (tch C') ≤ ojy (tch C) (tch b - tch (tAll B C)) (cch Γ0) (cch Δ1) := by
    intro B' C' o' l1 l2
    have p1 := tch_pos (ok_all.mp o').1
    have e1 := tch_all B' C'
    have m1 := lmx_mono fr1 (show tch C' ≤ min (tch C) (tch b - tch (tAll B C) - 10) by omega)
    have m2 := lmx_xf (tch C') (by omega)
    have m3 : lmx fr1 (min (tch C) (tch b - tch (tAll B C) - 10)) ≤ ojy (tch C) (tch b - tch (tAll B C)) (cch Γ0) (cch Δ1) := Nat.le_trans (Nat.le_max_right _ _) (Nat.le_max_right _ _)
    exact ⟨by omega, by omega, by omega⟩
  refine fun S hS => ⟨fun d => ?_, ?_⟩
  · have T := tbs1 d
    have l0 := onz_len 0 (fun _ => 1 + 1) (2 + 1) (vlr d 1) Γ0
    have hω : ∀ j, j < (onz 0 (fun _ => 1 + 1) (2 + 1) (vlr d 1) Γ0).length → vw (onz 0 (fun _ => 1 + 1) (2 + 1) (vlr d 1) Γ0) j ≤ max 1 (fx1.getD (cch Γ0) 0) := fun j hj => Nat.le_trans (onz_chars (n1 := fun _ => 1 + 1) T.1 T.2.1 T.2.2.1 T.2.2.2.1 T.2.2.2.2.1 Γ0 oc0 (by omega) j (by rw [l0] at hj; exact hj)) (Nat.le_max_right _ _)
    obtain ⟨v, hv, f1, f2⟩ := fR
    have hκ : nz 0 (fun _ => 1 + 1) (2 + 1) (vlr d 1) (onz 0 (fun _ => 1 + 1) (2 + 1) (vlr d 1) Γ0) b' ≤ kpz fr1 0 (max 1 (fx1.getD (cch Γ0) 0)) (tch b - tch (tAll B C)) := by
      unfold kpz
      by_cases q : tch b - tch (tAll B C) = 0
      · rw [if_pos (show Nat.beq (tch b - tch (tAll B C)) 0 = true by rw [q]; rfl)]
        rw [eT (by omega), nz_top]
        exact Nat.le_refl _
      · rw [if_neg (by intro q'; exact q (Nat.eq_of_beq_eq_true q'))]
        exact Nat.le_trans (Zx_le T (x := max 1 (fx1.getD (cch Γ0) 0)) (A := b') (by rw [l0]; exact ds.1) (by omega) (Nat.le_max_left _ _) hω) (Zx_ms fr1_m (by omega) (by omega))
    have hwB : vlr d 1 (nz 0 (fun _ => 1 + 1) (2 + 1) (vlr d 1) (onz 0 (fun _ => 1 + 1) (2 + 1) (vlr d 1) Γ0) B) ≤ wbz fr1 1 (max 1 (fx1.getD (cch Γ0) 0)) (tch B) := by
      have q2 := vlr_one d (nz 0 (fun _ => 1 + 1) (2 + 1) (vlr d 1) (onz 0 (fun _ => 1 + 1) (2 + 1) (vlr d 1) Γ0) B)
      unfold wbz
      by_cases q : tch B = 1
      · rw [if_pos (show Nat.beq (tch B) 1 = true by rw [q]; rfl)]
        rw [eB q, nz_top] at q2 ⊢
        omega
      · rw [if_neg (by intro q'; exact q (Nat.eq_of_beq_eq_true q'))]
        have q3 : nz 0 (fun _ => 1 + 1) (2 + 1) (vlr d 1) (onz 0 (fun _ => 1 + 1) (2 + 1) (vlr d 1) Γ0) B ≤ Zx fr1 (max 1 (fx1.getD (cch Γ0) 0)) (tch B + 2) := Zx_le T (by rw [l0]; exact oBB) (by omega) (Nat.le_max_left _ _) hω
        generalize nz 0 (fun _ => 1 + 1) (2 + 1) (vlr d 1) (onz 0 (fun _ => 1 + 1) (2 + 1) (vlr d 1) Γ0) B = n9 at *
        generalize Zx fr1 (max 1 (fx1.getD (cch Γ0) 0)) (tch B + 2) = z9 at *
        omega
    refine gen_zjqn (a5 := 5) (cd := 0) (NC_rows d 1) (vlr_mono d 1) (vlr_lip d 1) T fr1_m fg1_ok fg1_m fg1s_1 (by decide) (vlr_one d) (by decide) ds w he cu eD (by omega) (by rw [eD]; exact Nat.le_refl _) (Nat.zero_le _) (Nat.le_refl _) (fun e => absurd eD e) b0 b1 bs q38 (by omega) (Nat.le_refl _) hκ hwB f1 f2 hLK K30 kB kC kq1 kq2 kov (by rw [eD]; exact Nat.zero_le _) hM hM16 hLa (fun p hp u hu => ?_) hS
    obtain ⟨s, m, q⟩ := liz_get zR v hv p hp u hu
    exact ⟨s, q, lnqn_get tR m⟩
  · have T := tbsq
    have l0 := onz_len 1 ngc 1 (fun x => x) Γ0
    have hω : ∀ j, j < (onz 1 ngc 1 (fun x => x) Γ0).length → vw (onz 1 ngc 1 (fun x => x) Γ0) j ≤ max 1 (fxq.getD (cch Γ0) 0) := fun j hj => Nat.le_trans (onz_chars (n1 := ngc) T.1 T.2.1 T.2.2.1 T.2.2.2.1 T.2.2.2.2.1 Γ0 oc0 (by omega) j (by rw [l0] at hj; exact hj)) (Nat.le_max_right _ _)
    obtain ⟨v, hv, f1, f2⟩ := fG
    have hκ : nz 1 ngc 1 (fun x => x) (onz 1 ngc 1 (fun x => x) Γ0) b' ≤ kpz frq 1 (max 1 (fxq.getD (cch Γ0) 0)) (tch b - tch (tAll B C)) := by
      unfold kpz
      by_cases q : tch b - tch (tAll B C) = 0
      · rw [if_pos (show Nat.beq (tch b - tch (tAll B C)) 0 = true by rw [q]; rfl)]
        rw [eT (by omega), nz_top]
        exact Nat.le_refl _
      · rw [if_neg (by intro q'; exact q (Nat.eq_of_beq_eq_true q'))]
        exact Nat.le_trans (Zx_le T (x := max 1 (fxq.getD (cch Γ0) 0)) (A := b') (by rw [l0]; exact ds.1) (by omega) (Nat.le_max_left _ _) hω) (Zx_ms frq_m (by omega) (by omega))
    have hwB : (fun x : Nat => x) (nz 1 ngc 1 (fun x => x) (onz 1 ngc 1 (fun x => x) Γ0) B) ≤ wbz frq 0 (max 1 (fxq.getD (cch Γ0) 0)) (tch B) := by
      show nz 1 ngc 1 (fun x => x) (onz 1 ngc 1 (fun x => x) Γ0) B ≤ _
      unfold wbz
      by_cases q : tch B = 1
      · rw [if_pos (show Nat.beq (tch B) 1 = true by rw [q]; rfl)]
        rw [eB q, nz_top]
        omega
      · rw [if_neg (by intro q'; exact q (Nat.eq_of_beq_eq_true q'))]
        have q3 : nz 1 ngc 1 (fun x => x) (onz 1 ngc 1 (fun x => x) Γ0) B ≤ Zx frq (max 1 (fxq.getD (cch Γ0) 0)) (tch B + 2) := Zx_le T (by rw [l0]; exact oBB) (by omega) (Nat.le_max_left _ _) hω
        generalize nz 1 ngc 1 (fun x => x) (onz 1 ngc 1 (fun x => x) Γ0) B = n9 at *
        generalize Zx frq (max 1 (fxq.getD (cch Γ0) 0)) (tch B + 2) = z9 at *
        omega
    refine gen_zjqn (a5 := 5) (cd := 0) NC_goals (fun y y' hy => hy) (fun y δ => Nat.le_refl _) T frq_m fgq_ok fgq_m fg1s_q (by decide) (fun y => by show y ≤ 0 + max 1 y; omega) (by decide) ds w he cu eD (by omega) (by rw [eD]; exact Nat.le_refl _) (Nat.zero_le _) (Nat.le_refl _) (fun e => absurd eD e) b0 b1 bs q38 (by omega) (Nat.le_refl _) hκ hwB f1 f2 hLK K30 kB kC kq1 kq2 kov (by rw [eD]; exact Nat.zero_le _) hM hM16 hLa (fun p hp u hu => ?_) hS
    obtain ⟨s, m, q⟩ := liz_get zG v hv p hp u hu
    exact ⟨s, q, lnqn_get tG m⟩
end PmZv4
section PmZv5
variable {f : Nat} {t : Ty} {Γ : List Ty} {Δ : List (Nat × Ty × Nat)}
theorem zone_0qn (w : TWf f Γ.length (Δ.map (fun a => a.1)) t) (he : TE Γ Δ) (cu : TNo f t) (eD : Δ = []) (hb0 : ∀ b ∈ Γ, IS2 (fun _ => False) b) {K La : Nat} (hLK : La ≤ K) (K30 : K ≤ 30) (hM : mch t ≤ La + 9) (hM16 : mch t ≤ 17) (hLa : 5 ≤ La) {sR sG : T6} (yR : max 1 (fx1.getD (cch Γ) 0) ≤ sR.1) (yG : max 1 (fxq.getD (cch Γ) 0) ≤ sG.1) (tR : lnqn [[sR]] fr1 fg1 1 2 3 2 2 2 2 887 (mch t) K La = true) (tG : lnqn [[sG]] frq fgq 0 1 1 1 3 2 1 597 (mch t) K La = true) (m30 : mch t ≤ 30) (c56 : cch Γ ≤ 56) : NtV Γ Δ f t 887 597 := by
  have gR := lnqn_get tR (s := sR) (List.mem_singleton.mpr rfl)
  have gG := lnqn_get tG (s := sG) (List.mem_singleton.mpr rfl)
  refine fun S hS => ⟨fun d => ?_, ?_⟩
  · exact gen_z0qn (a5 := 5) (cd := 0) (NC_rows d 1) (vlr_mono d 1) (vlr_lip d 1) (tbs1 d) fr1_m fg1_ok fg1_m fg1s_1 (by decide) (vlr_one d) w he cu eD m30 (by rw [eD]; exact Nat.le_refl _) (Nat.zero_le _) (Nat.le_refl _) (fun e => absurd eD e) hb0 hLK K30 (by rw [eD]; exact Nat.zero_le _) hM hM16 hLa (Nat.le_trans (Nat.le_max_left _ _) yR) (fun j hj => Nat.le_trans (onz_chars (n1 := fun _ => 1 + 1) (tbs1 d).1 (tbs1 d).2.1 (tbs1 d).2.2.1 (tbs1 d).2.2.2.1 (tbs1 d).2.2.2.2.1 Γ he.1 c56 j hj) (Nat.le_trans (Nat.le_max_right _ _) yR)) gR.1 gR.2 hS
  · exact gen_z0qn (a5 := 5) (cd := 0) NC_goals (fun y y' hy => hy) (fun y δ => Nat.le_refl _) tbsq frq_m fgq_ok fgq_m fg1s_q (by decide) (fun y => by show y ≤ 0 + max 1 y; omega) w he cu eD m30 (by rw [eD]; exact Nat.le_refl _) (Nat.zero_le _) (Nat.le_refl _) (fun e => absurd eD e) hb0 hLK K30 (by rw [eD]; exact Nat.zero_le _) hM hM16 hLa (Nat.le_trans (Nat.le_max_left _ _) yG) (fun j hj => Nat.le_trans (onz_chars (n1 := ngc) tbsq.1 tbsq.2.1 tbsq.2.2.1 tbsq.2.2.2.1 tbsq.2.2.2.2.1 Γ he.1 c56 j hj) (Nat.le_trans (Nat.le_max_right _ _) yG)) gG.1 gG.2 hS
end PmZv5
