/-! A CHOICE THAT IS INSTANCED, the bound [], the body not holding it: it cannot be typed. -/
/-- a: a scheme with bound [], b: a choice, c: an operation -/
theorem chr_min8 : ∀ (f D : Nat) (sc : List Nat) (t : Ty), TWf f D sc t → ∃ a b c, 1 + a + b + c ≤ mch t ∧ (NHt 8 f t ∨ 6 ≤ a) ∧ (CFt f t ∨ 3 ≤ b) ∧ (NOp f t ∨ 2 ≤ c)
  | 0, _, _, _, h => h.elim
  | f + 1, D, sc, t, h => by
    have ih := fun D sc t => chr_min8 f D sc t
    obtain ⟨⟨kk, e, nl, -⟩, -, w6, w7, w8, w9, w10, w11, -⟩ := h
    have em := mch_is e
    by_cases k5 : nKd t = 5
    · rw [if_pos k5] at em
      exact ⟨0, 0, 0, by omega, Or.inl ⟨fun c => by omega, fun c => by omega, fun c => by omega, fun c => by omega, fun c => by omega, fun c => by omega⟩, Or.inl ⟨fun c => by omega, fun c => by omega, fun c => by omega, by omega⟩, Or.inl ⟨fun c => by omega, by omega, fun c => by omega, fun c => by omega⟩⟩
    rw [if_neg k5] at em
    by_cases k6 : nKd t = 6
    · rw [if_pos (Or.inl k6)] at em
      obtain ⟨-, o, -, wy⟩ := w6 k6
      obtain ⟨a, b, c, l, h1, h2, h3⟩ := ih _ _ _ wy
      have B : CFt (f + 1) t ∨ 3 ≤ b := h2.imp (fun q => ⟨fun _ => q, fun c => by omega, fun c => by omega, by omega⟩) id
      have C : NOp (f + 1) t ∨ 2 ≤ c := h3.imp (fun q => ⟨fun _ => q, by omega, fun c => by omega, fun c => by omega⟩) id
      by_cases n : noh 8 (nX t) = true
      · exact ⟨a, b, c, by omega, h1.imp (fun q => ⟨fun _ => ⟨n, q⟩, fun c => by omega, fun c => by omega, fun c => by omega, fun c => by omega, fun c => by omega⟩) id, B, C⟩
      · have := noh8_seven _ _ _ (Nat.le_refl _) o (by simpa using n)
        exact ⟨6, b, c, by omega, Or.inr (Nat.le_refl _), B, C⟩
    by_cases k8 : nKd t = 8
    · rw [if_pos (Or.inr k8)] at em
      obtain ⟨o, -, wy⟩ := w8 k8
      obtain ⟨a, b, c, l, h1, h2, h3⟩ := ih _ _ _ wy
      have p := tch_pos o
      have B : CFt (f + 1) t ∨ 3 ≤ b := h2.imp (fun q => ⟨fun _ => q, fun c => by omega, fun c => by omega, by omega⟩) id
      have C : NOp (f + 1) t ∨ 2 ≤ c := h3.imp (fun q => ⟨fun _ => q, by omega, fun c => by omega, fun c => by omega⟩) id
      by_cases n : noh 8 (nX t) = true
      · by_cases h8 : hd (nX t) = 8
        · have t2 : 2 ≤ tch (nX t) := Classical.byContradiction (fun c1 => by
            rcases one_txt o (by omega) with e | ⟨j, -, e⟩
            · rw [e] at h8; exact absurd h8 (by decide)
            · rw [e, hd_var] at h8; omega)
          exact ⟨6, b, c, by omega, Or.inr (Nat.le_refl _), B, C⟩
        · exact ⟨a, b, c, by omega, h1.imp (fun q => ⟨fun c => by omega, fun c => by omega, fun _ => ⟨⟨n, h8⟩, q⟩, fun c => by omega, fun c => by omega, fun c => by omega⟩) id, B, C⟩
      · have := noh8_seven _ _ _ (Nat.le_refl _) o (by simpa using n)
        exact ⟨6, b, c, by omega, Or.inr (Nat.le_refl _), B, C⟩
    rw [if_neg (by omega)] at em
    by_cases k9 : nKd t = 9
    · rw [if_pos k9] at em
      obtain ⟨wx, o, -⟩ := w9 k9
      obtain ⟨a, b, c, l, h1, h2, h3⟩ := ih _ _ _ wx
      have p := tch_pos o
      have B : CFt (f + 1) t ∨ 3 ≤ b := h2.imp (fun q => ⟨fun c => by omega, fun _ => q, fun c => by omega, by omega⟩) id
      by_cases n : noh 8 (nY t) = true
      · exact ⟨a, b, 2, by omega, h1.imp (fun q => ⟨fun c => by omega, fun c => by omega, fun c => by omega, fun _ => ⟨q, n⟩, fun c => by omega, fun c => by omega⟩) id, B, Or.inr (Nat.le_refl _)⟩
      · have := noh8_seven _ _ _ (Nat.le_refl _) o (by simpa using n)
        exact ⟨6, b, 2, by omega, Or.inr (Nat.le_refl _), B, Or.inr (Nat.le_refl _)⟩
    rw [if_neg k9] at em
    by_cases k10 : nKd t = 10
    · rw [if_pos k10] at em
      have part : ∀ g, g < 3 → ∃ a b c, a + b + c ≤ mch (nP t g) ∧ (bit (nMk t) g = true → (NHt 8 f (nP t g) ∨ 6 ≤ a) ∧ (CFt f (nP t g) ∨ 3 ≤ b) ∧ (NOp f (nP t g) ∨ 2 ≤ c)) := by
        intro g hg
        by_cases q : bit (nMk t) g = true
        · obtain ⟨a, b, c, l, h1, h2, h3⟩ := ih _ _ _ ((w10 k10).2 g hg q)
          exact ⟨a, b, c, by omega, fun _ => ⟨h1, h2, h3⟩⟩
        · exact ⟨0, 0, 0, Nat.zero_le _, fun c => absurd c q⟩
      obtain ⟨a0, b0, c0, l0, p0⟩ := part 0 (by decide)
      obtain ⟨a1, b1, c1, l1, p1⟩ := part 1 (by decide)
      obtain ⟨a2, b2, c2, l2, p2⟩ := part 2 (by decide)
      have l0 : a0 + b0 + c0 ≤ mch (nX t) := l0
      have l1 : a1 + b1 + c1 ≤ mch (nY t) := l1
      have l2 : a2 + b2 + c2 ≤ mch (nZ t) := l2
      have one : 1 ≤ (if nMk t = 0 then 2 else 1 + 3 * nlb (nMk t)) := by split <;> omega
      have all : ∀ (P : Nat → Prop) (n : Nat) (x0 x1 x2 : Nat), (bit (nMk t) 0 = true → P 0 ∨ n ≤ x0) → (bit (nMk t) 1 = true → P 1 ∨ n ≤ x1) → (bit (nMk t) 2 = true → P 2 ∨ n ≤ x2) → (∀ g, g < 3 → bit (nMk t) g = true → P g) ∨ n ≤ x0 + x1 + x2 := by
        intro P n x0 x1 x2 q0 q1 q2
        by_cases c : n ≤ x0 + x1 + x2
        · exact Or.inr c
        · refine Or.inl (fun g hg hb => ?_)
          match g, hg, hb with
          | 0, _, hb => exact (q0 hb).resolve_right (by omega)
          | 1, _, hb => exact (q1 hb).resolve_right (by omega)
          | 2, _, hb => exact (q2 hb).resolve_right (by omega)
      refine ⟨a0 + a1 + a2, b0 + b1 + b2, c0 + c1 + c2, by omega, ?_, ?_, ?_⟩
      · exact (all (fun g => NHt 8 f (nP t g)) 6 a0 a1 a2 (fun h => (p0 h).1) (fun h => (p1 h).1) (fun h => (p2 h).1)).imp (fun q => ⟨fun c => by omega, fun c => by omega, fun c => by omega, fun c => by omega, fun _ => q, fun c => by omega⟩) id
      · exact (all (fun g => CFt f (nP t g)) 3 b0 b1 b2 (fun h => (p0 h).2.1) (fun h => (p1 h).2.1) (fun h => (p2 h).2.1)).imp (fun q => ⟨fun c => by omega, fun c => by omega, fun _ => q, by omega⟩) id
      · exact (all (fun g => NOp f (nP t g)) 2 c0 c1 c2 (fun h => (p0 h).2.2) (fun h => (p1 h).2.2) (fun h => (p2 h).2.2)).imp (fun q => ⟨fun c => by omega, by omega, fun _ => q, fun c => by omega⟩) id
    rw [if_neg k10] at em
    by_cases k11 : nKd t = 11
    · obtain ⟨-, wx⟩ := w11 k11
      obtain ⟨a, b, c, l, h1, h2, h3⟩ := ih _ _ _ wx
      exact ⟨a, b, 2, by omega, h1.imp (fun q => ⟨fun c => by omega, fun c => by omega, fun c => by omega, fun c => by omega, fun c => by omega, fun _ => q⟩) id, h2.imp (fun q => ⟨fun c => by omega, fun _ => q, fun c => by omega, by omega⟩) id, Or.inr (Nat.le_refl _)⟩
    have k7 : nKd t = 7 ∨ nKd t = 12 := by omega
    obtain ⟨wx, wy⟩ := w7 k7
    obtain ⟨a, b, c, l, h1, h2, h3⟩ := ih _ _ _ wx
    obtain ⟨a', b', c', l', h1', h2', h3'⟩ := ih _ _ _ wy
    have A : NHt 8 (f + 1) t ∨ 6 ≤ a + a' := by
      rcases h1 with q | q
      · rcases h1' with q' | q'
        · exact Or.inl ⟨fun c => by omega, fun _ => ⟨q, q'⟩, fun c => by omega, fun c => by omega, fun c => by omega, fun c => by omega⟩
        · exact Or.inr (by omega)
      · exact Or.inr (by omega)
    rcases k7 with k7 | k7
    · exact ⟨a + a', b, 2, by omega, A, h2.imp (fun q => ⟨fun c => by omega, fun _ => q, fun c => by omega, by omega⟩) id, Or.inr (Nat.le_refl _)⟩
    · refine ⟨a + a', 3, c + c', by omega, A, Or.inr (Nat.le_refl _), ?_⟩
      rcases h3 with q | q
      · rcases h3' with q' | q'
        · exact Or.inl ⟨fun c => by omega, by omega, fun c => by omega, fun _ => ⟨q, q'⟩⟩
        · exact Or.inr (by omega)
      · exact Or.inr (by omega)

section PmZd1
variable {f D p : Nat} {u v w s : Ty}
theorem nm_mk (w : TWf f D [p] v) (k5 : nKd v = 5) : nMk v = p := by
  cases f with
  | zero => exact w.elim
  | succ f => exact List.mem_singleton.mp (w.2.1 k5)
/-- what is not free of a choice on the way, in at most seven characters -/
theorem sh_ncf (w : TWf (f + 1) D [p] u) (tn : TNo (f + 1) u) (nc : ¬ CFt (f + 1) u) (m7 : mch u ≤ 7) : (nKd u = 12 ∧ (TWf f D [p] (nX u) ∧ TNo f (nX u)) ∧ (TWf f D [p] (nY u) ∧ TNo f (nY u)) ∧ mch (nX u) + mch (nY u) + 2 = mch u ∧ ¬ (nKd (nX u) = 5 ∧ nKd (nY u) = 5)) ∨ ((nKd u = 9 ∨ nKd u = 11) ∧ TWf f D [p] (nX u) ∧ TNo f (nX u) ∧ ¬ CFt f (nX u) ∧ mch (nX u) ≤ 5) := by
  obtain ⟨w0, w5, w6, w7, w8, w9, w10, w11, w12⟩ := w
  obtain ⟨n6, n7, n9, n10, n12⟩ := tn
  have em := mch_is w0.2.1
  rcases (show nKd u = 5 ∨ nKd u = 6 ∨ nKd u = 7 ∨ nKd u = 8 ∨ nKd u = 9 ∨ nKd u = 10 ∨ nKd u = 11 ∨ nKd u = 12 by omega) with c | c | c | c | c | c | c | c
  · exact absurd ⟨fun k => by omega, fun k => by omega, fun k => by omega, by omega⟩ nc
  · exfalso
    obtain ⟨-, x1, x2, x3⟩ := w6 c
    rw [if_neg (by omega), if_pos (Or.inl c)] at em
    have := tch_pos x1
    refine nc ⟨fun _ => Classical.byContradiction (fun n => ?_), fun k => by omega, fun k => by omega, by omega⟩
    have := ncf_four _ _ _ _ x3 n
    omega
  · exfalso
    obtain ⟨x1, x2⟩ := w7 (Or.inl c)
    rw [if_neg (by omega), if_neg (by omega), if_neg (by omega), if_neg (by omega)] at em
    have := mch_pos' x2
    refine nc ⟨fun k => by omega, fun _ => Classical.byContradiction (fun n => ?_), fun k => by omega, by omega⟩
    have := ((chr_one _ _ _ _ x1 (n7 (Or.inl c)).1).1).resolve_left n
    omega
  · exfalso
    obtain ⟨x1, x2, x3⟩ := w8 c
    rw [if_neg (by omega), if_pos (Or.inr c)] at em
    have := tch_pos x1
    refine nc ⟨fun _ => Classical.byContradiction (fun n => ?_), fun k => by omega, fun k => by omega, by omega⟩
    have := ncf_four _ _ _ _ x3 n
    omega
  · obtain ⟨x1, x2, x3⟩ := w9 c
    rw [if_neg (by omega), if_neg (by omega), if_pos c] at em
    have := tch_pos x2
    exact Or.inr ⟨Or.inl c, x1, n9 (Or.inl c), fun q => nc ⟨fun k => by omega, fun _ => q, fun k => by omega, by omega⟩, by omega⟩
  · exfalso
    obtain ⟨m8, x1⟩ := w10 c
    rw [if_neg (by omega), if_neg (by omega), if_neg (by omega), if_pos c] at em
    refine nc ⟨fun k => by omega, fun k => by omega, fun _ g hg hb => Classical.byContradiction (fun n => ?_), by omega⟩
    have q := ncf_four _ _ _ _ (x1 g hg hb) n
    have hm : ¬ nMk u = 0 := by
      intro e
      rw [e] at hb
      rcases (show g = 0 ∨ g = 1 ∨ g = 2 by omega) with rfl | rfl | rfl <;> exact absurd hb (by decide)
    rw [if_neg hm] at em
    have h3 : ∀ m, m < 8 → m ≠ 0 → 1 ≤ nlb m := by decide
    have := h3 _ m8 hm
    rcases (show g = 0 ∨ g = 1 ∨ g = 2 by omega) with rfl | rfl | rfl
    · have q : 4 ≤ mch (nX u) := q
      omega
    · have q : 4 ≤ mch (nY u) := q
      omega
    · have q : 4 ≤ mch (nZ u) := q
      omega
  · obtain ⟨m3, x1⟩ := w11 c
    rw [if_neg (by omega), if_neg (by omega), if_neg (by omega), if_neg (by omega)] at em
    exact Or.inr ⟨Or.inr c, x1, n9 (Or.inr c), fun q => nc ⟨fun k => by omega, fun _ => q, fun k => by omega, by omega⟩, by omega⟩
  · obtain ⟨x1, x2⟩ := w7 (Or.inr c)
    rw [if_neg (by omega), if_neg (by omega), if_neg (by omega), if_neg (by omega)] at em
    refine Or.inl ⟨c, ⟨x1, (n7 (Or.inr c)).1⟩, ⟨x2, (n7 (Or.inr c)).2⟩, by omega, fun q => n12 c (smW_is.mpr ⟨q.1, q.2, by rw [nm_mk x1 q.1, nm_mk x2 q.2]⟩)⟩
/-- two characters: the empty record -/
theorem two_nil (w : TWf f D [p] v) (m2 : mch v = 2) : nKd v = 10 ∧ nMk v = 0 := by
  cases f with
  | zero => exact w.elim
  | succ f =>
    obtain ⟨w0, w5, w6, w7, w8, w9, w10, w11, w12⟩ := w
    have em := mch_is w0.2.1
    rcases (show nKd v = 5 ∨ nKd v = 6 ∨ nKd v = 7 ∨ nKd v = 8 ∨ nKd v = 9 ∨ nKd v = 10 ∨ nKd v = 11 ∨ nKd v = 12 by omega) with c | c | c | c | c | c | c | c
    · rw [if_pos c] at em; omega
    · rw [if_neg (by omega), if_pos (Or.inl c)] at em; omega
    · rw [if_neg (by omega), if_neg (by omega), if_neg (by omega), if_neg (by omega)] at em
      have := mch_pos' (w7 (Or.inl c)).1
      omega
    · rw [if_neg (by omega), if_pos (Or.inr c)] at em; omega
    · rw [if_neg (by omega), if_neg (by omega), if_pos c] at em
      have := mch_pos' (w9 c).1
      have := tch_pos (w9 c).2.1
      omega
    · refine ⟨c, Classical.byContradiction (fun hm => ?_)⟩
      rw [if_neg (by omega), if_neg (by omega), if_neg (by omega), if_pos c, if_neg hm] at em
      have h3 : ∀ m, m < 8 → m ≠ 0 → 1 ≤ nlb m := by decide
      have := h3 _ (w10 c).1 hm
      omega
    · rw [if_neg (by omega), if_neg (by omega), if_neg (by omega), if_neg (by omega)] at em
      have := mch_pos' (w11 c).2
      omega
    · rw [if_neg (by omega), if_neg (by omega), if_neg (by omega), if_neg (by omega)] at em
      have := mch_pos' (w7 (Or.inr c)).1
      have := mch_pos' (w7 (Or.inr c)).2
      omega
theorem one_nm (w : TWf f D [p] v) (m1 : mch v = 1) : nKd v = 5 := Classical.byContradiction (fun n5 => by
  have := mch_two (tw_up _ _ _ _ w) n5
  omega)
variable {Γ : List Ty} {Δ : List (Nat × Ty × Nat)} {a0 : Nat × Ty × Nat} {T R S : Ty}
theorem ty_nil (k : nKd v = 10) (m0 : nMk v = 0) (h : tyF f v Γ Δ = .inr T) : T = tR0 := by
  cases f with
  | zero => cases h
  | succ f =>
    unfold tyF at h
    rw [if_neg (by omega), if_neg (by omega), if_neg (by omega), if_neg (by omega), if_neg (by omega), if_pos k] at h
    obtain ⟨A1, hA1, q1⟩ := tbd_in h
    obtain ⟨A2, hA2, q1⟩ := tbd_in q1
    obtain ⟨A3, hA3, q1⟩ := tbd_in q1
    obtain ⟨e, -⟩ := szt_in q1
    rw [m0] at hA1 hA2 hA3 e
    rw [if_neg (by decide)] at hA1 hA2 hA3
    injection hA1 with hA1
    injection hA2 with hA2
    injection hA3 with hA3
    subst hA1; subst hA2; subst hA3
    exact e.symm
theorem ty_nm (w : TWf f Γ.length [a0.1] v) (k5 : nKd v = 5) (h : tyF f v Γ [a0] = .inr T) : T = lft a0.2.2 (Γ.length - a0.2.2) a0.2.1 := by
  have mk := nm_mk w k5
  cases f with
  | zero => exact w.elim
  | succ f =>
    unfold tyF at h
    rw [if_pos k5] at h
    obtain ⟨e, -⟩ := tyO_in h
    obtain ⟨a, ha⟩ := dlk_some (Δ := [a0]) (m := nMk v) (by rw [mk]; exact List.mem_singleton.mpr rfl)
    rw [ha] at e
    injection e with e
    have hm := List.mem_singleton.mp (dlk_mem ha)
    have h2 : a = a0.2 := congrArg Prod.snd hm
    rw [← e, h2]
/-- the type of a choice -/
theorem ty_or (k : nKd v = 12) (h : tyF (f + 1) v Γ Δ = .inr T) : ∃ S1 S2, tyF f (nX v) Γ Δ = .inr S1 ∧ tyF f (nY v) Γ Δ = .inr S2 ∧ cmu 0 Γ S1 S2 = some T := by
  unfold tyF at h
  rw [if_neg (by omega), if_neg (by omega), if_neg (by omega), if_neg (by omega), if_neg (by omega), if_neg (by omega), if_neg (by omega)] at h
  obtain ⟨S, hS, h1⟩ := tbd_in h
  obtain ⟨T', hT, h1⟩ := tbd_in h1
  obtain ⟨e, -⟩ := tyO_in h1
  exact ⟨S, T', hS, hT, e⟩
theorem ex_r0 : expo Γ Γ.length tR0 = tR0 := ex_n (by decide)
/-- at most five characters with a choice on the way: the type is above the empty record -/
theorem ty_five (he : TE Γ [a0]) (hv : noac Γ) (w : TWf f Γ.length [a0.1] v) (tn : TNo f v) (nc : ¬ CFt f v) (m5 : mch v ≤ 5) (h : tyF f v Γ [a0] = .inr R) : hd (expo Γ Γ.length R) ≠ 2 ∧ ∀ m x y z, m < 8 → expo Γ Γ.length R = tRec m x y z → m = 0 := by
  cases f with
  | zero => exact w.elim
  | succ f =>
    have up : UPx tR0 (expo Γ Γ.length R) := by
      rcases sh_ncf w tn nc (by omega) with ⟨k, x1, x2, em, nn⟩ | ⟨k, x1, xn, xc, -⟩
      · obtain ⟨S1, S2, h1, h2, e⟩ := ty_or k h
        have o1 := (tyF_ok _ _ _ _ _ x1.1 he h1).1
        have o2 := (tyF_ok _ _ _ _ _ x2.1 he h2).1
        have q := ju_upx hv _ S1 S2 R ⟨he.1, o1, o2⟩ e
        have p1 := mch_pos' x1.1
        have p2 := mch_pos' x2.1
        by_cases m2 : mch (nX v) = 2
        · obtain ⟨a, b⟩ := two_nil x1.1 m2
          have e1 := ty_nil a b h1
          rw [e1, ex_r0] at q
          exact q.1
        · by_cases m2' : mch (nY v) = 2
          · obtain ⟨a, b⟩ := two_nil x2.1 m2'
            have e1 := ty_nil a b h2
            rw [e1, ex_r0] at q
            exact q.2
          · exact absurd ⟨one_nm x1.1 (by omega), one_nm x2.1 (by omega)⟩ nn
      · exfalso
        have q := ((chr_one _ _ _ _ x1 xn).1).resolve_left xc
        have em := mch_is w.1.2.1
        rcases k with k | k
        · rw [if_neg (by omega), if_neg (by omega), if_pos k] at em; omega
        · rw [if_neg (by omega), if_neg (by omega), if_neg (by omega), if_neg (by omega)] at em; omega
    have oR := (tyF_ok _ _ _ _ _ w he h).1
    refine ⟨fun h2 => ?_, fun m x y z m8 e => Classical.byContradiction (fun m0 => up.2 m x y z m8 e m0 (by decide))⟩
    obtain ⟨oE, -⟩ := expo_ok he.1 he.2.1 Γ.length R oR (tyF_ok _ _ _ _ _ w he h).2
    obtain ⟨a, b, e, -, -⟩ := hd_is_all oE h2
    obtain ⟨b', q⟩ := up.1 a b e
    have := congrArg hd q
    rw [hd_all] at this
    exact absurd this (by decide)
theorem sbt_one {n : Nat} {Q b : Ty} (oQ : ok n Q = true) (ob : ok (n + 1) b = true) (hb : tch b = 1) : tch (sbt n Q 0 b) = 1 ∨ sbt n Q 0 b = Q := by
  rcases one_txt ob hb with e | ⟨j, hj, e⟩
  · rw [e, sbt_top]; exact Or.inl rfl
  · rw [e, sbt_var]
    by_cases c : j = n
    · rw [if_pos c, lft_zero oQ n (Nat.le_refl _)]; exact Or.inr rfl
    · rw [if_neg c, if_neg (by omega)]; exact Or.inl rfl
/-- an instance of a choice: it cannot be typed, but where the body's bound is the variable itself -/
theorem vac_g {Δ1 : List Ty} {C : Ty} (eΓ : Γ = cxs Δ1 [] (tAll tR0 C)) (he : TE Γ [a0]) (hv : noac Γ) (c2 : 2 ≤ tch C) (fl : sN tR0 0 1 C = false) (a3 : tch a0.2.1 ≤ 2) (hX : ∀ j, 1 ≤ j → j < Γ.length → ∀ a b, bnd Γ j = tAll a b → a = tTop ∧ tch b = 1) (hX' : ∀ i j, 1 ≤ i → 1 ≤ j → i < Γ.length → j < Γ.length → hd (bnd Γ i) = 2 → hd (bnd Γ j) = 2 → i = j) (w : TWf (f + 1) Γ.length [a0.1] s) (tn : TNo (f + 1) s) (k9 : nKd s = 9) (nc : ¬ CFt (f + 1) s) (m9 : mch s ≤ 9) (hS : tyF (f + 1) s Γ [a0] = .inr S) : (mch s = 9 ∧ ∃ e, C = tAll (tVar 0) e) ∨ tch S ≤ 2 := by
  obtain ⟨S0, a, b, h1, h2, h3, ob, oQ, -⟩ := tyF_is9 w he k9 hS
  have ems := mch_is w.1.2.1
  rw [if_neg (by omega), if_neg (by omega), if_pos k9] at ems
  have x1 := (w.2.2.2.2.2.1 k9).1
  have tQ := tch_pos oQ
  have tnu := tn.2.2.1 (Or.inl k9)
  have ncu : ¬ CFt f (nX s) := fun q => nc ⟨fun k => by omega, fun _ => q, fun k => by omega, by omega⟩
  cases f with
  | zero => exact x1.elim
  | succ f =>
  have oΓ := he.1
  have lp : 0 < Γ.length := by rw [eΓ, cxs_len]; omega
  have hA : expo Γ Γ.length (tVar 0) = tAll tR0 (lft 0 Γ.length C) := by
    have q := (ex_v oΓ hv lp).1
    have e0 : bnd Γ 0 = tAll tR0 C := by rw [eΓ]; exact bnd_0 Δ1
    rw [q, e0, lft_all, Nat.sub_zero]
    rfl
  have oA : ok 0 (tAll tR0 C) = true := by
    have q := okc_bnd (Γ := Γ) (k := 0) oΓ lp
    rw [eΓ, bnd_0 Δ1] at q
    exact q
  have oC : ok 1 C = true := (ok_all.mp oA).2
  rcases sh_ncf x1 tnu ncu (by omega) with ⟨k, ⟨y1, yn1⟩, ⟨y2, yn2⟩, em, nn⟩ | ⟨k | k, y1, yn, yc, y5⟩
  rotate_left
  · exfalso
    obtain ⟨R1, a', b', g1, g2, -⟩ := tyF_is9 x1 he k h1
    have q := (ty_five he hv y1 yn yc y5 g1).1
    rw [g2, hd_all] at q
    exact q rfl
  · exfalso
    have h1' := h1
    unfold tyF at h1
    rw [if_neg (by omega), if_neg (by omega), if_neg (by omega), if_neg (by omega), if_neg (by omega), if_neg (by omega), if_pos k] at h1
    obtain ⟨R1, hR, q1⟩ := tbd_in h1
    obtain ⟨e, -⟩ := tyO_in q1
    have m3 := (x1.2.2.2.2.2.2.2.1 k).1
    unfold tyD at e
    by_cases cc : (8 ≤ hd (expo Γ Γ.length R1) ∧ hd (expo Γ Γ.length R1) < 16) ∧ bit (hd (expo Γ Γ.length R1) - 8) (nMk (nX s)) = true
    rotate_left
    · rw [if_neg cc] at e; cases e
    have oR := tyF_ok _ _ _ _ _ y1 he hR
    obtain ⟨oE, -⟩ := expo_ok oΓ he.2.1 Γ.length R1 oR.1 oR.2
    obtain ⟨m, x, y, z, m8, e2⟩ := hd_is_rec oE cc.1.1 cc.1.2
    have m0 := (ty_five he hv y1 yn yc y5 hR).2 m x y z m8 e2
    have c3 := cc.2
    rw [e2, hd_rec, m0] at c3
    rcases (show nMk (nX s) = 0 ∨ nMk (nX s) = 1 ∨ nMk (nX s) = 2 by omega) with g | g | g <;> rw [g] at c3 <;> exact absurd c3 (by decide)
  obtain ⟨S1, S2, g1, g2, ej⟩ := ty_or k h1
  have o1 := (tyF_ok _ _ _ _ _ y1 he g1).1
  have o2 := (tyF_ok _ _ _ _ _ y2 he g2).1
  have up := ju_upx hv _ S1 S2 S0 ⟨oΓ, o1, o2⟩ ej
  rw [h2] at up
  obtain ⟨b1, E1⟩ := up.1.1 a b rfl
  obtain ⟨b2, E2⟩ := up.2.1 a b rfl
  have p1 := mch_pos' y1
  have p2 := mch_pos' y2
  -- the empty record is not above a scheme
  have noR : ∀ (v T : Ty) (b3 : Ty), TWf f Γ.length [a0.1] v → mch v = 2 → tyF f v Γ [a0] = .inr T → expo Γ Γ.length T = tAll a b3 → False := by
    intro v T b3 wv m2 hT e
    obtain ⟨c1, c2⟩ := two_nil wv m2
    rw [ty_nil c1 c2 hT, ex_r0] at e
    have := congrArg hd e
    rw [hd_all] at this
    exact absurd this (by decide)
  -- a name and another term
  have key : ∀ (v1 v2 T1 T2 : Ty) (c1 c2 : Ty), TWf f Γ.length [a0.1] v1 → TWf f Γ.length [a0.1] v2 → TNo f v2 → nKd v1 = 5 → nKd v2 ≠ 5 → mch v2 ≤ 4 → mch v2 + 3 = mch (nX s) → tyF f v1 Γ [a0] = .inr T1 → tyF f v2 Γ [a0] = .inr T2 → expo Γ Γ.length T1 = tAll a c1 → expo Γ Γ.length T2 = tAll a c2 → (T1 = T2 → S0 = T1) → (mch s = 9 ∧ ∃ e, C = tAll (tVar 0) e) ∨ tch S ≤ 2 := by
    intro v1 v2 T1 T2 c1 c2' wv1 wv2 tn2 k5 n5 m4 mE hT1 hT2 F1 F2 same
    have eT1 := ty_nm wv1 k5 hT1
    have oT1 := (tyF_ok _ _ _ _ _ wv1 he hT1).1
    have tT1 : tch T1 ≤ 2 := by
      have q := he.2.2 a0 (List.mem_singleton.mpr rfl)
      rw [eT1, tch_lft a0.2.2 _ a0.2.1 a0.2.2 q.2.1]
      exact a3
    -- the other is an instance of the name
    have inst : ∃ Q, ok Γ.length Q = true ∧ mch v2 = 2 + tch Q ∧ T2 = sbt Γ.length Q 0 c1 := by
      cases f with
      | zero => exact wv2.elim
      | succ f =>
      have wv2' := wv2
      obtain ⟨w0, w5, w6, w7, w8, w9, w10, w11, w12⟩ := wv2
      have em2 := mch_is w0.2.1
      have two : ∀ (v : Ty) (T : Ty), TWf f Γ.length [a0.1] v → mch v ≤ 2 → tyF f v Γ [a0] = .inr T → (nKd v = 5 ∧ expo Γ Γ.length T = tAll a c1) ∨ T = tR0 := by
        intro v T wv m2 hT
        have pv := mch_pos' wv
        by_cases m1 : mch v = 1
        · left
          have k := one_nm wv m1
          refine ⟨k, ?_⟩
          rw [ty_nm wv k hT, ← eT1]
          exact F1
        · obtain ⟨q1, q2⟩ := two_nil wv (by omega)
          exact Or.inr (ty_nil q1 q2 hT)
      rcases (show nKd v2 = 6 ∨ nKd v2 = 7 ∨ nKd v2 = 8 ∨ nKd v2 = 9 ∨ nKd v2 = 10 ∨ nKd v2 = 11 ∨ nKd v2 = 12 by omega) with c | c | c | c | c | c | c
      · exfalso
        rw [if_neg (by omega), if_pos (Or.inl c)] at em2
        have := tch_pos (w6 c).2.1
        omega
      · exfalso
        obtain ⟨z1, z2⟩ := w7 (Or.inl c)
        rw [if_neg (by omega), if_neg (by omega), if_neg (by omega), if_neg (by omega)] at em2
        have := mch_pos' z2
        unfold tyF at hT2
        rw [if_neg (by omega), if_neg (by omega), if_pos c] at hT2
        obtain ⟨X, hX9, q1⟩ := tbd_in hT2
        obtain ⟨Y, -, q1⟩ := tbd_in q1
        obtain ⟨e, -⟩ := tyO_in q1
        unfold tyA at e
        by_cases cc : hd (expo Γ Γ.length X) = 1 ∧ bel Γ Y (k1 (expo Γ Γ.length X)) = true
        · rcases two _ X z1 (by omega) hX9 with ⟨-, q⟩ | q
          · rw [q, hd_all] at cc
            omega
          · rw [q, ex_r0] at cc
            exact absurd cc.1 (by decide)
        · rw [if_neg cc] at e; cases e
      · exfalso
        rw [if_neg (by omega), if_pos (Or.inr c)] at em2
        have := tch_pos (w8 c).1
        omega
      · obtain ⟨z1, z2, -⟩ := w9 c
        rw [if_neg (by omega), if_neg (by omega), if_pos c] at em2
        have pQ := tch_pos z2
        obtain ⟨X, a', b', hX9, q1, q2, -⟩ := tyF_is9 wv2' he c hT2
        have pz := mch_pos' z1
        rcases two _ X z1 (by omega) hX9 with ⟨k5', q⟩ | q
        · rw [q1] at q
          obtain ⟨-, qb⟩ := all_inj q
          have m1 : mch (nX v2) = 1 := by
            cases f with
            | zero => exact z1.elim
            | succ f =>
              have := mch_is z1.1.2.1
              rw [if_pos k5'] at this
              exact this
          exact ⟨nY v2, z2, by omega, by rw [q2, qb]⟩
        · exfalso
          rw [q, ex_r0] at q1
          have := congrArg hd q1
          rw [hd_all] at this
          exact absurd this (by decide)
      · exfalso
        have m0 : nMk v2 = 0 := Classical.byContradiction (fun hm => by
          rw [if_neg (by omega), if_neg (by omega), if_neg (by omega), if_pos c, if_neg hm] at em2
          have h3 : ∀ m, m < 8 → m ≠ 0 → 1 ≤ nlb m ∧ (nlb m = 1 → m = 1 ∨ m = 2 ∨ m = 4) := by decide
          obtain ⟨l1, l2⟩ := h3 _ (w10 c).1 hm
          have n1 : nlb (nMk v2) = 1 := by omega
          rcases l2 n1 with e | e | e
          · have := mch_pos' ((w10 c).2 0 (by decide) (by rw [e]; decide))
            have : 1 ≤ mch (nX v2) := this
            omega
          · have := mch_pos' ((w10 c).2 1 (by decide) (by rw [e]; decide))
            have : 1 ≤ mch (nY v2) := this
            omega
          · have := mch_pos' ((w10 c).2 2 (by decide) (by rw [e]; decide))
            have : 1 ≤ mch (nZ v2) := this
            omega)
        rw [ty_nil c m0 hT2, ex_r0] at F2
        have := congrArg hd F2
        rw [hd_all] at this
        exact absurd this (by decide)
      · exfalso
        obtain ⟨m3, z1⟩ := w11 c
        rw [if_neg (by omega), if_neg (by omega), if_neg (by omega), if_neg (by omega)] at em2
        unfold tyF at hT2
        rw [if_neg (by omega), if_neg (by omega), if_neg (by omega), if_neg (by omega), if_neg (by omega), if_neg (by omega), if_pos c] at hT2
        obtain ⟨X, hX9, q1⟩ := tbd_in hT2
        obtain ⟨e, -⟩ := tyO_in q1
        unfold tyD at e
        by_cases cc : (8 ≤ hd (expo Γ Γ.length X) ∧ hd (expo Γ Γ.length X) < 16) ∧ bit (hd (expo Γ Γ.length X) - 8) (nMk v2) = true
        · rcases two _ X z1 (by omega) hX9 with ⟨-, q⟩ | q
          · rw [q, hd_all] at cc
            omega
          · rw [q, ex_r0] at cc
            have c3 := cc.2
            rw [show hd tR0 - 8 = 0 from by decide] at c3
            rcases (show nMk v2 = 0 ∨ nMk v2 = 1 ∨ nMk v2 = 2 by omega) with g | g | g <;> rw [g] at c3 <;> exact absurd c3 (by decide)
        · rw [if_neg cc] at e; cases e
      · exfalso
        obtain ⟨z1, z2⟩ := w7 (Or.inr c)
        rw [if_neg (by omega), if_neg (by omega), if_neg (by omega), if_neg (by omega)] at em2
        have pz1 := mch_pos' z1
        have pz2 := mch_pos' z2
        have a1 := one_nm z1 (by omega)
        have a2 := one_nm z2 (by omega)
        exact tn2.2.2.2.2 c (smW_is.mpr ⟨a1, a2, by rw [nm_mk z1 a1, nm_mk z2 a2]⟩)
    obtain ⟨Q, oQ', mQ, eT2⟩ := inst
    have pQ := tch_pos oQ'
    rcases two_txt oT1 (by omega) with e | ⟨j, hj, e⟩ | e
    · exfalso
      rw [e, ex_n (by decide)] at F1
      have := congrArg hd F1
      rw [hd_all] at this
      exact absurd this (by decide)
    rotate_left
    · exfalso
      rw [e, ex_r0] at F1
      have := congrArg hd F1
      rw [hd_all] at this
      exact absurd this (by decide)
    by_cases j0 : j = 0
    · -- the designated scheme
      left
      rw [e, j0, hA] at F1
      obtain ⟨ea, ec⟩ := all_inj F1
      have C16 : hd C < 16 := by
        rcases ok_cases oC with g | ⟨i, -, g⟩ | ⟨p, q, g, -, -⟩ | ⟨p, q, g, -, -⟩ | ⟨m, x, y, z, hm, g, -⟩
        · rw [g] at c2; exact absurd c2 (by decide)
        · rw [g, tch_var] at c2; omega
        · rw [g, hd_fun]; omega
        · rw [g, hd_all]; omega
        · rw [g, hd_rec]; omega
      have oLC : ok (Γ.length + 1) (lft 0 Γ.length C) = true := by
        have q := ok_lft 0 Γ.length C 1 (by rw [Nat.zero_add]; exact oC)
        rw [Nat.zero_add] at q
        exact q
      have h2' : hd T2 = hd C := by
        rw [eT2, ← ec, sbt_hd oLC (by rw [hd_lf oC C16]; exact C16), hd_lf oC C16]
      rw [ex_n (by omega)] at F2
      have hC2 : hd C = 2 := by rw [← h2', F2, hd_all]
      obtain ⟨cb, e9, rfl, ocb, -⟩ := hd_is_all oC hC2
      rw [eT2, ← ec, lft_all, sbt_all] at F2
      obtain ⟨eb, -⟩ := all_inj F2
      rw [← ea] at eb
      by_cases v16 : 16 ≤ hd cb
      · obtain ⟨i, hi, rfl⟩ := hd_is_var ocb v16
        have i0 : i = 0 := by omega
        subst i0
        rw [lft_var, if_pos (Nat.le_refl _), Nat.zero_add, sbt_var, if_pos rfl, lft_zero oQ' _ (Nat.le_refl _)] at eb
        rw [eb] at mQ
        have : tch tR0 = 2 := rfl
        exact ⟨by omega, e9, rfl⟩
      · exfalso
        have oLb : ok (Γ.length + 1) (lft 0 Γ.length cb) = true := by
          have q := ok_lft 0 Γ.length cb 1 (by rw [Nat.zero_add]; exact ocb)
          rw [Nat.zero_add] at q
          exact q
        have h8 : hd cb = 8 := by
          have q := congrArg hd eb
          rw [sbt_hd oLb (by rw [hd_lf ocb (by omega)]; omega), hd_lf ocb (by omega)] at q
          rw [q]; rfl
        rw [hd8_r0 ocb h8, sN_all, Bool.or_eq_false_iff] at fl
        have q : tqN tR0 0 1 tR0 = true := by
          unfold tqN
          rw [decide_eq_true_iff]
          rfl
        rw [q] at fl
        cases fl.1
    · -- another scheme
      right
      have v1 := ex_v oΓ hv hj
      rw [e, v1.1] at F1
      have obj := okc_bnd (Γ := Γ) (k := j) oΓ hj
      have hb16 := (hv j hj).2
      have h2j : hd (bnd Γ j) = 2 := by
        have q2 := (hd_lft0 (k := j) (n := Γ.length - j) obj).2 hb16
        rw [← q2, F1, hd_all]
      obtain ⟨p, r, ebj, op, oR⟩ := hd_is_all obj h2j
      obtain ⟨rfl, tr⟩ := hX j (by omega) hj p r ebj
      rw [ebj, lft_all, lft_top] at F1
      obtain ⟨ea, ec⟩ := all_inj F1
      have tc1 : tch c1 = 1 := by rw [← ec, tch_lft j _ r (j + 1) oR]; exact tr
      have oc1 : ok (Γ.length + 1) c1 = true := by
        have q := ok_expose (k := j) oΓ hj
        rw [ebj, lft_all, lft_top] at q
        rw [← ec]
        exact (ok_all.mp q).2
      have oT2 := (tyF_ok _ _ _ _ _ wv2 he hT2).1
      have t2 : tch T2 ≤ 2 := by
        rcases sbt_one oQ' oc1 tc1 with q | q
        · rw [eT2]; omega
        · rw [eT2, q]; omega
      have e12 : T1 = T2 := by
        rcases two_txt oT2 (by omega) with q | ⟨i, hi, q⟩ | q
        · exfalso
          rw [q, ex_n (by decide)] at F2
          have := congrArg hd F2
          rw [hd_all] at this
          exact absurd this (by decide)
        · by_cases i0 : i = 0
          · exfalso
            rw [q, i0, hA] at F2
            obtain ⟨q1, -⟩ := all_inj F2
            rw [← ea] at q1
            exact absurd (congrArg hd q1) (by decide)
          · have v2' := ex_v oΓ hv hi
            rw [q, v2'.1] at F2
            have obi := okc_bnd (Γ := Γ) (k := i) oΓ hi
            have h2i : hd (bnd Γ i) = 2 := by
              have q2 := (hd_lft0 (k := i) (n := Γ.length - i) obi).2 (hv i hi).2
              rw [← q2, F2, hd_all]
            rw [e, q, hX' j i (by omega) (by omega) hj hi h2j h2i]
        · exfalso
          rw [q, ex_r0] at F2
          have := congrArg hd F2
          rw [hd_all] at this
          exact absurd this (by decide)
      have eS0 := same e12
      rw [eS0, e, v1.1, ebj, lft_all, lft_top] at h2
      obtain ⟨-, hb⟩ := all_inj h2
      rw [ec] at hb
      rw [h3]
      rcases sbt_one oQ ob (by rw [← hb]; exact tc1) with q | q
      · omega
      · rw [q]; omega
  have lo : ∀ T, ok Γ.length T = true → S1 = T → S2 = T → S0 = T := by
    intro T o e1 e2
    subst e1
    rw [e2] at ej
    have er := cu_lo (w := 0) (show tok (Γ, S1, S1) from ⟨oΓ, o, o⟩) (by decide) (bel_refl _ Γ S1 (Nat.le_refl _) oΓ o)
    rw [er] at ej
    have ej : some S1 = some S0 := ej
    injection ej with ej
    exact ej.symm
  have n2x : mch (nX (nX s)) ≠ 2 := fun q => noR _ _ _ y1 q g1 E1
  have n2y : mch (nY (nX s)) ≠ 2 := fun q => noR _ _ _ y2 q g2 E2
  by_cases m1 : mch (nX (nX s)) = 1
  · have k5 := one_nm y1 m1
    exact key _ _ S1 S2 b1 b2 y1 y2 yn2 k5 (fun q => nn ⟨k5, q⟩) (by omega) (by omega) g1 g2 E1 E2 (fun q => lo S1 o1 rfl q.symm)
  · have k5 := one_nm y2 (by omega)
    exact key _ _ S2 S1 b2 b1 y2 y1 yn1 k5 (fun q => nn ⟨q, k5⟩) (by omega) (by omega) g2 g1 E2 E1 (fun q => lo S2 o2 q.symm rfl)
end PmZd1
