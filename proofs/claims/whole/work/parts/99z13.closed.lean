/-! TERMS WITHOUT NAMES AROUND: how many characters they take, and which short ones have a type. -/
def rz : Ty := tRec 0 .nil .nil .nil
/-- a: a scheme with bound Top, b: a choice, c: an operation -/
theorem chr_cl : ∀ (f D : Nat) (t : Ty), TWf f D [] t → ∃ a b c, 2 + a + b + c ≤ mch t ∧ (NHt 0 f t ∨ 5 ≤ a) ∧ (CFt f t ∨ 4 ≤ b) ∧ (NOp f t ∨ 2 ≤ c)
  | 0, _, _, h => h.elim
  | f + 1, D, t, h => by
    have ih := fun D t => chr_cl f D t
    obtain ⟨⟨kk, e, nl, -⟩, w5, w6, w7, w8, w9, w10, w11, -⟩ := h
    have em := mch_is e
    have k5 : nKd t ≠ 5 := fun k => by cases w5 k
    rw [if_neg k5] at em
    by_cases k6 : nKd t = 6
    · rw [if_pos (Or.inl k6)] at em
      obtain ⟨-, o, -, wy⟩ := w6 k6
      obtain ⟨a, b, c, l, h1, h2, h3⟩ := chr_min f _ _ _ wy
      have p := tch_pos o
      have B : CFt (f + 1) t ∨ 4 ≤ b + 1 := h2.imp (fun q => ⟨fun _ => q, fun c => by omega, fun c => by omega, by omega⟩) (fun q => by omega)
      have C : NOp (f + 1) t ∨ 2 ≤ c := h3.imp (fun q => ⟨fun _ => q, by omega, fun c => by omega, fun c => by omega⟩) id
      by_cases n : noh 0 (nX t) = true
      · exact ⟨a, b + 1, c, by omega, h1.imp (fun q => ⟨fun _ => ⟨n, q⟩, fun c => by omega, fun c => by omega, fun c => by omega, fun c => by omega, fun c => by omega⟩) id, B, C⟩
      · have := noh_six o (by simpa using n)
        exact ⟨5, b + 1, c, by omega, Or.inr (Nat.le_refl _), B, C⟩
    by_cases k8 : nKd t = 8
    · rw [if_pos (Or.inr k8)] at em
      obtain ⟨o, -, wy⟩ := w8 k8
      obtain ⟨a, b, c, l, h1, h2, h3⟩ := ih _ _ wy
      have p := tch_pos o
      have B : CFt (f + 1) t ∨ 4 ≤ b := h2.imp (fun q => ⟨fun _ => q, fun c => by omega, fun c => by omega, by omega⟩) id
      have C : NOp (f + 1) t ∨ 2 ≤ c := h3.imp (fun q => ⟨fun _ => q, by omega, fun c => by omega, fun c => by omega⟩) id
      exact ⟨5, b, c, by omega, Or.inr (Nat.le_refl _), B, C⟩
    rw [if_neg (by omega)] at em
    by_cases k9 : nKd t = 9
    · rw [if_pos k9] at em
      obtain ⟨wx, o, -⟩ := w9 k9
      obtain ⟨a, b, c, l, h1, h2, h3⟩ := ih _ _ wx
      have p := tch_pos o
      have B : CFt (f + 1) t ∨ 4 ≤ b := h2.imp (fun q => ⟨fun c => by omega, fun _ => q, fun c => by omega, by omega⟩) id
      by_cases n : noh 0 (nY t) = true
      · exact ⟨a, b, 2, by omega, h1.imp (fun q => ⟨fun c => by omega, fun c => by omega, fun c => by omega, fun _ => ⟨q, n⟩, fun c => by omega, fun c => by omega⟩) id, B, Or.inr (Nat.le_refl _)⟩
      · have := noh_six o (by simpa using n)
        exact ⟨5, b, 2, by omega, Or.inr (Nat.le_refl _), B, Or.inr (Nat.le_refl _)⟩
    rw [if_neg k9] at em
    by_cases k10 : nKd t = 10
    · rw [if_pos k10] at em
      have part : ∀ g, g < 3 → ∃ a b c, a + b + c ≤ mch (nP t g) ∧ (bit (nMk t) g = true → (NHt 0 f (nP t g) ∨ 5 ≤ a) ∧ (CFt f (nP t g) ∨ 4 ≤ b) ∧ (NOp f (nP t g) ∨ 2 ≤ c)) := by
        intro g hg
        by_cases q : bit (nMk t) g = true
        · obtain ⟨a, b, c, l, h1, h2, h3⟩ := ih _ _ ((w10 k10).2 g hg q)
          exact ⟨a, b, c, by omega, fun _ => ⟨h1, h2, h3⟩⟩
        · exact ⟨0, 0, 0, Nat.zero_le _, fun c => absurd c q⟩
      obtain ⟨a0, b0, c0, l0, p0⟩ := part 0 (by decide)
      obtain ⟨a1, b1, c1, l1, p1⟩ := part 1 (by decide)
      obtain ⟨a2, b2, c2, l2, p2⟩ := part 2 (by decide)
      have l0 : a0 + b0 + c0 ≤ mch (nX t) := l0
      have l1 : a1 + b1 + c1 ≤ mch (nY t) := l1
      have l2 : a2 + b2 + c2 ≤ mch (nZ t) := l2
      have one : 2 ≤ (if nMk t = 0 then 2 else 1 + 3 * nlb (nMk t)) := by
        have key : ∀ m, m < 8 → 2 ≤ (if m = 0 then 2 else 1 + 3 * nlb m) := by decide
        exact key _ (w10 k10).1
      have all : ∀ (P : Nat → Prop) (n : Nat) (x0 x1 x2 : Nat), (bit (nMk t) 0 = true → P 0 ∨ n ≤ x0) → (bit (nMk t) 1 = true → P 1 ∨ n ≤ x1) → (bit (nMk t) 2 = true → P 2 ∨ n ≤ x2) → (∀ g, g < 3 → bit (nMk t) g = true → P g) ∨ n ≤ x0 + x1 + x2 := by
        intro P n x0 x1 x2 q0 q1 q2
        by_cases c : n ≤ x0 + x1 + x2
        · exact Or.inr c
        · refine Or.inl (fun g hg hb => ?_)
          match g, hg, hb with
          | 0, _, hb => exact (q0 hb).resolve_right (by omega)
          | 1, _, hb => exact (q1 hb).resolve_right (by omega)
          | 2, _, hb => exact (q2 hb).resolve_right (by omega)
      refine ⟨a0 + a1 + a2, b0 + b1 + b2, c0 + c1 + c2, by omega, ?_, ?_, ?_⟩
      · exact (all (fun g => NHt 0 f (nP t g)) 5 a0 a1 a2 (fun h => (p0 h).1) (fun h => (p1 h).1) (fun h => (p2 h).1)).imp (fun q => ⟨fun c => by omega, fun c => by omega, fun c => by omega, fun c => by omega, fun _ => q, fun c => by omega⟩) id
      · exact (all (fun g => CFt f (nP t g)) 4 b0 b1 b2 (fun h => (p0 h).2.1) (fun h => (p1 h).2.1) (fun h => (p2 h).2.1)).imp (fun q => ⟨fun c => by omega, fun c => by omega, fun _ => q, by omega⟩) id
      · exact (all (fun g => NOp f (nP t g)) 2 c0 c1 c2 (fun h => (p0 h).2.2) (fun h => (p1 h).2.2) (fun h => (p2 h).2.2)).imp (fun q => ⟨fun c => by omega, by omega, fun _ => q, fun c => by omega⟩) id
    rw [if_neg k10] at em
    by_cases k11 : nKd t = 11
    · obtain ⟨-, wx⟩ := w11 k11
      obtain ⟨a, b, c, l, h1, h2, h3⟩ := ih _ _ wx
      exact ⟨a, b, 2, by omega, h1.imp (fun q => ⟨fun c => by omega, fun c => by omega, fun c => by omega, fun c => by omega, fun c => by omega, fun _ => q⟩) id, h2.imp (fun q => ⟨fun c => by omega, fun _ => q, fun c => by omega, by omega⟩) id, Or.inr (Nat.le_refl _)⟩
    have k7 : nKd t = 7 ∨ nKd t = 12 := by omega
    obtain ⟨wx, wy⟩ := w7 k7
    obtain ⟨a, b, c, l, h1, h2, h3⟩ := ih _ _ wx
    obtain ⟨a', b', c', l', h1', h2', h3'⟩ := ih _ _ wy
    have A : NHt 0 (f + 1) t ∨ 5 ≤ a + a' := by
      rcases h1 with q | q
      · rcases h1' with q' | q'
        · exact Or.inl ⟨fun c => by omega, fun _ => ⟨q, q'⟩, fun c => by omega, fun c => by omega, fun c => by omega, fun c => by omega⟩
        · exact Or.inr (by omega)
      · exact Or.inr (by omega)
    rcases k7 with k7 | k7
    · exact ⟨a + a', b, 2, by omega, A, h2.imp (fun q => ⟨fun c => by omega, fun _ => q, fun c => by omega, by omega⟩) id, Or.inr (Nat.le_refl _)⟩
    · refine ⟨a + a', 4, c + c', by omega, A, Or.inr (Nat.le_refl _), ?_⟩
      rcases h3 with q | q
      · rcases h3' with q' | q'
        · exact Or.inl ⟨fun c => by omega, by omega, fun c => by omega, fun _ => ⟨q, q'⟩⟩
        · exact Or.inr (by omega)
      · exact Or.inr (by omega)
theorem cl_min {f D : Nat} {t : Ty} (w : TWf f D [] t) : 2 ≤ mch t ∧ (CFt f t ∨ 6 ≤ mch t) ∧ (COk f t 0 ∨ 8 ≤ mch t) := by
  obtain ⟨a, b, c, l, -, h2, h3⟩ := chr_cl f D t w
  refine ⟨by omega, h2.imp id (fun q => by omega), ?_⟩
  rcases h2 with q | q
  · exact Or.inl (CF_CO f t 0 q)
  · rcases h3 with r | r
    · exact Or.inl (NOp_CO f t r)
    · exact Or.inr (by omega)
theorem hd_rz : hd rz = 8 := rfl
theorem no_A (Γ : List Ty) (n : Nat) (T : Ty) : tyA Γ (expo Γ n rz) T = none := by
  rw [expo_lo (by rw [hd_rz]; decide)]
  exact if_neg (fun h => by have := h.1; rw [hd_rz] at this; omega)
theorem no_I (Γ : List Ty) (n : Nat) (T : Ty) : tyI Γ (expo Γ n rz) T = none := by
  rw [expo_lo (by rw [hd_rz]; decide)]
  exact if_neg (fun h => by have := h.1; rw [hd_rz] at this; omega)
theorem no_D (Γ : List Ty) (n m : Nat) (h3 : m < 3) : tyD m (expo Γ n rz) = none := by
  rw [expo_lo (by rw [hd_rz]; decide)]
  exact if_neg (fun h => by have := h.2; rw [hd_rz, show 8 - 8 = 0 from rfl, bit_0 m h3] at this; cases this)
/-- short terms without names around -/
theorem cl_ty : ∀ (f : Nat) (t : Ty) (Γ : List Ty) (S : Ty), TWf f Γ.length [] t → okc Γ → TNo f t → tyF f t Γ [] = .inr S → (mch t ≤ 5 → S = rz) ∧ (mch t ≤ 9 → ¬ CFt f t → S = rz) ∧ (mch t ≤ 11 → COk f t 0)
  | 0, _, _, _, h, _, _, _ => h.elim
  | f + 1, t, Γ, S, h, hc, tn, hS => by
    have ih := fun t S => cl_ty f t Γ S
    obtain ⟨⟨kk, e, nl, -⟩, w5, w6, w7, w8, w9, w10, w11, -⟩ := h
    obtain ⟨n6, n7, n9, n10, n12⟩ := tn
    have em := mch_is e
    have k5 : nKd t ≠ 5 := fun k => by cases w5 k
    rw [if_neg k5] at em
    rw [tyF, if_neg k5] at hS
    by_cases k6 : nKd t = 6
    · rw [if_pos (Or.inl k6)] at em
      obtain ⟨-, o, -, wy⟩ := w6 k6
      obtain ⟨h1, h2⟩ := chr_one f _ _ _ wy (n6 (Or.inl k6))
      have p := tch_pos o
      have py : 1 ≤ mch (nY t) := by
        cases f with
        | zero => exact wy.elim
        | succ f => exact mch_pos wy
      refine ⟨fun m => by omega, fun m n => ?_, fun m => ⟨fun _ => h2.resolve_right (by omega), fun c => by omega, fun c => by omega, fun c => by omega⟩⟩
      exact absurd ⟨fun _ => h1.resolve_right (by omega), fun c => by omega, fun c => by omega, by omega⟩ n
    by_cases k8 : nKd t = 8
    · rw [if_pos (Or.inr k8)] at em
      obtain ⟨o, -, wy⟩ := w8 k8
      obtain ⟨h0, h1, h2⟩ := cl_min wy
      have p := tch_pos o
      refine ⟨fun m => by omega, fun m n => ?_, fun m => ⟨fun _ => h2.resolve_right (by omega), fun c => by omega, fun c => by omega, fun c => by omega⟩⟩
      exact absurd ⟨fun _ => h1.resolve_right (by omega), fun c => by omega, fun c => by omega, by omega⟩ n
    rw [if_neg (by omega)] at em
    rw [if_neg k6] at hS
    -- an operation on X
    have op : nKd t = 7 ∨ nKd t = 9 ∨ nKd t = 11 → (mch (nX t) + 2 ≤ mch t) → (tyF f (nX t) Γ [] ≠ .inr rz) → (∃ A, tyF f (nX t) Γ [] = .inr A) → TWf f Γ.length [] (nX t) → TNo f (nX t) → (mch t ≤ 5 → S = rz) ∧ (mch t ≤ 9 → ¬ CFt (f + 1) t → S = rz) ∧ (mch t ≤ 11 → COk (f + 1) t 0) := by
      intro k l ne ⟨A, hA⟩ wx tx
      obtain ⟨i1, i2, -⟩ := ih (nX t) A wx hc tx hA
      have ne' : A ≠ rz := fun q => ne (by rw [hA, q])
      have cx : mch (nX t) ≤ 9 → CFt f (nX t) := fun m => Classical.byContradiction (fun n => ne' (i2 m n))
      refine ⟨fun m => absurd (i1 (by omega)) ne', fun m n => ?_, fun m => ⟨fun c => by omega, fun _ => CF_CO f _ _ (cx (by omega)), fun c => by omega, fun c => by omega⟩⟩
      exact absurd ⟨fun c => by omega, fun _ => cx (by omega), fun c => by omega, by omega⟩ n
    by_cases k9 : nKd t = 9
    · rw [if_pos k9] at em
      rw [if_neg (by omega), if_neg k8, if_pos k9] at hS
      obtain ⟨wx, o, -⟩ := w9 k9
      have p := tch_pos o
      obtain ⟨A, hA, h2⟩ := tbd_in hS
      refine op (by omega) (by omega) (fun q => ?_) ⟨A, hA⟩ wx (n9 (Or.inl k9))
      rw [q] at hA
      injection hA with hA
      rw [← hA, no_I] at h2
      cases h2
    rw [if_neg k9] at em
    by_cases k10 : nKd t = 10
    · rw [if_pos k10] at em
      rw [if_neg (by omega), if_neg k8, if_neg k9, if_pos k10] at hS
      have big : ∀ g, g < 3 → mch (nP t g) ≤ mch (nX t) + (mch (nY t) + mch (nZ t)) := by
        intro g hg
        match g, hg with
        | 0, _ => show mch (nX t) ≤ _; omega
        | 1, _ => show mch (nY t) ≤ _; omega
        | 2, _ => show mch (nZ t) ≤ _; omega
      have four : ∀ g, g < 3 → bit (nMk t) g = true → 4 ≤ (if nMk t = 0 then 2 else 1 + 3 * nlb (nMk t)) := by
        have key : ∀ m, m < 8 → ∀ g, g < 3 → bit m g = true → 4 ≤ (if m = 0 then 2 else 1 + 3 * nlb m) := by decide
        exact key _ (w10 k10).1
      refine ⟨fun m => ?_, fun m n => ?_, fun m => ⟨fun c => by omega, fun c => by omega, fun _ g hg hb => ?_, fun c => by omega⟩⟩
      · have no : ∀ g, g < 3 → ¬ bit (nMk t) g = true := by
          intro g hg hb
          have q1 := four g hg hb
          have q2 := (cl_min ((w10 k10).2 g hg hb)).1
          have q3 := big g hg
          omega
        have m0 : nMk t = 0 := by
          have key : ∀ m, m < 8 → ¬ bit m 0 = true → ¬ bit m 1 = true → ¬ bit m 2 = true → m = 0 := by decide
          exact key _ (w10 k10).1 (no 0 (by decide)) (no 1 (by decide)) (no 2 (by decide))
        rw [if_neg (no 0 (by decide)), if_neg (no 1 (by decide)), if_neg (no 2 (by decide)), m0] at hS
        have hS : szt (nPl t) (tRec 0 .nil .nil .nil) = .inr S := hS
        exact (szt_in hS).1.symm
      · refine absurd ⟨fun c => by omega, fun c => by omega, fun _ g hg hb => ?_, by omega⟩ n
        have q1 := four g hg hb
        have q3 := big g hg
        exact (cl_min ((w10 k10).2 g hg hb)).2.1.resolve_right (by omega)
      · have q1 := four g hg hb
        have q3 := big g hg
        exact (cl_min ((w10 k10).2 g hg hb)).2.2.resolve_right (by omega)
    rw [if_neg k10] at em
    by_cases k11 : nKd t = 11
    · rw [if_neg (by omega), if_neg k8, if_neg k9, if_neg k10, if_pos k11] at hS
      obtain ⟨m3, wx⟩ := w11 k11
      obtain ⟨A, hA, h2⟩ := tbd_in hS
      refine op (by omega) (by omega) (fun q => ?_) ⟨A, hA⟩ wx (n9 (Or.inr k11))
      rw [q] at hA
      injection hA with hA
      rw [← hA, no_D _ _ _ m3] at h2
      cases h2
    have k7 : nKd t = 7 ∨ nKd t = 12 := by omega
    obtain ⟨wx, wy⟩ := w7 k7
    obtain ⟨tx, ty⟩ := n7 k7
    obtain ⟨x0, x1, x2⟩ := cl_min wx
    obtain ⟨y0, y1, y2⟩ := cl_min wy
    rcases k7 with k7 | k7
    · rw [if_pos k7] at hS
      obtain ⟨A, hA, h2⟩ := tbd_in hS
      refine op (by omega) (by omega) (fun q => ?_) ⟨A, hA⟩ wx tx
      rw [q] at hA
      injection hA with hA
      obtain ⟨B, hB, h2⟩ := tbd_in h2
      rw [← hA, no_A] at h2
      cases h2
    · rw [if_neg (by omega), if_neg k8, if_neg k9, if_neg k10, if_neg k11] at hS
      obtain ⟨A, hA, h2⟩ := tbd_in hS
      obtain ⟨B, hB, h2⟩ := tbd_in h2
      refine ⟨fun m => by omega, fun m n => ?_, fun m => ⟨fun c => by omega, fun c => by omega, fun c => by omega, fun _ => ⟨rfl, x2.resolve_right (by omega), y2.resolve_right (by omega)⟩⟩⟩
      have eA := (ih (nX t) A wx hc tx hA).1 (by omega)
      have eB := (ih (nY t) B wy hc ty hB).1 (by omega)
      rw [eA, eB] at h2
      have ok0 : ok Γ.length rz = true := rfl
      have q := (tyO_in h2).1
      have tk : tok (Γ, rz, rz) := ⟨hc, ok0, ok0⟩
      rw [cmu_eq tk] at q
      unfold cmsU at q
      rw [if_neg (by decide), if_pos (bel_refl _ Γ rz (Nat.le_refl _) hc ok0), if_pos rfl] at q
      injection q with q
      exact q.symm
