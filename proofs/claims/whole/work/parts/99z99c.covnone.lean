/-! SEVERAL BINDERS, NO NAMES, the designated scheme inside its bound: nothing is left but root schemes and one binder. -/
theorem cz3_get {c be k ov q1 q2 : Nat} (h : cz3 c = true) (p1 : 1 ≤ be) (p2 : 1 ≤ k) (p3 : 3 ≤ ov) (o1 : q05 q1 = true) (o2 : q05 q2 = true) (nz : 1 ≤ q1 + q2) (ec : 8 + be + k + ov + q1 + q2 = c) (h47 : c ≤ 47) : ci3 be k ov q1 q2 = true := by
  unfold cz3 at h
  have q := rng_all h (i := k) (by omega)
  rw [Bool.or_eq_true] at q
  rcases q with q | q
  · exact (blt_no p2 q).elim
  have q := rng_all q (i := be + ov) (by omega)
  rw [Bool.or_eq_true, Bool.or_eq_true] at q
  rcases q with q | q | q
  · exact (blt_no (by omega) q).elim
  · have := Nat.le_of_ble_eq_true q
    omega
  have q := rng_all q (i := q1) (by omega)
  rw [show c - 8 - k - (be + ov) - q1 = q2 by omega, o1, o2, Bool.or_eq_true, Bool.or_eq_true] at q
  rcases q with q | q | q
  · exact (blt_no (by omega) q).elim
  · cases q
  unfold cj3 at q
  rw [Bool.or_eq_true] at q
  rcases q with q | q
  · rw [Bool.and_eq_true] at q
    unfold ci3
    rw [zc_R p1 p3 (by omega) q.1, zc_G p1 p3 (by omega) q.2]
    rfl
  · have q := rng_all q (i := be) (by omega)
    rw [Bool.or_eq_true] at q
    rcases q with q | q
    · exact (blt_no p1 q).elim
    · rw [show be + ov - be = ov by omega] at q
      exact q
theorem cz3_all : ∀ (c : Nat), 20 ≤ c → c < 43 → cz3 c = true := by
  intro c h1 h2
  rcases (show c = 20 ∨ c = 21 ∨ c = 22 ∨ c = 23 ∨ c = 24 ∨ c = 25 ∨ c = 26 ∨ c = 27 ∨ c = 28 ∨ c = 29 ∨ c = 30 ∨ c = 31 ∨ c = 32 ∨ c = 33 ∨ c = 34 ∨ c = 35 ∨ c = 36 ∨ c = 37 ∨ c = 38 ∨ c = 39 ∨ c = 40 ∨ c = 41 ∨ c = 42 by omega) with rfl | rfl | rfl | rfl | rfl | rfl | rfl | rfl | rfl | rfl | rfl | rfl | rfl | rfl | rfl | rfl | rfl | rfl | rfl | rfl | rfl | rfl | rfl
  · exact cz3_20
  · exact cz3_21
  · exact cz3_22
  · exact cz3_23
  · exact cz3_24
  · exact cz3_25
  · exact cz3_26
  · exact cz3_27
  · exact cz3_28
  · exact cz3_29
  · exact cz3_30
  · exact cz3_31
  · exact cz3_32
  · exact cz3_33
  · exact cz3_34
  · exact cz3_35
  · exact cz3_36
  · exact cz3_37
  · exact cz3_38
  · exact cz3_39
  · exact cz3_40
  · exact cz3_41
  · exact cz3_42
theorem ci3_num {m be k ov q1 q2 : Nat} (p1 : 1 ≤ be) (p2 : 1 ≤ k) (p3 : 3 ≤ ov) (o1 : q05 q1 = true) (o2 : q05 q2 = true) (nz : 1 ≤ q1 + q2) (m3 : 3 ≤ m) (h20 : 20 ≤ 8 + be + k + ov + q1 + q2) (h47 : 8 + be + k + ov + q1 + q2 ≤ 47) (hb : 8 + be + k + ov + q1 + q2 + 2 * m ≤ 58) : az true m (8 + be + k + ov + q1 + q2) = true ∨ B12z true m be k ov q1 q2 = true ∨ (q1 < 10 ∧ q2 < 10 ∧ B6z true m be k ov q1 q2 = true) ∨ (B13z m be k ov q1 q2 = true ∧ 6 ≤ m) := by
  by_cases m7 : m ≤ 7
  · left
    unfold az
    rw [if_pos rfl, Nat.ble_eq_true_of_le h20, Nat.ble_eq_true_of_le m3, Nat.ble_eq_true_of_le m7, Nat.ble_eq_true_of_le h47]
    rfl
  have e8 : Nat.ble 8 m = true := Nat.ble_eq_true_of_le (by omega)
  have q := cz3_get (cz3_all _ h20 (by omega)) p1 p2 p3 o1 o2 nz rfl h47
  unfold ci3 at q
  rw [Bool.or_eq_true] at q
  by_cases c30 : 30 ≤ 8 + be + k + ov + q1 + q2
  · rcases q with q | q
    · refine Or.inr (Or.inl ?_)
      unfold B12z
      rw [if_pos rfl, e8, Nat.ble_eq_true_of_le c30, q]
      rfl
    · rw [Bool.and_eq_true, Bool.and_eq_true, Bool.and_eq_true] at q
      refine Or.inr (Or.inr (Or.inl ⟨Nat.le_of_ble_eq_true q.2.1, Nat.le_of_ble_eq_true q.2.2.1, ?_⟩))
      unfold B6z
      rw [if_pos rfl, e8, q.1, q.2.2.2]
      rfl
  · refine Or.inr (Or.inr (Or.inr ⟨?_, by omega⟩))
    have el : Nat.blt (8 + be + k + ov + q1 + q2) 30 = true := Nat.ble_eq_true_of_le (by omega)
    unfold B13z
    by_cases c58 : 8 + be + k + ov + q1 + q2 + 5 + 2 * m ≤ 58
    · rw [el, if_pos (Nat.ble_eq_true_of_le c58), Bool.true_and]
      rcases cz2_get (cz2m_6 _ h20 (by omega)) p1 p2 p3 o1 o2 nz rfl h47 with q | q
      · exact q
      · unfold ci2 at q
        rw [Bool.or_eq_true, Bool.or_eq_true, Bool.or_eq_true] at q
        rcases q with q | q | q | q
        · unfold B12z at q
          rw [if_neg Bool.false_ne_true, if_neg (by decide)] at q
          exact q
        · exfalso
          rw [Bool.and_eq_true, Bool.and_eq_true] at q
          have q := q.2.2
          unfold B6z at q
          rw [if_neg Bool.false_ne_true, if_neg (by decide), Bool.and_eq_true] at q
          have := Nat.le_of_ble_eq_true q.1
          omega
        · exfalso
          unfold B11z at q
          rw [if_neg (by decide), Bool.and_eq_true] at q
          have := Nat.le_of_ble_eq_true q.1
          omega
        · exfalso
          unfold ex2 at q
          rw [if_neg (by decide), Bool.and_eq_true, Bool.and_eq_true, Bool.and_eq_true, Bool.and_eq_true] at q
          have a1 := Nat.eq_of_beq_eq_true q.2.2.2.1
          have a2 := Nat.eq_of_beq_eq_true q.2.1
          have a3 := Nat.eq_of_beq_eq_true q.1
          have a4 := Nat.eq_of_beq_eq_true q.2.2.1
          omega
    · rw [el, if_neg (fun z => c58 (Nat.le_of_ble_eq_true z)), Bool.true_and]
      rcases q with q | q
      · exact q
      · exfalso
        rw [Bool.and_eq_true] at q
        have := Nat.le_of_ble_eq_true q.1
        omega
/-- what is left without names: one binder, or the designated scheme is a bound itself -/
def Lf3 (Γ : List Ty) : Prop := ∃ (Δ1 Γ0 : List Ty) (b b' B C : Ty), Γ = cxs Δ1 Γ0 b ∧ LBd Γ0 Δ1 b b' B C ∧ ¬ IS2 (fun _ => False) b ∧ (hd b = 2 ∨ (Γ0 = [] ∧ Δ1 = []))
theorem cov_wn {f : Nat} {t : Ty} {Γ : List Ty} {Δ : List (Nat × Ty × Nat)} (he : TE Γ Δ) (na : ∀ a ∈ Γ, noal a = true) (nΔ : Δ = []) (ch : CHo f t []) (h20 : 20 ≤ cch Γ) (h47 : cch Γ ≤ 47) (m3 : 3 ≤ mch (pee f t).2) (hb : cch Γ + dch Δ + 2 * mch (pee f t).2 ≤ 58) : AzT f t Γ Δ ∨ AzR f t Γ Δ ∨ AzH f t Γ Δ ∨ AzP f t Γ Δ ∨ AzS f t Γ Δ ∨ Lf3 Γ := by
  have ch' := pee_cho f t [] ch
  have d0 : dch Δ = 0 := by rw [nΔ]; rfl
  have eI : Δ.isEmpty = true := by rw [nΔ]; rfl
  rcases lb_ex2 Γ he.1 na h47 with i | ⟨Δ1, Γ0, b, b', B, C, e, lb, nf⟩
  · exact Or.inr (Or.inr (Or.inr (Or.inl ⟨i, ch', m3, hb⟩)))
  by_cases h2 : hd b = 2
  · exact Or.inr (Or.inr (Or.inr (Or.inr (Or.inr ⟨Δ1, Γ0, b, b', B, C, e, lb, nf, Or.inl h2⟩))))
  by_cases h1 : Γ0 = [] ∧ Δ1 = []
  · exact Or.inr (Or.inr (Or.inr (Or.inr (Or.inr ⟨Δ1, Γ0, b, b', B, C, e, lb, nf, Or.inr h1⟩))))
  have hc := he.1
  rw [e] at hc
  obtain ⟨oc0, ob⟩ := okc_low Δ1 hc
  have oσ := lb.1.2.1
  have pB := tch_pos (ok_all.mp oσ).1
  have pC := tch_pos (ok_all.mp oσ).2
  have eσ := tch_all B C
  have hov := ov_three lb.1 ob nf h2
  have ec := cch_cx (Γ0 := Γ0) (β := b) Δ1
  rw [← e] at ec
  have pos : ∀ a ∈ Γ, 1 ≤ tch a := fun a ha => by
    obtain ⟨d, o1, -⟩ := okc_mch he.1 ha
    exact tch_pos o1
  obtain ⟨o1, z1⟩ := q05_of (Γ := Γ0) (fun a ha => pos a (by rw [e]; unfold cxs; simp [ha]))
  obtain ⟨o2, z2⟩ := q05_of (Γ := Δ1) (fun a ha => pos a (by rw [e]; unfold cxs; simp [ha]))
  have nz : 1 ≤ cch Γ0 + cch Δ1 := by
    rcases Nat.eq_zero_or_pos (cch Γ0 + cch Δ1) with q | q
    · exact absurd ⟨z1 (by omega), z2 (by omega)⟩ h1
    · exact q
  generalize eo : tch b - tch (tAll B C) = ov at *
  have c1 : 8 + tch B + tch C + ov + cch Γ0 + cch Δ1 = cch Γ := by omega
  have q := ci3_num (m := mch (pee f t).2) pB pC (show 3 ≤ ov by omega) o1 o2 nz m3 (by omega) (by omega) (by omega)
  rw [c1] at q
  rcases q with q | q | q | q
  · exact Or.inl ⟨ch', by rw [eI]; exact q, hb⟩
  · exact Or.inr (Or.inl ⟨Δ1, Γ0, b, b', B, C, e, lb, ch', by rw [eI, eo]; exact q, m3, by omega, hb⟩)
  · refine Or.inr (Or.inr (Or.inl ⟨Δ1, Γ0, b, b', B, C, e, fun a ha h9 => ?_, lb, ch', by rw [eI, eo]; exact q.2.2, m3, by omega, hb⟩))
    have ha : a ∈ Δ1 ++ b :: Γ0 := ha
    have big : ∀ {D : Nat}, ok D a = true → 6 ≤ tch a := by
      intro D o
      rcases ok_cases o with rfl | ⟨j, hj, rfl⟩ | ⟨a', c', rfl, ha', hb'⟩ | ⟨a', c', rfl, ha', hb'⟩ | ⟨c', x, y, z, hm, rfl, h0, h1', h2'⟩
      · exact absurd h9 (by decide)
      · rw [hd_var] at h9
        omega
      · rw [hd_fun] at h9
        cases h9
      · have := tch_pos ha'
        have := tch_pos hb'
        rw [tch_all]
        omega
      · rw [hd_rec] at h9
        omega
    rcases List.mem_append.mp ha with ha' | ha'
    · have hΔ1 : tch a + 4 ≤ cch Δ1 := mem_cch ha'
      obtain ⟨d, o9, -⟩ := okc_mch he.1 (by rw [e]; exact ha)
      have := big o9
      omega
    · rcases List.mem_cons.mp ha' with rfl | ha'
      · exact h2 h9
      · have hΓ0 : tch a + 4 ≤ cch Γ0 := mem_cch ha'
        obtain ⟨d, o9, -⟩ := okc_mch he.1 (by rw [e]; exact ha)
        have := big o9
        omega
  · exact Or.inr (Or.inr (Or.inr (Or.inr (Or.inl ⟨nΔ, Δ1, Γ0, b, b', B, C, e, lb, ch', by rw [eo]; exact q.1, q.2, hb⟩))))
def Cv6 (f : Nat) (x y : Ty) (Γ : List Ty) (Δ : List (Nat × Ty × Nat)) : Prop := Δ = [] → (mch x ≤ mch y → CHo f x [] → Lf3 Γ) ∧ (¬ mch x ≤ mch y → CHo f y [] → Lf3 Γ)
def RESTF9 : Prop := ∀ (f : Nat) (x y : Ty) (Γ : List Ty) (Δ : List (Nat × Ty × Nat)), TWf f Γ.length (Δ.map (fun a => a.1)) x → TWf f Γ.length (Δ.map (fun a => a.1)) y → TE Γ Δ → NAt f x → NAt f y → noac Γ → (∀ a ∈ Δ, noal a.2.1 = true) → TNo f x → TNo f y → 3 ≤ mch x → 3 ≤ mch y → (mch x ≤ mch y → ¬ NOp f x) → (¬ mch x ≤ mch y → ¬ NOp f y) → 20 ≤ cch Γ → cch Γ ≤ 47 → cch Γ + dch Δ + (2 + (mch x + mch y)) ≤ 60 → NoO f x y Γ Δ → ¬ AzT f x Γ Δ → ¬ AzT f y Γ Δ → ¬ AzB f x Γ Δ → ¬ AzB f y Γ Δ → ¬ AzC f x Γ Δ → ¬ AzC f y Γ Δ → ¬ AzI f x Γ Δ → ¬ AzI f y Γ Δ → ¬ AzF f x Γ Δ → ¬ AzF f y Γ Δ → ¬ AzG f x Γ Δ → ¬ AzG f y Γ Δ → ¬ AzH f x Γ Δ → ¬ AzH f y Γ Δ → ¬ PrS f x y Γ Δ → ¬ AzK f x Γ Δ → ¬ AzK f y Γ Δ → ¬ AzL f x Γ Δ → ¬ AzL f y Γ Δ → ¬ AzM f x Γ Δ → ¬ AzM f y Γ Δ → ¬ PrG f x y Γ Δ → ¬ AzN f x Γ Δ → ¬ AzN f y Γ Δ → ¬ One9 Γ → ¬ AzO f x Γ Δ → ¬ AzO f y Γ Δ → ¬ AzP f x Γ Δ → ¬ AzP f y Γ Δ → ¬ AzQ f x Γ Δ → ¬ AzQ f y Γ Δ → ¬ AzR f x Γ Δ → ¬ AzR f y Γ Δ → ¬ AzS f x Γ Δ → ¬ AzS f y Γ Δ → Cv2 f x y Γ Δ → Cv4 f x y Γ Δ → Cv5 f x y Γ Δ → Cv6 f x y Γ Δ → (¬ ((mch x ≤ mch y → CHo f x []) ∧ (¬ mch x ≤ mch y → CHo f y [])) ∨ LeftJ f x y Γ Δ) → PRn f x y Γ Δ
theorem reste9_of (R : RESTF9) : RESTE9 := by
  intro f x y Γ Δ x1 x2 he y1 y2 hv hd' tx ty m3 n3 no1 no2 h20 h47 hb ng ax ay bx bz cx cy dx dy ex ey gx gy ix iy jx kx ky lx ly mx my px qx qy ox ux uy vx vy wx wy zx zy sx sy c2 c4 c5 hL
  by_cases p3 : 3 ≤ mch (pee f x).2
  rotate_left
  · have pm := (pee_ok f _ _ x x1).1.2
    exact pair_ntv x1 x2 he y1 y2 hv hd' (by omega) (Or.inl (pee_small x1 he (by omega) (by omega)))
  by_cases r3 : 3 ≤ mch (pee f y).2
  rotate_left
  · exact pair_ntv x1 x2 he y1 y2 hv hd' (by omega) (Or.inr (pee_small x2 he (by omega) (by omega)))
  have na : ∀ a ∈ Γ, noal a = true := noac_mem hv
  refine R f x y Γ Δ x1 x2 he y1 y2 hv hd' tx ty m3 n3 no1 no2 h20 h47 hb ng ax ay bx bz cx cy dx dy ex ey gx gy ix iy jx kx ky lx ly mx my px qx qy ox ux uy vx vy wx wy zx zy sx sy c2 c4 c5 (fun nΔ => ⟨fun le ch => ?_, fun le ch => ?_⟩) hL
  · have pm := (pee_ok f _ _ x x1).1.2
    rcases cov_wn he na nΔ ch h20 h47 p3 (by omega) with q | q | q | q | q | q
    · exact absurd q ax
    · exact absurd q zx
    · exact absurd q ix
    · exact absurd q vx
    · exact absurd q sx
    · exact q
  · have pm := (pee_ok f _ _ y x2).1.2
    rcases cov_wn he na nΔ ch h20 h47 r3 (by omega) with q | q | q | q | q | q
    · exact absurd q ay
    · exact absurd q zy
    · exact absurd q iy
    · exact absurd q vy
    · exact absurd q sy
    · exact q
theorem pairn_pf (R : RESTF9) : PAIRn := pairn_pe (reste9_of R)
