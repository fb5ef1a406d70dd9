/-! RESTN9: terms of at most five characters where no binder stands behind the scheme. -/
def lt9 (be k q1 : Nat) : Bool := [(5, 9, 23), (5, 9, 24), (5, 9, 25), (5, 10, 23), (5, 10, 24), (5, 11, 23), (5, 13, 20), (5, 13, 21), (5, 14, 20), (6, 9, 23), (6, 9, 24), (6, 10, 23), (6, 13, 20), (7, 9, 23), (9, 9, 20), (9, 9, 21), (9, 10, 20), (9, 13, 17), (10, 9, 20)].any (fun a => Nat.beq be a.1 && (Nat.beq k a.2.1 && Nat.beq q1 a.2.2))
def ct9 : Bool := eL0.all (fun l => l.all (fun a => Nat.blt 0 a.2.2.2 || (Nat.ble a.1 1 || (t9z a.1 a.2.1 a.2.2.1 (8 + a.1 + a.2.1 + a.2.2.1) || lt9 a.1 a.2.1 a.2.2.1))))
theorem ct9_ok : ct9 = true := by decide +kernel
theorem exC_t : (List.range 18).all (fun be => (List.range 38).all (fun k => !(exC false 5 be k) || t9z be k 0 (8 + be + k))) = true := by decide +kernel
theorem exC_b {m be k : Nat} (m5 : m ≤ 5) (h : exC false m be k = true) : exC false 5 be k = true ∧ be < 18 ∧ k < 38 := by
  unfold exC at h ⊢
  rw [if_neg Bool.false_ne_true, if_pos (Nat.ble_eq_true_of_le m5)] at h
  rw [if_neg Bool.false_ne_true, if_pos (by decide)]
  refine ⟨h, ?_⟩
  simp only [Bool.or_eq_true, Bool.and_eq_true] at h
  rcases h with ⟨a, -, b⟩ | ⟨a, ⟨-, b⟩ | ⟨-, b⟩⟩ | ⟨a, b⟩ | ⟨a, b⟩
  · have := Nat.eq_of_beq_eq_true a
    have := Nat.le_of_ble_eq_true b
    omega
  · have := Nat.eq_of_beq_eq_true a
    have := Nat.le_of_ble_eq_true b
    omega
  · have := Nat.eq_of_beq_eq_true a
    have := Nat.le_of_ble_eq_true b
    omega
  · have := Nat.eq_of_beq_eq_true a
    have := Nat.eq_of_beq_eq_true b
    omega
  · have := Nat.eq_of_beq_eq_true a
    have := Nat.eq_of_beq_eq_true b
    omega
theorem ct9_get {m be k q1 : Nat} (m5 : m ≤ 5) (b2 : 2 ≤ be) (h : exl false m be k q1 0 = true) : t9z be k q1 (8 + be + k + q1) = true ∨ lt9 be k q1 = true := by
  unfold exl at h
  rw [if_neg Bool.false_ne_true, if_pos (Nat.ble_eq_true_of_le m5)] at h
  have hc : (eL0.getD (8 + be + k + q1 + 0) []) ∈ eL0 ∨ eL0.getD (8 + be + k + q1 + 0) [] = [] := by
    by_cases c1 : 8 + be + k + q1 + 0 < eL0.length
    · left
      rw [List.getD_eq_getElem?_getD, List.getElem?_eq_getElem c1]
      exact List.getElem_mem c1
    · right
      rw [List.getD_eq_getElem?_getD, List.getElem?_eq_none (by omega)]
      rfl
  rcases hc with hc | hc
  · unfold mem4 at h
    obtain ⟨a, ha, e1⟩ := List.any_eq_true.mp h
    have p := List.all_eq_true.mp (List.all_eq_true.mp ct9_ok _ hc) a ha
    rw [Bool.and_eq_true, Bool.and_eq_true, Bool.and_eq_true] at e1
    rw [← Nat.eq_of_beq_eq_true e1.1, ← Nat.eq_of_beq_eq_true e1.2.1, ← Nat.eq_of_beq_eq_true e1.2.2.1, ← Nat.eq_of_beq_eq_true e1.2.2.2, Bool.or_eq_true, Bool.or_eq_true, Bool.or_eq_true] at p
    rcases p with p | p | p | p
    · exact (blt_no (Nat.le_refl _) p).elim
    · have := Nat.le_of_ble_eq_true p
      omega
    · exact Or.inl p
    · exact Or.inr p
  · rw [hc] at h
    cases h
def cd9 : Bool := eL0.all (fun l => l.all (fun a => Nat.blt 0 a.2.2.2 || (Nat.ble a.1 1 || (Nat.ble 44 (8 + a.1 + a.2.1 + a.2.2.1) || t9d a.1 a.2.1 a.2.2.1))))
theorem cd9_ok : cd9 = true := by decide +kernel
theorem cd9_get {m be k q1 : Nat} (m5 : m ≤ 5) (b2 : 2 ≤ be) (c43 : 8 + be + k + q1 ≤ 43) (h : exl false m be k q1 0 = true) : t9d be k q1 = true := by
  unfold exl at h
  rw [if_neg Bool.false_ne_true, if_pos (Nat.ble_eq_true_of_le m5)] at h
  have hc : (eL0.getD (8 + be + k + q1 + 0) []) ∈ eL0 ∨ eL0.getD (8 + be + k + q1 + 0) [] = [] := by
    by_cases c1 : 8 + be + k + q1 + 0 < eL0.length
    · left
      rw [List.getD_eq_getElem?_getD, List.getElem?_eq_getElem c1]
      exact List.getElem_mem c1
    · right
      rw [List.getD_eq_getElem?_getD, List.getElem?_eq_none (by omega)]
      rfl
  rcases hc with hc | hc
  · unfold mem4 at h
    obtain ⟨a, ha, e1⟩ := List.any_eq_true.mp h
    have p := List.all_eq_true.mp (List.all_eq_true.mp cd9_ok _ hc) a ha
    rw [Bool.and_eq_true, Bool.and_eq_true, Bool.and_eq_true] at e1
    rw [← Nat.eq_of_beq_eq_true e1.1, ← Nat.eq_of_beq_eq_true e1.2.1, ← Nat.eq_of_beq_eq_true e1.2.2.1, ← Nat.eq_of_beq_eq_true e1.2.2.2, Bool.or_eq_true, Bool.or_eq_true, Bool.or_eq_true] at p
    rcases p with p | p | p | p
    · exact (blt_no (Nat.le_refl _) p).elim
    · have := Nat.le_of_ble_eq_true p
      omega
    · have := Nat.le_of_ble_eq_true p
      omega
    · exact p
  · rw [hc] at h
    cases h
def W9b (m : Nat) (e : Bool) (Γ : List Ty) : Prop := (e = false ∧ ExA Γ) ∨ (∃ B C : Ty, Γ = [tAll B C] ∧ 2 ≤ tch B ∧ ExC e m Γ ∧ (e = true ∨ 6 ≤ m)) ∨ (e = false ∧ ∃ (Δ1 Γ0 : List Ty) (b b' B C : Ty), Γ = cxs Δ1 Γ0 b ∧ LBd Γ0 Δ1 b b' B C ∧ ¬ IS2 (fun _ => False) b ∧ hd b ≠ 2 ∧ 1 ≤ cch Γ0 + cch Δ1 ∧ ex2 m (tch B) (tch C) (tch b - tch (tAll B C)) (cch Γ0) (cch Δ1) = true)
def W9t (m : Nat) (e : Bool) (Γ : List Ty) : Prop := ∃ (Δ1 Γ0 : List Ty) (B C : Ty), Γ = cxs Δ1 Γ0 (tAll B C) ∧ LBd Γ0 Δ1 (tAll B C) tTop B C ∧ 1 ≤ cch Γ0 + cch Δ1 ∧ exl e m (tch B) (tch C) (cch Γ0) (cch Δ1) = true ∧ (e = true ∨ 6 ≤ m ∨ 1 ≤ cch Δ1 ∨ lt9 (tch B) (tch C) (cch Γ0) = true) ∧ ((tch B = 1 ∧ tp2 (tch B) (tch C) (cch Γ0) (cch Δ1) = true) ∨ (2 ≤ tch B ∧ sN B Γ0.length (Γ0.length + 1) C = true ∧ lx9 e m (tch B) (tch C) (cch Γ0) (cch Δ1) = true) ∨ (2 ≤ tch B ∧ sN B Γ0.length (Γ0.length + 1) C = false ∧ ∃ j, j < Γ0.length ∧ sN B Γ0.length j (bnd Γ0 j) = true) ∨ (2 ≤ tch B ∧ OVq 1 B C Dsm Γ0 ∧ ndk (cch Γ0) (cch Δ1) = false))
def RESTN9 : Prop := ∀ (f : Nat) (x y : Ty) (Γ : List Ty) (Δ : List (Nat × Ty × Nat)) (t : Ty), H9 f x y Γ Δ → Sh9 x y t → (¬ CHo f t [] ∨ (CHo f t [] ∧ (W9b (mch (pee f t).2) Δ.isEmpty Γ ∨ W9t (mch (pee f t).2) Δ.isEmpty Γ))) → PRn f x y Γ Δ
theorem t3_pair {f : Nat} {x y t B C : Ty} {Γ Γ0 : List Ty} {Δ : List (Nat × Ty × Nat)} (H : H9 f x y Γ Δ) (sh : Sh9 x y t) (e : Γ = tAll B C :: Γ0) (b2 : 2 ≤ tch B) (k40 : tch C ≤ 40) (m5 : mch (pee f t).2 ≤ 5) (zc : t9z (tch B) (tch C) (cch Γ0) (cch Γ) = true) (zd : hd C ≠ 2 ∨ mch (pee f t).2 ≤ 4 ∨ Γ0 = [] ∨ t9d (tch B) (tch C) (cch Γ0) = true) : PRn f x y Γ Δ := by
  obtain ⟨⟨wt, nt, tt, m3', m3, n9⟩, pm, hbt⟩ := h9_t H sh
  have H' := H
  obtain ⟨-, -, ⟨he, hv, hd', h20, h47, -⟩, -⟩ := H'
  refine h9_ntv H sh (NtV_pee f t wt he ?_)
  have po := pee_ok f _ _ t wt
  subst e
  have na : noal (tAll B C) = true := noac_mem hv _ List.mem_cons_self
  rw [noal_all, Bool.and_eq_true, decide_eq_true_iff] at na
  have oB : ok Γ0.length B = true := (ok_all.mp he.1.1).1
  have h0 : hd B ≠ 0 := fun q => by
    have e := top_of oB q
    rw [e] at b2
    exact absurd b2 (by decide)
  exact nat_t3 po.1.1 he hv h0 na.1 b2 k40 m3 m5 po.2.2.2.1 po.2.2.2.2 h47 (by omega) zc zd
theorem restM9_of (R : RESTN9) : RESTM9 := by
  intro f x y Γ Δ t H sh h
  rcases h with h | ⟨ch, h | h⟩
  · exact R f x y Γ Δ t H sh (Or.inl h)
  · rcases h with h | ⟨B, C, e, b2, hx⟩ | h
    · exact R f x y Γ Δ t H sh (Or.inr ⟨ch, Or.inl (Or.inl h)⟩)
    · have keep : (Δ.isEmpty = true ∨ 6 ≤ mch (pee f t).2) → PRn f x y Γ Δ := fun q => R f x y Γ Δ t H sh (Or.inr ⟨ch, Or.inl (Or.inr (Or.inl ⟨B, C, e, b2, hx, q⟩))⟩)
      cases eI : Δ.isEmpty with
      | true => exact keep (Or.inl eI)
      | false =>
        by_cases m6 : 6 ≤ mch (pee f t).2
        · exact keep (Or.inr m6)
        have hx' := hx
        rw [eI] at hx'
        obtain ⟨B', C', e', lb, fl, q⟩ := hx'
        rw [e] at e'
        injection e' with e1 e2
        have e3 : B = B' := congrArg k1 e1
        have e4 : C = C' := congrArg k2 e1
        subst e3
        subst e4
        obtain ⟨q5, qb, qk⟩ := exC_b (m := mch (pee f t).2) (by omega) q
        have z := rng_all (rng_all exC_t (i := tch B) qb) (i := tch C) qk
        rw [q5] at z
        have z : t9z (tch B) (tch C) 0 (8 + tch B + tch C) = true := z
        have ec : cch Γ = 8 + tch B + tch C := by
          rw [e]
          show (tch (tAll B C) + 4) + 0 = _
          rw [tch_all]
          omega
        exact t3_pair (Γ0 := []) H sh e b2 (by omega) (by omega) (by rw [ec]; exact z) (Or.inr (Or.inr (Or.inl rfl)))
    · exact R f x y Γ Δ t H sh (Or.inr ⟨ch, Or.inl (Or.inr (Or.inr h))⟩)
  obtain ⟨Δ1, Γ0, B, C, e, lb, nz, hx, h4⟩ := h
  have keep : (Δ.isEmpty = true ∨ 6 ≤ mch (pee f t).2 ∨ 1 ≤ cch Δ1 ∨ lt9 (tch B) (tch C) (cch Γ0) = true) → PRn f x y Γ Δ := fun q => R f x y Γ Δ t H sh (Or.inr ⟨ch, Or.inr ⟨Δ1, Γ0, B, C, e, lb, nz, hx, q, h4⟩⟩)
  cases eI : Δ.isEmpty with
  | true => exact keep (Or.inl eI)
  | false =>
    by_cases m6 : 6 ≤ mch (pee f t).2
    · exact keep (Or.inr (Or.inl m6))
    by_cases q1 : 1 ≤ cch Δ1
    · exact keep (Or.inr (Or.inr (Or.inl q1)))
    have H' := H
    obtain ⟨-, -, ⟨he, -⟩, -⟩ := H'
    have pos : ∀ a ∈ Δ1, 1 ≤ tch a := fun a ha => by
      obtain ⟨d, o1, -⟩ := okc_mch he.1 (show a ∈ Γ by rw [e]; unfold cxs; simp [ha])
      exact tch_pos o1
    have g1 := (q05_of pos).2 (by omega)
    subst g1
    rw [eI] at hx
    have hx : exl false (mch (pee f t).2) (tch B) (tch C) (cch Γ0) 0 = true := hx
    have e : Γ = tAll B C :: Γ0 := e
    by_cases b2 : 2 ≤ tch B
    rotate_left
    · exfalso
      rcases h4 with ⟨b1, h4⟩ | h4 | h4 | h4
      · have h5 : tp2 (tch B) (tch C) (cch Γ0) 0 = true := h4
        unfold tp2 at h5
        rw [Bool.and_eq_true, Bool.or_eq_true, Bool.and_eq_true, Bool.and_eq_true, Bool.and_eq_true, Bool.and_eq_true] at h5
        have : (List.range 48).all (fun k => (List.range 48).all (fun q1 => !(exl false 5 1 k q1 0) || !(tp2 1 k q1 0))) = true := by decide +kernel
        have hx5 : exl false 5 (tch B) (tch C) (cch Γ0) 0 = true := by
          unfold exl at hx ⊢
          rw [if_neg Bool.false_ne_true, if_pos (Nat.ble_eq_true_of_le (show mch (pee f t).2 ≤ 5 by omega))] at hx
          rw [if_neg Bool.false_ne_true, if_pos (by decide)]
          exact hx
        rcases h5.2 with h6 | h6
        · have k1 := Nat.eq_of_beq_eq_true h6.1
          have k2 := Nat.eq_of_beq_eq_true h6.2.1
          have q := rng_all (rng_all this (i := tch C) (by omega)) (i := cch Γ0) (by omega)
          rw [b1] at hx5
          rw [hx5] at q
          have h4' : tp2 1 (tch C) (cch Γ0) 0 = true := by rw [← b1]; exact h4
          rw [h4'] at q
          cases q
        · have k3 := Nat.eq_of_beq_eq_true h6.2.2
          exact absurd k3 (by decide)
      · exact b2 h4.1
      · exact b2 h4.1
      · exact b2 h4.1
    have k40 := lb.2.2.2.1
    have ec : cch Γ = 8 + tch B + tch C + cch Γ0 := by
      rw [e]
      show (tch (tAll B C) + 4) + cch Γ0 = _
      rw [tch_all]
      omega
    rcases ct9_get (by omega) b2 hx with z | z
    · by_cases m4 : mch (pee f t).2 ≤ 4
      · exact t3_pair H sh e b2 k40 (by omega) (by rw [ec]; exact z) (Or.inr (Or.inl m4))
      · obtain ⟨-, pm, hbt⟩ := h9_t H sh
        have d5 := dch_five he (show Δ ≠ [] from fun q => by rw [q] at eI; cases eI)
        exact t3_pair H sh e b2 k40 (by omega) (by rw [ec]; exact z) (Or.inr (Or.inr (Or.inr (cd9_get (m := mch (pee f t).2) (by omega) b2 (by omega) hx))))
    · exact keep (Or.inr (Or.inr (Or.inr z)))
theorem pairn_pn (R : RESTN9) : PAIRn := pairn_pm (restM9_of R)
