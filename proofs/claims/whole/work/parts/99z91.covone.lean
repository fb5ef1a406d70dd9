/-! ONE BINDER THAT IS NO SCHEME ITSELF, names around: only bodies of 31 characters that hold the very bound Top are left. -/
theorem cvo_of {fl : Bool} {m m' be k ov : Nat} (h5 : Nat.ble m' 5 = Nat.ble m 5) (ha : az false m' (8 + be + k + ov) = true → az false m (8 + be + k + ov) = true) (h : cvo fl m' be k ov = true) : (fl = false ∧ ov ≤ 7) ∨ az false m (8 + be + k + ov) = true ∨ B1z false m (4 + be + k + ov) 0 0 = true ∨ B12z false m be k ov 0 0 = true ∨ B6z false m be k ov 0 0 = true ∨ (fl = true ∧ be ≤ 16 ∧ (B10z m be k ov 0 0 = true ∨ (be = 1 ∧ k = 31 ∧ ov = 3))) := by
  have e1 : B1z false m' (4 + be + k + ov) 0 0 = B1z false m (4 + be + k + ov) 0 0 := by unfold B1z; rw [h5]
  have e2 : B12z false m' be k ov 0 0 = B12z false m be k ov 0 0 := by unfold B12z; rw [if_neg Bool.false_ne_true, if_neg Bool.false_ne_true, h5]
  have e3 : B6z false m' be k ov 0 0 = B6z false m be k ov 0 0 := by unfold B6z; rw [if_neg Bool.false_ne_true, if_neg Bool.false_ne_true, h5]
  have e4 : B10z m' be k ov 0 0 = B10z m be k ov 0 0 := by unfold B10z; rw [h5]
  unfold cvo at h
  rw [e1, e2, e3, e4] at h
  rw [Bool.or_eq_true, Bool.or_eq_true, Bool.or_eq_true, Bool.or_eq_true, Bool.or_eq_true] at h
  rcases h with h | h | h | h | h | h
  · rw [Bool.and_eq_true] at h
    refine Or.inl ⟨?_, Nat.le_of_ble_eq_true h.2⟩
    cases fl with
    | false => rfl
    | true => exact absurd h.1 (by decide)
  · exact Or.inr (Or.inl (ha h))
  · exact Or.inr (Or.inr (Or.inl h))
  · exact Or.inr (Or.inr (Or.inr (Or.inl h)))
  · exact Or.inr (Or.inr (Or.inr (Or.inr (Or.inl h))))
  · rw [Bool.and_eq_true, Bool.and_eq_true, Bool.or_eq_true] at h
    refine Or.inr (Or.inr (Or.inr (Or.inr (Or.inr ⟨h.1, Nat.le_of_ble_eq_true h.2.1, h.2.2.imp id (fun q => ?_)⟩))))
    rw [Bool.and_eq_true, Bool.and_eq_true, Bool.and_eq_true] at q
    exact ⟨Nat.eq_of_beq_eq_true q.2.1, Nat.eq_of_beq_eq_true q.2.2.1, Nat.eq_of_beq_eq_true q.2.2.2⟩
theorem cva_get {fl : Bool} {m c be k ov : Nat} (h : cva fl m c = true) (p1 : 1 ≤ be) (p2 : 1 ≤ k) (p3 : 3 ≤ ov) (ec : 8 + be + k + ov = c) : cvo fl m be k ov = true := by
  unfold cva at h
  have q := rng_all h (i := be) (by omega)
  rw [Bool.or_eq_true] at q
  rcases q with q | q
  · exact (blt_no p1 q).elim
  have q := rng_all q (i := ov) (by omega)
  rw [Bool.or_eq_true, Bool.or_eq_true] at q
  rcases q with q | q | q
  · exact (blt_no p3 q).elim
  · have := Nat.le_of_ble_eq_true q
    omega
  · have e : c - 8 - be - ov = k := by omega
    rw [e] at q
    exact q
theorem cvm_5 : ∀ (fl : Bool) (c : Nat), 20 ≤ c → c < 48 → cva fl 5 c = true
  | true, c, h1, h2 => by
    rcases (show c = 20 ∨ c = 21 ∨ c = 22 ∨ c = 23 ∨ c = 24 ∨ c = 25 ∨ c = 26 ∨ c = 27 ∨ c = 28 ∨ c = 29 ∨ c = 30 ∨ c = 31 ∨ c = 32 ∨ c = 33 ∨ c = 34 ∨ c = 35 ∨ c = 36 ∨ c = 37 ∨ c = 38 ∨ c = 39 ∨ c = 40 ∨ c = 41 ∨ c = 42 ∨ c = 43 ∨ c = 44 ∨ c = 45 ∨ c = 46 ∨ c = 47 by omega) with rfl | rfl | rfl | rfl | rfl | rfl | rfl | rfl | rfl | rfl | rfl | rfl | rfl | rfl | rfl | rfl | rfl | rfl | rfl | rfl | rfl | rfl | rfl | rfl | rfl | rfl | rfl | rfl
    · exact cv5_t_20
    · exact cv5_t_21
    · exact cv5_t_22
    · exact cv5_t_23
    · exact cv5_t_24
    · exact cv5_t_25
    · exact cv5_t_26
    · exact cv5_t_27
    · exact cv5_t_28
    · exact cv5_t_29
    · exact cv5_t_30
    · exact cv5_t_31
    · exact cv5_t_32
    · exact cv5_t_33
    · exact cv5_t_34
    · exact cv5_t_35
    · exact cv5_t_36
    · exact cv5_t_37
    · exact cv5_t_38
    · exact cv5_t_39
    · exact cv5_t_40
    · exact cv5_t_41
    · exact cv5_t_42
    · exact cv5_t_43
    · exact cv5_t_44
    · exact cv5_t_45
    · exact cv5_t_46
    · exact cv5_t_47
  | false, c, h1, h2 => by
    rcases (show c = 20 ∨ c = 21 ∨ c = 22 ∨ c = 23 ∨ c = 24 ∨ c = 25 ∨ c = 26 ∨ c = 27 ∨ c = 28 ∨ c = 29 ∨ c = 30 ∨ c = 31 ∨ c = 32 ∨ c = 33 ∨ c = 34 ∨ c = 35 ∨ c = 36 ∨ c = 37 ∨ c = 38 ∨ c = 39 ∨ c = 40 ∨ c = 41 ∨ c = 42 ∨ c = 43 ∨ c = 44 ∨ c = 45 ∨ c = 46 ∨ c = 47 by omega) with rfl | rfl | rfl | rfl | rfl | rfl | rfl | rfl | rfl | rfl | rfl | rfl | rfl | rfl | rfl | rfl | rfl | rfl | rfl | rfl | rfl | rfl | rfl | rfl | rfl | rfl | rfl | rfl
    · exact cv5_f_20
    · exact cv5_f_21
    · exact cv5_f_22
    · exact cv5_f_23
    · exact cv5_f_24
    · exact cv5_f_25
    · exact cv5_f_26
    · exact cv5_f_27
    · exact cv5_f_28
    · exact cv5_f_29
    · exact cv5_f_30
    · exact cv5_f_31
    · exact cv5_f_32
    · exact cv5_f_33
    · exact cv5_f_34
    · exact cv5_f_35
    · exact cv5_f_36
    · exact cv5_f_37
    · exact cv5_f_38
    · exact cv5_f_39
    · exact cv5_f_40
    · exact cv5_f_41
    · exact cv5_f_42
    · exact cv5_f_43
    · exact cv5_f_44
    · exact cv5_f_45
    · exact cv5_f_46
    · exact cv5_f_47
theorem cvm_6 : ∀ (fl : Bool) (c : Nat), 20 ≤ c → c < 42 → cva fl 6 c = true
  | true, c, h1, h2 => by
    rcases (show c = 20 ∨ c = 21 ∨ c = 22 ∨ c = 23 ∨ c = 24 ∨ c = 25 ∨ c = 26 ∨ c = 27 ∨ c = 28 ∨ c = 29 ∨ c = 30 ∨ c = 31 ∨ c = 32 ∨ c = 33 ∨ c = 34 ∨ c = 35 ∨ c = 36 ∨ c = 37 ∨ c = 38 ∨ c = 39 ∨ c = 40 ∨ c = 41 by omega) with rfl | rfl | rfl | rfl | rfl | rfl | rfl | rfl | rfl | rfl | rfl | rfl | rfl | rfl | rfl | rfl | rfl | rfl | rfl | rfl | rfl | rfl
    · exact cv6_t_20
    · exact cv6_t_21
    · exact cv6_t_22
    · exact cv6_t_23
    · exact cv6_t_24
    · exact cv6_t_25
    · exact cv6_t_26
    · exact cv6_t_27
    · exact cv6_t_28
    · exact cv6_t_29
    · exact cv6_t_30
    · exact cv6_t_31
    · exact cv6_t_32
    · exact cv6_t_33
    · exact cv6_t_34
    · exact cv6_t_35
    · exact cv6_t_36
    · exact cv6_t_37
    · exact cv6_t_38
    · exact cv6_t_39
    · exact cv6_t_40
    · exact cv6_t_41
  | false, c, h1, h2 => by
    rcases (show c = 20 ∨ c = 21 ∨ c = 22 ∨ c = 23 ∨ c = 24 ∨ c = 25 ∨ c = 26 ∨ c = 27 ∨ c = 28 ∨ c = 29 ∨ c = 30 ∨ c = 31 ∨ c = 32 ∨ c = 33 ∨ c = 34 ∨ c = 35 ∨ c = 36 ∨ c = 37 ∨ c = 38 ∨ c = 39 ∨ c = 40 ∨ c = 41 by omega) with rfl | rfl | rfl | rfl | rfl | rfl | rfl | rfl | rfl | rfl | rfl | rfl | rfl | rfl | rfl | rfl | rfl | rfl | rfl | rfl | rfl | rfl
    · exact cv6_f_20
    · exact cv6_f_21
    · exact cv6_f_22
    · exact cv6_f_23
    · exact cv6_f_24
    · exact cv6_f_25
    · exact cv6_f_26
    · exact cv6_f_27
    · exact cv6_f_28
    · exact cv6_f_29
    · exact cv6_f_30
    · exact cv6_f_31
    · exact cv6_f_32
    · exact cv6_f_33
    · exact cv6_f_34
    · exact cv6_f_35
    · exact cv6_f_36
    · exact cv6_f_37
    · exact cv6_f_38
    · exact cv6_f_39
    · exact cv6_f_40
    · exact cv6_f_41
theorem cvm_10 : ∀ (fl : Bool) (c : Nat), 20 ≤ c → c < 34 → cva fl 10 c = true
  | true, c, h1, h2 => by
    rcases (show c = 20 ∨ c = 21 ∨ c = 22 ∨ c = 23 ∨ c = 24 ∨ c = 25 ∨ c = 26 ∨ c = 27 ∨ c = 28 ∨ c = 29 ∨ c = 30 ∨ c = 31 ∨ c = 32 ∨ c = 33 by omega) with rfl | rfl | rfl | rfl | rfl | rfl | rfl | rfl | rfl | rfl | rfl | rfl | rfl | rfl
    · exact cv10_t_20
    · exact cv10_t_21
    · exact cv10_t_22
    · exact cv10_t_23
    · exact cv10_t_24
    · exact cv10_t_25
    · exact cv10_t_26
    · exact cv10_t_27
    · exact cv10_t_28
    · exact cv10_t_29
    · exact cv10_t_30
    · exact cv10_t_31
    · exact cv10_t_32
    · exact cv10_t_33
  | false, c, h1, h2 => by
    rcases (show c = 20 ∨ c = 21 ∨ c = 22 ∨ c = 23 ∨ c = 24 ∨ c = 25 ∨ c = 26 ∨ c = 27 ∨ c = 28 ∨ c = 29 ∨ c = 30 ∨ c = 31 ∨ c = 32 ∨ c = 33 by omega) with rfl | rfl | rfl | rfl | rfl | rfl | rfl | rfl | rfl | rfl | rfl | rfl | rfl | rfl
    · exact cv10_f_20
    · exact cv10_f_21
    · exact cv10_f_22
    · exact cv10_f_23
    · exact cv10_f_24
    · exact cv10_f_25
    · exact cv10_f_26
    · exact cv10_f_27
    · exact cv10_f_28
    · exact cv10_f_29
    · exact cv10_f_30
    · exact cv10_f_31
    · exact cv10_f_32
    · exact cv10_f_33
theorem cvm_13 : ∀ (fl : Bool) (c : Nat), 20 ≤ c → c < 28 → cva fl 13 c = true
  | true, c, h1, h2 => by
    rcases (show c = 20 ∨ c = 21 ∨ c = 22 ∨ c = 23 ∨ c = 24 ∨ c = 25 ∨ c = 26 ∨ c = 27 by omega) with rfl | rfl | rfl | rfl | rfl | rfl | rfl | rfl
    · exact cv13_t_20
    · exact cv13_t_21
    · exact cv13_t_22
    · exact cv13_t_23
    · exact cv13_t_24
    · exact cv13_t_25
    · exact cv13_t_26
    · exact cv13_t_27
  | false, c, h1, h2 => by
    rcases (show c = 20 ∨ c = 21 ∨ c = 22 ∨ c = 23 ∨ c = 24 ∨ c = 25 ∨ c = 26 ∨ c = 27 by omega) with rfl | rfl | rfl | rfl | rfl | rfl | rfl | rfl
    · exact cv13_f_20
    · exact cv13_f_21
    · exact cv13_f_22
    · exact cv13_f_23
    · exact cv13_f_24
    · exact cv13_f_25
    · exact cv13_f_26
    · exact cv13_f_27
theorem cvo_all {fl : Bool} {m be k ov : Nat} (p1 : 1 ≤ be) (p2 : 1 ≤ k) (p3 : 3 ≤ ov) (m3 : 3 ≤ m) (h20 : 20 ≤ 8 + be + k + ov) (h47 : 8 + be + k + ov ≤ 47) (hb : 8 + be + k + ov + 5 + 2 * m ≤ 58) : (fl = false ∧ ov ≤ 7) ∨ az false m (8 + be + k + ov) = true ∨ B1z false m (4 + be + k + ov) 0 0 = true ∨ B12z false m be k ov 0 0 = true ∨ B6z false m be k ov 0 0 = true ∨ (fl = true ∧ be ≤ 16 ∧ (B10z m be k ov 0 0 = true ∨ (be = 1 ∧ k = 31 ∧ ov = 3))) := by
  have bf : ∀ a b, b < a → Nat.ble a b = false := fun a b hab => by
    cases q : Nat.ble a b with
    | false => rfl
    | true => exact absurd (Nat.le_of_ble_eq_true q) (by omega)
  have azs : ∀ (m' : Nat) {c : Nat}, 3 ≤ m' → (m' ≤ 5 → m ≤ 5) → (m' ≤ 9 → m ≤ 9) → (m' ≤ 12 → m ≤ 12) → az false m' c = true → az false m c = true := by
    intro m' c k3 a1 a2 a3 h
    unfold az at h ⊢
    rw [Bool.and_eq_true, Bool.and_eq_true] at h ⊢
    refine ⟨h.1, Nat.ble_eq_true_of_le m3, ?_⟩
    have h := h.2.2
    rw [if_neg (by decide), Bool.or_eq_true, Bool.or_eq_true, Bool.and_eq_true, Bool.and_eq_true, Bool.and_eq_true] at h ⊢
    rcases h with h | h | h
    · exact Or.inl ⟨Nat.ble_eq_true_of_le (a1 (Nat.le_of_ble_eq_true h.1)), h.2⟩
    · exact Or.inr (Or.inl ⟨Nat.ble_eq_true_of_le (a2 (Nat.le_of_ble_eq_true h.1)), h.2⟩)
    · exact Or.inr (Or.inr ⟨Nat.ble_eq_true_of_le (a3 (Nat.le_of_ble_eq_true h.1)), h.2⟩)
  by_cases m5 : m ≤ 5
  · exact cvo_of (m' := 5) (by rw [Nat.ble_eq_true_of_le m5]; rfl) (azs 5 (by omega) (fun _ => m5) (fun _ => by omega) (fun _ => by omega)) (cva_get (cvm_5 fl _ h20 (by omega)) p1 p2 p3 rfl)
  have e5 : Nat.ble m 5 = false := bf _ _ (by omega)
  by_cases m9 : m ≤ 9
  · exact cvo_of (m' := 6) (by rw [e5]; rfl) (azs 6 (by omega) (fun q => by omega) (fun _ => m9) (fun _ => by omega)) (cva_get (cvm_6 fl _ h20 (by omega)) p1 p2 p3 rfl)
  by_cases m12 : m ≤ 12
  · exact cvo_of (m' := 10) (by rw [e5]; rfl) (azs 10 (by omega) (fun q => by omega) (fun q => by omega) (fun _ => m12)) (cva_get (cvm_10 fl _ h20 (by omega)) p1 p2 p3 rfl)
  · exact cvo_of (m' := 13) (by rw [e5]; rfl) (azs 13 (by omega) (fun q => by omega) (fun q => by omega) (fun q => by omega)) (cva_get (cvm_13 fl _ h20 (by omega)) p1 p2 p3 rfl)
/-- the one list that is left -/
def ExA (Γ : List Ty) : Prop := ∃ b b' B C : Ty, Γ = [b] ∧ LBd [] [] b b' B C ∧ sN B 0 1 C = true ∧ tch B = 1 ∧ tch C = 31 ∧ tch b = tch (tAll B C) + 3
theorem cov_v {f : Nat} {t b : Ty} {Δ : List (Nat × Ty × Nat)} (w : TWf f [b].length (Δ.map (fun a => a.1)) t) (he : TE [b] Δ) (hv : noac [b]) (nΔ : Δ ≠ []) (h2 : hd b ≠ 2) (ch : CHo f t []) (h20 : 20 ≤ cch [b]) (h47 : cch [b] ≤ 47) (m3 : 3 ≤ mch (pee f t).2) (hb : cch [b] + dch Δ + 2 * mch (pee f t).2 ≤ 58) : AzT f t [b] Δ ∨ AzB f t [b] Δ ∨ AzR f t [b] Δ ∨ AzH f t [b] Δ ∨ AzO f t [b] Δ ∨ AzP f t [b] Δ ∨ One9 [b] ∨ ExA [b] := by
  have ch' := pee_cho f t [] ch
  have d5 := dch_five he nΔ
  have ob : ok 0 b = true := he.1.1
  have eI : Δ.isEmpty = false := by
    cases Δ with
    | nil => exact absurd rfl nΔ
    | cons _ _ => rfl
  have na : ∀ a ∈ [b], noal a = true := fun a ha => by
    rw [List.mem_singleton] at ha
    subst ha
    exact (hv 0 (Nat.zero_lt_succ _)).1
  have hr : ∀ a ∈ cxs [] [] b, hd a ≠ 2 := fun a ha => by
    have ha : a ∈ [b] := ha
    rw [List.mem_singleton] at ha
    subst ha
    exact h2
  rcases lb_ex [b] he.1 na h47 with i | ⟨Δ1, Γ0, b1, b', B, C, e, lb⟩
  · exact Or.inr (Or.inr (Or.inr (Or.inr (Or.inr (Or.inl ⟨i, ch', m3, hb⟩)))))
  obtain ⟨r1, r2, r3⟩ : Δ1 = [] ∧ b1 = b ∧ Γ0 = [] := by
    unfold cxs at e
    cases Δ1 with
    | nil =>
      injection e with a1 a2
      exact ⟨rfl, a1.symm, a2.symm⟩
    | cons a Δ1 =>
      have l := congrArg List.length e
      simp at l
  subst r1
  subst r2
  subst r3
  have oσ : ok 0 (tAll B C) = true := lb.1.2.1
  have pB := tch_pos (ok_all.mp oσ).1
  have pC := tch_pos (ok_all.mp oσ).2
  have eσ := tch_all B C
  have ec : cch [b1] = tch b1 + 4 := rfl
  by_cases nf : IS2 (fun _ => False) b1
  · exact Or.inr (Or.inr (Or.inr (Or.inr (Or.inr (Or.inl ⟨fun a ha => by
      rw [List.mem_singleton] at ha
      subst ha
      exact nf, ch', m3, hb⟩)))))
  have hov : tch (tAll B C) + 3 ≤ tch b1 := by
    rcases sp_ex _ b1 0 (Nat.le_refl _) ob with i | ⟨d, B', C', sp, oσ'⟩
    · exact absurd i nf
    rcases IS2_sp d b1 sp lb.1.2.2.2.2 with q | ⟨o1, -, h5, -⟩
    · rw [q] at sp
      cases d with
      | zero =>
        have sp : b1 = tAll B C := sp
        rw [sp] at h2
        exact absurd (hd_all _ _) h2
      | succ d =>
        have q := (SPd_ch oσ (d + 1) b1 ob sp).2
        omega
    · omega
  generalize eo : tch b1 - tch (tAll B C) = ov at *
  have c1 : 8 + tch B + tch C + ov = cch [b1] := by omega
  have c2 : 4 + tch B + tch C + ov = tch b1 := by omega
  have q := cvo_all (fl := sN B 0 1 C) (m := mch (pee f t).2) pB pC (show 3 ≤ ov by omega) m3 (by omega) (by omega) (by omega)
  rw [c1, c2] at q
  rcases q with q | q | q | q | q | q
  · exact Or.inr (Or.inr (Or.inr (Or.inr (Or.inr (Or.inr (Or.inl (one_of ob lb nf (by omega) q.1)))))))
  · exact Or.inl ⟨ch', by rw [eI]; exact q, hb⟩
  · exact Or.inr (Or.inl ⟨[], [], b1, rfl, ⟨fun a ha => (by cases ha), fun a ha => (by cases ha)⟩, ch', by rw [eI]; exact q, m3, Nat.zero_le _, hb⟩)
  · exact Or.inr (Or.inr (Or.inl ⟨[], [], b1, b', B, C, rfl, lb, ch', by rw [eI, eo]; exact q, m3, Nat.zero_le _, hb⟩))
  · exact Or.inr (Or.inr (Or.inr (Or.inl ⟨[], [], b1, b', B, C, rfl, hr, lb, ch', by rw [eI, eo]; exact q, m3, Nat.zero_le _, hb⟩)))
  · rcases q.2.2 with q3 | ⟨q3, q4, q5⟩
    · exact Or.inr (Or.inr (Or.inr (Or.inr (Or.inl ⟨[], [], b1, b', B, C, rfl, (ok_all.mp oσ).1, q.2.1, q.1, nΔ, hr, lb, ch', by rw [eo]; exact q3, m3, Nat.zero_le _, hb⟩))))
    · exact Or.inr (Or.inr (Or.inr (Or.inr (Or.inr (Or.inr (Or.inr ⟨b1, b', B, C, rfl, lb, q.1, q3, q4, by omega⟩))))))
/-- one binder, no scheme itself, names around, the shorter term's choices with at most one argument behind: only that list -/
def Cv1 (f : Nat) (x y : Ty) (Γ : List Ty) (Δ : List (Nat × Ty × Nat)) : Prop := (∃ b, Γ = [b] ∧ hd b ≠ 2) → Δ ≠ [] → ((mch x ≤ mch y → CHo f x []) ∧ (¬ mch x ≤ mch y → CHo f y [])) → ExA Γ
def RESTA9 : Prop := ∀ (f : Nat) (x y : Ty) (Γ : List Ty) (Δ : List (Nat × Ty × Nat)), TWf f Γ.length (Δ.map (fun a => a.1)) x → TWf f Γ.length (Δ.map (fun a => a.1)) y → TE Γ Δ → NAt f x → NAt f y → noac Γ → (∀ a ∈ Δ, noal a.2.1 = true) → TNo f x → TNo f y → 3 ≤ mch x → 3 ≤ mch y → (mch x ≤ mch y → ¬ NOp f x) → (¬ mch x ≤ mch y → ¬ NOp f y) → 20 ≤ cch Γ → cch Γ ≤ 47 → cch Γ + dch Δ + (2 + (mch x + mch y)) ≤ 60 → NoO f x y Γ Δ → ¬ AzT f x Γ Δ → ¬ AzT f y Γ Δ → ¬ AzB f x Γ Δ → ¬ AzB f y Γ Δ → ¬ AzC f x Γ Δ → ¬ AzC f y Γ Δ → ¬ AzI f x Γ Δ → ¬ AzI f y Γ Δ → ¬ AzF f x Γ Δ → ¬ AzF f y Γ Δ → ¬ AzG f x Γ Δ → ¬ AzG f y Γ Δ → ¬ AzH f x Γ Δ → ¬ AzH f y Γ Δ → ¬ PrS f x y Γ Δ → ¬ AzK f x Γ Δ → ¬ AzK f y Γ Δ → ¬ AzL f x Γ Δ → ¬ AzL f y Γ Δ → ¬ AzM f x Γ Δ → ¬ AzM f y Γ Δ → ¬ PrG f x y Γ Δ → ¬ AzN f x Γ Δ → ¬ AzN f y Γ Δ → ¬ One9 Γ → ¬ AzO f x Γ Δ → ¬ AzO f y Γ Δ → ¬ AzP f x Γ Δ → ¬ AzP f y Γ Δ → ¬ AzQ f x Γ Δ → ¬ AzQ f y Γ Δ → ¬ AzR f x Γ Δ → ¬ AzR f y Γ Δ → Cv1 f x y Γ Δ → (¬ ((mch x ≤ mch y → CHo f x []) ∧ (¬ mch x ≤ mch y → CHo f y [])) ∨ LeftJ f x y Γ Δ) → PRn f x y Γ Δ
theorem restz9_of (R : RESTA9) : RESTz9 := by
  intro f x y Γ Δ x1 x2 he y1 y2 hv hd' tx ty m3 n3 no1 no2 h20 h47 hb ng ax ay bx bz cx cy dx dy ex ey gx gy ix iy jx kx ky lx ly mx my px qx qy ox ux uy vx vy wx wy zx zy hL
  by_cases c : Cv1 f x y Γ Δ
  · exact R f x y Γ Δ x1 x2 he y1 y2 hv hd' tx ty m3 n3 no1 no2 h20 h47 hb ng ax ay bx bz cx cy dx dy ex ey gx gy ix iy jx kx ky lx ly mx my px qx qy ox ux uy vx vy wx wy zx zy c hL
  by_cases ea : ExA Γ
  · exact absurd (fun _ _ _ => ea) c
  by_cases nΔ : Δ = []
  · exact absurd (fun _ q _ => absurd nΔ q) c
  by_cases hb1 : ∃ b, Γ = [b] ∧ hd b ≠ 2
  rotate_left
  · exact absurd (fun q _ _ => absurd q hb1) c
  by_cases hch : (mch x ≤ mch y → CHo f x []) ∧ (¬ mch x ≤ mch y → CHo f y [])
  rotate_left
  · exact absurd (fun _ _ q => absurd q hch) c
  obtain ⟨b, e, h2⟩ := hb1
  subst e
  by_cases le : mch x ≤ mch y
  · have pm := (pee_ok f _ _ x x1).1.2
    by_cases p3 : 3 ≤ mch (pee f x).2
    · rcases cov_v x1 he hv nΔ h2 (hch.1 le) h20 h47 p3 (by omega) with q | q | q | q | q | q | q | q
      · exact absurd q ax
      · exact absurd q bx
      · exact absurd q zx
      · exact absurd q ix
      · exact absurd q ux
      · exact absurd q vx
      · exact absurd q ox
      · exact absurd q ea
    · exact pair_ntv x1 x2 he y1 y2 hv hd' (by omega) (Or.inl (pee_small x1 he (by omega) (by omega)))
  · have pm := (pee_ok f _ _ y x2).1.2
    by_cases p3 : 3 ≤ mch (pee f y).2
    · rcases cov_v x2 he hv nΔ h2 (hch.2 le) h20 h47 p3 (by omega) with q | q | q | q | q | q | q | q
      · exact absurd q ay
      · exact absurd q bz
      · exact absurd q zy
      · exact absurd q iy
      · exact absurd q uy
      · exact absurd q vy
      · exact absurd q ox
      · exact absurd q ea
    · exact pair_ntv x1 x2 he y1 y2 hv hd' (by omega) (Or.inr (pee_small x2 he (by omega) (by omega)))
theorem pairn_pa (R : RESTA9) : PAIRn := pairn_oz (restz9_of R)
