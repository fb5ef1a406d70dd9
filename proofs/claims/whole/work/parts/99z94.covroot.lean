/-! ONE BINDER THAT IS A SCHEME ITSELF, its bound not Top: what is left where the body holds the very bound. -/
/-- the list that is left: bound, body; names around or not, characters of the term -/
def exB (e : Bool) (m be k : Nat) : Bool := if e then (Nat.beq be 2 && Nat.beq k 32) || ((Nat.beq be 4 && Nat.beq k 18) || ((Nat.beq be 2 && (Nat.beq k 18 || Nat.beq k 19)) || ((Nat.beq be 5 && Nat.beq k 14) || ((Nat.beq be 10 && Nat.beq k 9) || (Nat.beq be 7 && Nat.beq k 13))))) else if Nat.ble m 5 then (Nat.beq be 2 && (Nat.ble 29 k && Nat.ble k 37)) || ((Nat.beq be 4 && ((Nat.ble 30 k && Nat.ble k 31) || (Nat.ble 34 k && Nat.ble k 35))) || (Nat.beq be 5 && Nat.beq k 30)) else Nat.beq be 2 && (Nat.ble 24 k && Nat.ble k 31)
def cr1 (e : Bool) (m be k : Nat) : Bool := az e m (8 + be + k) || (B1z e m (4 + be + k) 0 0 || (B12z e m be k 0 0 0 || ((e && B13z m be k 0 0 0) || (B4z e m be k 0 0 || (B8z e m be k 0 0 || exB e m be k)))))
def crq (e : Bool) (m a b : Nat) : Bool := (List.range b).all (fun c => Nat.blt c a || (List.range 17).all (fun be => Nat.blt be 2 || (Nat.beq be 3 || (Nat.ble (c - 8) be || cr1 e m be (c - 8 - be)))))
theorem cr_f5 : crq false 5 20 48 = true := by decide +kernel
theorem cr_f6 : crq false 6 20 42 = true := by decide +kernel
theorem cr_f10 : crq false 10 20 34 = true := by decide +kernel
theorem cr_f13 : crq false 13 20 28 = true := by decide +kernel
theorem cr_t8 : crq true 8 30 43 = true := by decide +kernel
def crn (a b : Nat) : Bool := (List.range b).all (fun c => Nat.blt c a || (List.range 17).all (fun be => Nat.blt be 2 || (Nat.beq be 3 || (Nat.ble (c - 8) be || (cn1 be (c - 8 - be) 0 || exB true 0 be (c - 8 - be))))))
theorem cr_n : crn 20 30 = true := by decide +kernel
theorem bit_ex : ∀ m, m < 8 → m ≠ 0 → bit m 0 = true ∨ bit m 1 = true ∨ bit m 2 = true := by decide
theorem tch_no3 {B : Ty} (o : ok 0 B = true) : tch B ≠ 3 := by
  rcases ok_cases o with rfl | ⟨j, hj, rfl⟩ | ⟨a, c, rfl, ha, hb⟩ | ⟨a, c, rfl, ha, hb⟩ | ⟨m, x, y, z, hm, rfl, h0, h1, h2⟩
  · rw [tch_top]; decide
  · omega
  · rw [tch_fun]
    have := tch_pos ha
    have := tch_pos hb
    omega
  · rw [tch_all]
    have := tch_pos ha
    have := tch_pos hb
    omega
  · rw [tch_rec]
    have key : ∀ (i : Nat) (p : Ty), okl 0 m i p → bit m i = true → 1 ≤ tch p := by
      intro i p ho hb
      unfold okl at ho
      rw [if_pos hb] at ho
      exact tch_pos ho
    by_cases m0 : m = 0
    · subst m0
      have kn : ∀ (i : Nat) (p : Ty), okl 0 0 i p → bit 0 i = false → tch p = 0 := by
        intro i p ho hb
        unfold okl at ho
        rw [if_neg (by rw [hb]; decide)] at ho
        rw [ho]; rfl
      rw [kn 0 x h0 (by decide), kn 1 y h1 (by decide), kn 2 z h2 (by decide)]
      decide
    · have r := rch_two m0 hm
      rcases bit_ex m hm m0 with b | b | b
      · have := key 0 x h0 b
        omega
      · have := key 1 y h1 b
        omega
      · have := key 2 z h2 b
        omega
theorem crq_get {e : Bool} {m a b be k : Nat} (h : crq e m a b = true) (ha : a ≤ 8 + be + k) (hb : 8 + be + k < b) (p2 : 2 ≤ be) (p3 : be ≠ 3) (p16 : be ≤ 16) (pk : 1 ≤ k) : cr1 e m be k = true := by
  unfold crq at h
  have q := rng_all h (i := 8 + be + k) hb
  rw [Bool.or_eq_true] at q
  rcases q with q | q
  · exact (blt_no ha q).elim
  have q := rng_all q (i := be) (by omega)
  rw [Bool.or_eq_true, Bool.or_eq_true, Bool.or_eq_true] at q
  rcases q with q | q | q | q
  · exact (blt_no p2 q).elim
  · exact absurd (Nat.eq_of_beq_eq_true q) p3
  · have := Nat.le_of_ble_eq_true q
    omega
  · have e : 8 + be + k - 8 - be = k := by omega
    rw [e] at q
    exact q
theorem crn_get {a b be k : Nat} (h : crn a b = true) (ha : a ≤ 8 + be + k) (hb : 8 + be + k < b) (p2 : 2 ≤ be) (p3 : be ≠ 3) (p16 : be ≤ 16) (pk : 1 ≤ k) : (cn1 be k 0 || exB true 0 be k) = true := by
  unfold crn at h
  have q := rng_all h (i := 8 + be + k) hb
  rw [Bool.or_eq_true] at q
  rcases q with q | q
  · exact (blt_no ha q).elim
  have q := rng_all q (i := be) (by omega)
  rw [Bool.or_eq_true, Bool.or_eq_true, Bool.or_eq_true] at q
  rcases q with q | q | q | q
  · exact (blt_no p2 q).elim
  · exact absurd (Nat.eq_of_beq_eq_true q) p3
  · have := Nat.le_of_ble_eq_true q
    omega
  · have e : 8 + be + k - 8 - be = k := by omega
    rw [e] at q
    exact q
def Cr1 (e : Bool) (m be k : Nat) : Prop := az e m (8 + be + k) = true ∨ B1z e m (4 + be + k) 0 0 = true ∨ B12z e m be k 0 0 0 = true ∨ (e = true ∧ B13z m be k 0 0 0 = true) ∨ B4z e m be k 0 0 = true ∨ B8z e m be k 0 0 = true ∨ exB e m be k = true
theorem cr1_f {m m' be k : Nat} (h5 : Nat.ble m' 5 = Nat.ble m 5) (ha : az false m' (8 + be + k) = true → az false m (8 + be + k) = true) (h : cr1 false m' be k = true) : Cr1 false m be k := by
  have e1 : B1z false m' (4 + be + k) 0 0 = B1z false m (4 + be + k) 0 0 := by unfold B1z; rw [h5]
  have e2 : B12z false m' be k 0 0 0 = B12z false m be k 0 0 0 := by unfold B12z; rw [if_neg Bool.false_ne_true, if_neg Bool.false_ne_true, h5]
  have e3 : B4z false m' be k 0 0 = B4z false m be k 0 0 := by unfold B4z; rw [if_neg Bool.false_ne_true, if_neg Bool.false_ne_true, h5]
  have e4 : B8z false m' be k 0 0 = B8z false m be k 0 0 := by unfold B8z; rw [if_neg Bool.false_ne_true, if_neg Bool.false_ne_true, h5]
  have e5 : exB false m' be k = exB false m be k := by unfold exB; rw [h5]
  unfold cr1 at h
  rw [e1, e2, e3, e4, e5, Bool.or_eq_true, Bool.or_eq_true, Bool.or_eq_true, Bool.or_eq_true, Bool.or_eq_true, Bool.or_eq_true] at h
  rcases h with h | h | h | h | h | h | h
  · exact Or.inl (ha h)
  · exact Or.inr (Or.inl h)
  · exact Or.inr (Or.inr (Or.inl h))
  · rw [Bool.and_eq_true] at h
    exact absurd h.1 (by decide)
  · exact Or.inr (Or.inr (Or.inr (Or.inr (Or.inl h))))
  · exact Or.inr (Or.inr (Or.inr (Or.inr (Or.inr (Or.inl h)))))
  · exact Or.inr (Or.inr (Or.inr (Or.inr (Or.inr (Or.inr h)))))
theorem cr1_t {m be k : Nat} (e8 : Nat.ble 8 m = true) (h30 : 30 ≤ 8 + be + k) (h : cr1 true 8 be k = true) : Cr1 true m be k := by
  have e2 : B12z true 8 be k 0 0 0 = B12z true m be k 0 0 0 := by
    unfold B12z
    rw [if_pos rfl, if_pos rfl, e8]
    rfl
  have e3 : B4z true 8 be k 0 0 = B4z true m be k 0 0 := by
    unfold B4z
    rw [if_pos rfl, if_pos rfl, e8]
    rfl
  have e4 : B8z true 8 be k 0 0 = B8z true m be k 0 0 := by
    unfold B8z
    rw [if_pos rfl, if_pos rfl, e8]
    rfl
  unfold cr1 at h
  rw [e2, e3, e4, Bool.or_eq_true, Bool.or_eq_true, Bool.or_eq_true, Bool.or_eq_true, Bool.or_eq_true, Bool.or_eq_true] at h
  rcases h with h | h | h | h | h | h | h
  · exfalso
    unfold az at h
    rw [Bool.and_eq_true, Bool.and_eq_true, if_pos rfl, Bool.or_eq_true, Bool.or_eq_true, Bool.and_eq_true, Bool.and_eq_true, Bool.and_eq_true] at h
    rcases h.2.2 with q | q | q
    · exact absurd q.1 (by decide)
    · have := Nat.le_of_ble_eq_true q.2
      omega
    · have := Nat.le_of_ble_eq_true q.2
      omega
  · unfold B1z at h
    rw [if_pos rfl] at h
    cases h
  · exact Or.inr (Or.inr (Or.inl h))
  · rw [Bool.and_eq_true] at h
    have h := h.2
    unfold B13z at h
    rw [Bool.and_eq_true] at h
    have := Nat.le_of_ble_eq_true h.1
    omega
  · exact Or.inr (Or.inr (Or.inr (Or.inr (Or.inl h))))
  · exact Or.inr (Or.inr (Or.inr (Or.inr (Or.inr (Or.inl h)))))
  · refine Or.inr (Or.inr (Or.inr (Or.inr (Or.inr (Or.inr ?_)))))
    unfold exB at h ⊢
    rw [if_pos rfl] at h ⊢
    exact h
theorem cr_num {e : Bool} {m be k : Nat} (p2 : 2 ≤ be) (p3 : be ≠ 3) (p16 : be ≤ 16) (pk : 1 ≤ k) (m3 : 3 ≤ m) (h20 : 20 ≤ 8 + be + k) (h47 : 8 + be + k ≤ 47) (hb : 8 + be + k + 2 * m ≤ 58) (h5 : e = false → 8 + be + k + 5 + 2 * m ≤ 58) : Cr1 e m be k := by
  cases e with
  | false =>
    have h5 := h5 rfl
    have bf : ∀ a b, b < a → Nat.ble a b = false := fun a b hab => by
      cases q : Nat.ble a b with
      | false => rfl
      | true => exact absurd (Nat.le_of_ble_eq_true q) (by omega)
    have azs : ∀ (m' : Nat) {c : Nat}, 3 ≤ m' → (m' ≤ 5 → m ≤ 5) → (m' ≤ 9 → m ≤ 9) → (m' ≤ 12 → m ≤ 12) → az false m' c = true → az false m c = true := by
      intro m' c k3 a1 a2 a3 h
      unfold az at h ⊢
      rw [Bool.and_eq_true, Bool.and_eq_true] at h ⊢
      refine ⟨h.1, Nat.ble_eq_true_of_le m3, ?_⟩
      have h := h.2.2
      rw [if_neg (by decide), Bool.or_eq_true, Bool.or_eq_true, Bool.and_eq_true, Bool.and_eq_true, Bool.and_eq_true] at h ⊢
      rcases h with h | h | h
      · exact Or.inl ⟨Nat.ble_eq_true_of_le (a1 (Nat.le_of_ble_eq_true h.1)), h.2⟩
      · exact Or.inr (Or.inl ⟨Nat.ble_eq_true_of_le (a2 (Nat.le_of_ble_eq_true h.1)), h.2⟩)
      · exact Or.inr (Or.inr ⟨Nat.ble_eq_true_of_le (a3 (Nat.le_of_ble_eq_true h.1)), h.2⟩)
    by_cases m5 : m ≤ 5
    · exact cr1_f (m' := 5) (by rw [Nat.ble_eq_true_of_le m5]; rfl) (azs 5 (by omega) (fun _ => m5) (fun _ => by omega) (fun _ => by omega)) (crq_get cr_f5 h20 (by omega) p2 p3 p16 pk)
    have e5 : Nat.ble m 5 = false := bf _ _ (by omega)
    by_cases m9 : m ≤ 9
    · exact cr1_f (m' := 6) (by rw [e5]; rfl) (azs 6 (by omega) (fun q => by omega) (fun _ => m9) (fun _ => by omega)) (crq_get cr_f6 h20 (by omega) p2 p3 p16 pk)
    by_cases m12 : m ≤ 12
    · exact cr1_f (m' := 10) (by rw [e5]; rfl) (azs 10 (by omega) (fun q => by omega) (fun q => by omega) (fun _ => m12)) (crq_get cr_f10 h20 (by omega) p2 p3 p16 pk)
    · exact cr1_f (m' := 13) (by rw [e5]; rfl) (azs 13 (by omega) (fun q => by omega) (fun q => by omega) (fun q => by omega)) (crq_get cr_f13 h20 (by omega) p2 p3 p16 pk)
  | true =>
    by_cases m7 : m ≤ 7
    · left
      unfold az
      rw [if_pos rfl, Nat.ble_eq_true_of_le h20, Nat.ble_eq_true_of_le m3, Nat.ble_eq_true_of_le m7, Nat.ble_eq_true_of_le h47]
      rfl
    have e8 : Nat.ble 8 m = true := Nat.ble_eq_true_of_le (by omega)
    by_cases c30 : 8 + be + k < 30
    · have q := crn_get cr_n h20 c30 p2 p3 p16 pk
      rw [Bool.or_eq_true] at q
      rcases q with q | q
      rotate_left
      · refine Or.inr (Or.inr (Or.inr (Or.inr (Or.inr (Or.inr ?_)))))
        unfold exB at q ⊢
        rw [if_pos rfl] at q ⊢
        exact q
      unfold cn1 at q
      rw [Bool.and_eq_true] at q
      refine Or.inr (Or.inr (Or.inr (Or.inl ⟨rfl, ?_⟩)))
      unfold B13z
      rw [Bool.and_eq_true]
      refine ⟨Nat.ble_eq_true_of_le c30, ?_⟩
      split
      · exact q.1
      · exact q.2
    · exact cr1_t e8 (by omega) (crq_get cr_t8 (by omega) (by omega) p2 p3 p16 pk)
/-- what is left: one binder, a scheme whose body holds its very bound -/
def ExB (e : Bool) (m : Nat) (Γ : List Ty) : Prop := ∃ B C : Ty, Γ = [tAll B C] ∧ LBd [] [] (tAll B C) tTop B C ∧ sN B 0 1 C = true ∧ (17 ≤ tch B ∨ exB e m (tch B) (tch C) = true)
theorem cov_r {f : Nat} {t B C : Ty} {Δ : List (Nat × Ty × Nat)} (w : TWf f [tAll B C].length (Δ.map (fun a => a.1)) t) (he : TE [tAll B C] Δ) (hv : noac [tAll B C]) (b2 : 2 ≤ tch B) (ch : CHo f t []) (h20 : 20 ≤ cch [tAll B C]) (h47 : cch [tAll B C] ≤ 47) (m3 : 3 ≤ mch (pee f t).2) (hb : cch [tAll B C] + dch Δ + 2 * mch (pee f t).2 ≤ 58) : AzT f t [tAll B C] Δ ∨ AzB f t [tAll B C] Δ ∨ AzR f t [tAll B C] Δ ∨ AzS f t [tAll B C] Δ ∨ AzL f t [tAll B C] Δ ∨ AzM f t [tAll B C] Δ ∨ One9 [tAll B C] ∨ ExB Δ.isEmpty (mch (pee f t).2) [tAll B C] := by
  have ch' := pee_cho f t [] ch
  have ob : ok 0 (tAll B C) = true := he.1.1
  have na : ∀ a ∈ [tAll B C], noal a = true := fun a ha => by
    rw [List.mem_singleton] at ha
    subst ha
    exact (hv 0 (Nat.zero_lt_succ _)).1
  have nf : ¬ IS2 (fun _ => False) (tAll B C) := fun i => IS2_all i
  have lb : LBd [] [] (tAll B C) tTop B C := by
    rcases lb_ex [tAll B C] he.1 na h47 with i | ⟨Δ1, Γ0, b1, b', B0, C0, e, lb⟩
    · exact absurd (i _ (List.mem_singleton.mpr rfl)) nf
    obtain ⟨r1, r2, r3⟩ : Δ1 = [] ∧ b1 = tAll B C ∧ Γ0 = [] := by
      unfold cxs at e
      cases Δ1 with
      | nil =>
        injection e with a1 a2
        exact ⟨rfl, a1.symm, a2.symm⟩
      | cons a Δ1 =>
        have l := congrArg List.length e
        simp at l
    subst r1
    subst r2
    subst r3
    rcases IS2_all lb.1.2.2.2.2 with q | ⟨o1, -, h5, -⟩
    · have q1 := congrArg k1 q
      have q2 := congrArg k2 q
      have q1 : B = B0 := q1
      have q2 : C = C0 := q2
      subst q1
      subst q2
      have e' := lb.2.1 rfl
      subst e'
      exact lb
    · omega
  have pC := tch_pos (ok_all.mp ob).2
  have oB := (ok_all.mp ob).1
  have eσ := tch_all B C
  have ec : cch [tAll B C] = tch (tAll B C) + 4 := rfl
  by_cases fl : sN B 0 1 C = true
  rotate_left
  · exact Or.inr (Or.inr (Or.inr (Or.inr (Or.inr (Or.inr (Or.inl (one_of ob lb nf (by omega) (by cases q : sN B 0 1 C with
      | false => rfl
      | true => exact absurd q fl))))))))
  by_cases b16 : tch B ≤ 16
  rotate_left
  · exact Or.inr (Or.inr (Or.inr (Or.inr (Or.inr (Or.inr (Or.inr ⟨B, C, rfl, lb, fl, Or.inl (by omega)⟩))))))
  have c1 : 8 + tch B + tch C = cch [tAll B C] := by omega
  have c2 : 4 + tch B + tch C = tch (tAll B C) := by omega
  have q := cr_num (e := Δ.isEmpty) (m := mch (pee f t).2) b2 (tch_no3 oB) b16 pC m3 (by omega) (by omega) (by omega) (fun e => by
    have nΔ : Δ ≠ [] := fun e' => by rw [e'] at e; cases e
    have := dch_five he nΔ
    omega)
  have eo : tch (tAll B C) - tch (tAll B C) = 0 := Nat.sub_self _
  unfold Cr1 at q
  rw [c1, c2] at q
  rcases q with q | q | q | q | q | q | q
  · exact Or.inl ⟨ch', q, hb⟩
  · exact Or.inr (Or.inl ⟨[], [], tAll B C, rfl, ⟨fun a ha => (by cases ha), fun a ha => (by cases ha)⟩, ch', q, m3, Nat.zero_le _, hb⟩)
  · exact Or.inr (Or.inr (Or.inl ⟨[], [], tAll B C, tTop, B, C, rfl, lb, ch', by rw [eo]; exact q, m3, Nat.zero_le _, hb⟩))
  · by_cases m6 : 6 ≤ mch (pee f t).2
    · exact Or.inr (Or.inr (Or.inr (Or.inl ⟨List.isEmpty_iff.mp q.1, [], [], tAll B C, tTop, B, C, rfl, lb, ch', by rw [eo]; exact q.2, m6, hb⟩)))
    · left
      refine ⟨ch', ?_, hb⟩
      rw [q.1]
      unfold az
      rw [if_pos rfl, Nat.ble_eq_true_of_le h20, Nat.ble_eq_true_of_le m3, Nat.ble_eq_true_of_le (show mch (pee f t).2 ≤ 7 by omega), Nat.ble_eq_true_of_le h47]
      rfl
  · exact Or.inr (Or.inr (Or.inr (Or.inr (Or.inl ⟨[], [], B, C, rfl, rfl, lb, b2, b16, fl, ch', q, m3, Nat.zero_le _, hb⟩))))
  · exact Or.inr (Or.inr (Or.inr (Or.inr (Or.inr (Or.inl ⟨[], [], B, C, rfl, rfl, lb, b2, b16, fl, ch', q, m3, Nat.zero_le _, hb⟩)))))
  · exact Or.inr (Or.inr (Or.inr (Or.inr (Or.inr (Or.inr (Or.inr ⟨B, C, rfl, lb, fl, Or.inr q⟩))))))
/-- one binder, a scheme with a bound other than Top, the shorter term's choices with at most one argument behind -/
def Cv3 (f : Nat) (x y : Ty) (Γ : List Ty) (Δ : List (Nat × Ty × Nat)) : Prop := (∃ B C, Γ = [tAll B C] ∧ 2 ≤ tch B) → (mch x ≤ mch y → CHo f x [] → ExB Δ.isEmpty (mch (pee f x).2) Γ) ∧ (¬ mch x ≤ mch y → CHo f y [] → ExB Δ.isEmpty (mch (pee f y).2) Γ)
def RESTC9 : Prop := ∀ (f : Nat) (x y : Ty) (Γ : List Ty) (Δ : List (Nat × Ty × Nat)), TWf f Γ.length (Δ.map (fun a => a.1)) x → TWf f Γ.length (Δ.map (fun a => a.1)) y → TE Γ Δ → NAt f x → NAt f y → noac Γ → (∀ a ∈ Δ, noal a.2.1 = true) → TNo f x → TNo f y → 3 ≤ mch x → 3 ≤ mch y → (mch x ≤ mch y → ¬ NOp f x) → (¬ mch x ≤ mch y → ¬ NOp f y) → 20 ≤ cch Γ → cch Γ ≤ 47 → cch Γ + dch Δ + (2 + (mch x + mch y)) ≤ 60 → NoO f x y Γ Δ → ¬ AzT f x Γ Δ → ¬ AzT f y Γ Δ → ¬ AzB f x Γ Δ → ¬ AzB f y Γ Δ → ¬ AzC f x Γ Δ → ¬ AzC f y Γ Δ → ¬ AzI f x Γ Δ → ¬ AzI f y Γ Δ → ¬ AzF f x Γ Δ → ¬ AzF f y Γ Δ → ¬ AzG f x Γ Δ → ¬ AzG f y Γ Δ → ¬ AzH f x Γ Δ → ¬ AzH f y Γ Δ → ¬ PrS f x y Γ Δ → ¬ AzK f x Γ Δ → ¬ AzK f y Γ Δ → ¬ AzL f x Γ Δ → ¬ AzL f y Γ Δ → ¬ AzM f x Γ Δ → ¬ AzM f y Γ Δ → ¬ PrG f x y Γ Δ → ¬ AzN f x Γ Δ → ¬ AzN f y Γ Δ → ¬ One9 Γ → ¬ AzO f x Γ Δ → ¬ AzO f y Γ Δ → ¬ AzP f x Γ Δ → ¬ AzP f y Γ Δ → ¬ AzQ f x Γ Δ → ¬ AzQ f y Γ Δ → ¬ AzR f x Γ Δ → ¬ AzR f y Γ Δ → ¬ AzS f x Γ Δ → ¬ AzS f y Γ Δ → Cv2 f x y Γ Δ → Cv3 f x y Γ Δ → (¬ ((mch x ≤ mch y → CHo f x []) ∧ (¬ mch x ≤ mch y → CHo f y [])) ∨ LeftJ f x y Γ Δ) → PRn f x y Γ Δ
theorem restb9_of (R : RESTC9) : RESTB9 := by
  intro f x y Γ Δ x1 x2 he y1 y2 hv hd' tx ty m3 n3 no1 no2 h20 h47 hb ng ax ay bx bz cx cy dx dy ex ey gx gy ix iy jx kx ky lx ly mx my px qx qy ox ux uy vx vy wx wy zx zy sx sy c2 hL
  by_cases c : Cv3 f x y Γ Δ
  · exact R f x y Γ Δ x1 x2 he y1 y2 hv hd' tx ty m3 n3 no1 no2 h20 h47 hb ng ax ay bx bz cx cy dx dy ex ey gx gy ix iy jx kx ky lx ly mx my px qx qy ox ux uy vx vy wx wy zx zy sx sy c2 c hL
  by_cases p3 : 3 ≤ mch (pee f x).2
  rotate_left
  · by_cases le : mch x ≤ mch y
    · have pm := (pee_ok f _ _ x x1).1.2
      exact pair_ntv x1 x2 he y1 y2 hv hd' (by omega) (Or.inl (pee_small x1 he (by omega) (by omega)))
    · have pm := (pee_ok f _ _ x x1).1.2
      exact pair_ntv x1 x2 he y1 y2 hv hd' (by omega) (Or.inl (pee_small x1 he (by omega) (by have := (pee_ok f _ _ x x1).1.2; omega)))
  by_cases r3 : 3 ≤ mch (pee f y).2
  rotate_left
  · exact pair_ntv x1 x2 he y1 y2 hv hd' (by omega) (Or.inr (pee_small x2 he (by omega) (by omega)))
  exfalso
  apply c
  rintro ⟨B, C, e, b2⟩
  subst e
  refine ⟨fun le ch => ?_, fun le ch => ?_⟩
  · have pm := (pee_ok f _ _ x x1).1.2
    rcases cov_r x1 he hv b2 ch h20 h47 p3 (by omega) with q | q | q | q | q | q | q | q
    · exact absurd q ax
    · exact absurd q bx
    · exact absurd q zx
    · exact absurd q sx
    · exact absurd q lx
    · exact absurd q mx
    · exact absurd q ox
    · exact q
  · have pm := (pee_ok f _ _ y x2).1.2
    rcases cov_r x2 he hv b2 ch h20 h47 r3 (by omega) with q | q | q | q | q | q | q | q
    · exact absurd q ay
    · exact absurd q bz
    · exact absurd q zy
    · exact absurd q sy
    · exact absurd q ly
    · exact absurd q my
    · exact absurd q ox
    · exact q
theorem pairn_pc (R : RESTC9) : PAIRn := pairn_pb (restb9_of R)
