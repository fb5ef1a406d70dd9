/-! A body that holds the very bound is at least five characters longer than the bound. -/
theorem sN_ch {B : Ty} (oB : ok 0 B = true) : ∀ (f : Nat) (t : Ty) (D : Nat), (flat t).length ≤ f → ok D t = true → sN B 0 D t = true → tch B + 5 ≤ tch t
  | 0, t, D, hf, o, _ => by have := flat_pos o; omega
  | f + 1, t, D, hf, o, hn => by
    rcases ok_cases o with rfl | ⟨j, hj, rfl⟩ | ⟨a, c, rfl, ha, hb⟩ | ⟨a, c, rfl, ha, hb⟩ | ⟨m', x, y, z, hm, rfl, h0, h1, h2⟩
    · simp [tTop, sN] at hn
    · simp [tVar, sN] at hn
    · rw [flat_fun, List.length_cons, List.length_append] at hf
      rw [sN_fun, Bool.or_eq_true] at hn
      rw [tch_fun]
      rcases hn with hn | hn
      · have := sN_ch oB f a D (by omega) ha hn
        omega
      · have := sN_ch oB f c D (by omega) hb hn
        omega
    · rw [flat_all, List.length_cons, List.length_append] at hf
      rw [sN_all, Bool.or_eq_true, Bool.or_eq_true] at hn
      rw [tch_all]
      rcases hn with hn | hn | hn
      · have e := congrArg tch (tqN_l0 oB ha hn)
        rw [tch_lft 0 D B 0 oB] at e
        have := tch_pos hb
        omega
      · have := sN_ch oB f a D (by omega) ha hn
        omega
      · have := sN_ch oB f c (D + 1) (by omega) hb hn
        omega
    · rw [flat_rec, List.length_cons, List.length_append, List.length_append] at hf
      rw [sN_rec, Bool.or_eq_true, Bool.or_eq_true] at hn
      rw [tch_rec]
      have key : ∀ (i : Nat) (p : Ty), (flat p).length ≤ f → okl D m' i p → sN B 0 D p = true → tch B + 5 ≤ tch p := by
        intro i p hp ho hs
        unfold okl at ho
        by_cases hb : bit m' i = true
        · rw [if_pos hb] at ho
          exact sN_ch oB f p D hp ho hs
        · rw [if_neg hb] at ho
          rw [ho] at hs
          simp [sN] at hs
      rcases hn with hn | hn | hn
      · have := key 0 x (by omega) h0 hn
        omega
      · have := key 1 y (by omega) h1 hn
        omega
      · have := key 2 z (by omega) h2 hn
        omega
/-- the list that is left, one binder that is a scheme with a bound other than Top -/
def exC (e : Bool) (m be k : Nat) : Bool := if e then (Nat.beq be 2 && (Nat.beq k 32 || (Nat.beq k 18 || Nat.beq k 19))) || ((Nat.beq be 4 && Nat.beq k 18) || ((Nat.beq be 5 && Nat.beq k 14) || ((Nat.beq be 7 && Nat.beq k 13) || (Nat.beq be 17 && Nat.beq k 22)))) else if Nat.ble m 5 then (Nat.beq be 2 && (Nat.ble 29 k && Nat.ble k 37)) || ((Nat.beq be 4 && ((Nat.ble 30 k && Nat.ble k 31) || (Nat.ble 34 k && Nat.ble k 35))) || ((Nat.beq be 5 && Nat.beq k 30) || (Nat.beq be 17 && Nat.beq k 22))) else (Nat.beq be 2 && (Nat.ble 24 k && Nat.ble k 31)) || (Nat.beq be 17 && Nat.beq k 22)
theorem exC_17 {e : Bool} {m be k : Nat} (h1 : be = 17) (h2 : k = 22) : exC e m be k = true := by
  subst h1
  subst h2
  unfold exC
  cases e with
  | true => rfl
  | false =>
    rw [if_neg Bool.false_ne_true]
    split <;> rfl
theorem exC_of {e : Bool} {m be k : Nat} (hk : be + 5 ≤ k) (h : exB e m be k = true) : exC e m be k = true := by
  unfold exB at h
  unfold exC
  cases e with
  | true =>
    rw [if_pos rfl] at h ⊢
    simp only [Bool.or_eq_true, Bool.and_eq_true, Nat.beq_eq] at h ⊢
    omega
  | false =>
    rw [if_neg Bool.false_ne_true] at h ⊢
    by_cases m5 : Nat.ble m 5 = true
    · rw [if_pos m5] at h ⊢
      simp only [Bool.or_eq_true, Bool.and_eq_true, Nat.beq_eq, Nat.ble_eq] at h ⊢
      omega
    · rw [if_neg m5] at h ⊢
      simp only [Bool.or_eq_true, Bool.and_eq_true, Nat.beq_eq, Nat.ble_eq] at h ⊢
      omega
def ExC (e : Bool) (m : Nat) (Γ : List Ty) : Prop := ∃ B C : Ty, Γ = [tAll B C] ∧ LBd [] [] (tAll B C) tTop B C ∧ sN B 0 1 C = true ∧ exC e m (tch B) (tch C) = true
theorem ExB.c {e : Bool} {m : Nat} {Γ : List Ty} (h47 : cch Γ ≤ 47) (h : ExB e m Γ) : ExC e m Γ := by
  obtain ⟨B, C, eg, lb, fl, q⟩ := h
  have oσ := ok_all.mp lb.1.2.1
  have k5 := sN_ch oσ.1 _ C 1 (Nat.le_refl _) oσ.2 fl
  subst eg
  have ec : cch [tAll B C] = tch (tAll B C) + 4 := rfl
  have eσ := tch_all B C
  rcases q with q | q
  · exact ⟨B, C, rfl, lb, fl, exC_17 (by omega) (by omega)⟩
  · exact ⟨B, C, rfl, lb, fl, exC_of k5 q⟩
def Cv4 (f : Nat) (x y : Ty) (Γ : List Ty) (Δ : List (Nat × Ty × Nat)) : Prop := (∃ B C, Γ = [tAll B C] ∧ 2 ≤ tch B) → (mch x ≤ mch y → CHo f x [] → ExC Δ.isEmpty (mch (pee f x).2) Γ) ∧ (¬ mch x ≤ mch y → CHo f y [] → ExC Δ.isEmpty (mch (pee f y).2) Γ)
def RESTD9 : Prop := ∀ (f : Nat) (x y : Ty) (Γ : List Ty) (Δ : List (Nat × Ty × Nat)), TWf f Γ.length (Δ.map (fun a => a.1)) x → TWf f Γ.length (Δ.map (fun a => a.1)) y → TE Γ Δ → NAt f x → NAt f y → noac Γ → (∀ a ∈ Δ, noal a.2.1 = true) → TNo f x → TNo f y → 3 ≤ mch x → 3 ≤ mch y → (mch x ≤ mch y → ¬ NOp f x) → (¬ mch x ≤ mch y → ¬ NOp f y) → 20 ≤ cch Γ → cch Γ ≤ 47 → cch Γ + dch Δ + (2 + (mch x + mch y)) ≤ 60 → NoO f x y Γ Δ → ¬ AzT f x Γ Δ → ¬ AzT f y Γ Δ → ¬ AzB f x Γ Δ → ¬ AzB f y Γ Δ → ¬ AzC f x Γ Δ → ¬ AzC f y Γ Δ → ¬ AzI f x Γ Δ → ¬ AzI f y Γ Δ → ¬ AzF f x Γ Δ → ¬ AzF f y Γ Δ → ¬ AzG f x Γ Δ → ¬ AzG f y Γ Δ → ¬ AzH f x Γ Δ → ¬ AzH f y Γ Δ → ¬ PrS f x y Γ Δ → ¬ AzK f x Γ Δ → ¬ AzK f y Γ Δ → ¬ AzL f x Γ Δ → ¬ AzL f y Γ Δ → ¬ AzM f x Γ Δ → ¬ AzM f y Γ Δ → ¬ PrG f x y Γ Δ → ¬ AzN f x Γ Δ → ¬ AzN f y Γ Δ → ¬ One9 Γ → ¬ AzO f x Γ Δ → ¬ AzO f y Γ Δ → ¬ AzP f x Γ Δ → ¬ AzP f y Γ Δ → ¬ AzQ f x Γ Δ → ¬ AzQ f y Γ Δ → ¬ AzR f x Γ Δ → ¬ AzR f y Γ Δ → ¬ AzS f x Γ Δ → ¬ AzS f y Γ Δ → Cv2 f x y Γ Δ → Cv4 f x y Γ Δ → (¬ ((mch x ≤ mch y → CHo f x []) ∧ (¬ mch x ≤ mch y → CHo f y [])) ∨ LeftJ f x y Γ Δ) → PRn f x y Γ Δ
theorem restc9_of (R : RESTD9) : RESTC9 := by
  intro f x y Γ Δ x1 x2 he y1 y2 hv hd' tx ty m3 n3 no1 no2 h20 h47 hb ng ax ay bx bz cx cy dx dy ex ey gx gy ix iy jx kx ky lx ly mx my px qx qy ox ux uy vx vy wx wy zx zy sx sy c2 c3 hL
  exact R f x y Γ Δ x1 x2 he y1 y2 hv hd' tx ty m3 n3 no1 no2 h20 h47 hb ng ax ay bx bz cx cy dx dy ex ey gx gy ix iy jx kx ky lx ly mx my px qx qy ox ux uy vx vy wx wy zx zy sx sy c2 (fun q => ⟨fun a b => ((c3 q).1 a b).c h47, fun a b => ((c3 q).2 a b).c h47⟩) hL
theorem pairn_pd (R : RESTD9) : PAIRn := pairn_pc (restc9_of R)
