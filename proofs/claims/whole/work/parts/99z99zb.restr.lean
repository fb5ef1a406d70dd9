/-! RESTR9: shorter lists. -/
theorem sN_nine {d0 : Nat} : ∀ (f : Nat) (t : Ty) (D : Nat), (flat t).length ≤ f → ok D t = true → sN tR0 d0 D t = true → tch t = 7 ∨ tch t = 8 ∨ 10 ≤ tch t
  | 0, t, _, hf, o, _ => by have := flat_pos o; omega
  | f + 1, t, D, hf, o, h => by
    rcases ok_cases o with rfl | ⟨j, hj, rfl⟩ | ⟨a, c, rfl, ha, hb⟩ | ⟨a, c, rfl, ha, hb⟩ | ⟨m, x, y, z, hm', rfl, h0, h1, h2⟩
    · have h : false = true := h
      cases h
    · simp [tVar, sN] at h
    · rw [flat_fun, List.length_cons, List.length_append] at hf
      rw [sN_fun, Bool.or_eq_true] at h
      have := tch_pos ha
      have := tch_pos hb
      rw [tch_fun]
      rcases h with h | h
      · have := sN_nine f a D (by omega) ha h
        omega
      · have := sN_nine f c D (by omega) hb h
        omega
    · rw [flat_all, List.length_cons, List.length_append] at hf
      rw [sN_all, Bool.or_eq_true, Bool.or_eq_true] at h
      have p1 := tch_pos ha
      have p2 := tch_pos hb
      have n3 := tch_three hb
      rw [tch_all]
      rcases h with h | h | h
      · have q := tqN_r0 ha h
        unfold tqB at q
        have e2 := flat_eq ha (show ok D tR0 = true by unfold tR0; exact (ok_rec (by decide)).mpr ⟨rfl, rfl, rfl⟩) (of_decide_eq_true q)
        have e3 : tch a = 2 := by rw [e2]; rfl
        omega
      · have := sN_nine f a D (by omega) ha h
        omega
      · have := sN_nine f c (D + 1) (by omega) hb h
        omega
    · rw [flat_rec, List.length_cons, List.length_append, List.length_append] at hf
      have key : ∀ (i : Nat) (p : Ty), i < 3 → (flat p).length ≤ f → okl D m i p → sN tR0 d0 D p = true → 7 ≤ tch p ∧ 3 ≤ rch m := by
        intro i p hi hp ho hs
        unfold okl at ho
        by_cases hb : bit m i = true
        · rw [if_pos hb] at ho
          have := sN_nine f p D hp ho hs
          exact ⟨by omega, rch_three m hm' i hi hb⟩
        · rw [if_neg hb] at ho
          rw [ho] at hs
          simp [sN] at hs
      rw [sN_rec, Bool.or_eq_true, Bool.or_eq_true] at h
      rw [tch_rec]
      rcases h with h | h | h
      · have := key 0 x (by decide) (by omega) h0 h
        omega
      · have := key 1 y (by decide) (by omega) h1 h
        omega
      · have := key 2 z (by decide) (by omega) h2 h
        omega
def exD (e : Bool) (be k : Nat) : Bool := if e then (Nat.beq be 2 && (Nat.beq k 32 || (Nat.beq k 18 || Nat.beq k 19))) || ((Nat.beq be 4 && Nat.beq k 18) || ((Nat.beq be 5 && Nat.beq k 14) || (Nat.beq be 7 && Nat.beq k 13))) else Nat.beq be 2 && (Nat.ble 24 k && Nat.ble k 31)
theorem exD_of {e : Bool} {m be k : Nat} (h : exC e m be k = true) (hm : e = true ∨ 6 ≤ m) : exD e be k = true ∨ (be = 17 ∧ k = 22) := by
  cases e with
  | true =>
    unfold exC at h
    unfold exD
    rw [if_pos rfl] at h ⊢
    simp only [Bool.or_eq_true, Bool.and_eq_true] at h ⊢
    rcases h with h | h | h | h | h
    · exact Or.inl (Or.inl h)
    · exact Or.inl (Or.inr (Or.inl h))
    · exact Or.inl (Or.inr (Or.inr (Or.inl h)))
    · exact Or.inl (Or.inr (Or.inr (Or.inr h)))
    · exact Or.inr ⟨Nat.eq_of_beq_eq_true h.1, Nat.eq_of_beq_eq_true h.2⟩
  | false =>
    have m6 := hm.resolve_left Bool.false_ne_true
    unfold exC at h
    unfold exD
    rw [if_neg Bool.false_ne_true, if_neg (fun q => by have := Nat.le_of_ble_eq_true q; omega)] at h
    rw [if_neg Bool.false_ne_true]
    rw [Bool.or_eq_true] at h
    rcases h with h | h
    · exact Or.inl h
    · rw [Bool.and_eq_true] at h
      exact Or.inr ⟨Nat.eq_of_beq_eq_true h.1, Nat.eq_of_beq_eq_true h.2⟩
def W9c (m : Nat) (e : Bool) (Γ : List Ty) : Prop := (e = false ∧ ExA Γ) ∨ (∃ B C : Ty, Γ = [tAll B C] ∧ 2 ≤ tch B ∧ LBd [] [] (tAll B C) tTop B C ∧ sN B 0 1 C = true ∧ exD e (tch B) (tch C) = true ∧ (e = true ∨ 6 ≤ m)) ∨ (e = false ∧ ∃ (Δ1 Γ0 : List Ty) (b b' B C : Ty), Γ = cxs Δ1 Γ0 b ∧ LBd Γ0 Δ1 b b' B C ∧ ¬ IS2 (fun _ => False) b ∧ hd b ≠ 2 ∧ 1 ≤ cch Γ0 + cch Δ1 ∧ ex2 m (tch B) (tch C) (tch b - tch (tAll B C)) (cch Γ0) (cch Δ1) = true)
def W9y (f : Nat) (x y t : Ty) (m : Nat) (e : Bool) (Γ : List Ty) : Prop := ∃ (Δ1 Γ0 : List Ty) (B C : Ty), Γ = cxs Δ1 Γ0 (tAll B C) ∧ LBd Γ0 Δ1 (tAll B C) tTop B C ∧ 1 ≤ cch Γ0 + cch Δ1 ∧ exl e m (tch B) (tch C) (cch Γ0) (cch Δ1) = true ∧ e = false ∧ (6 ≤ m ∨ 1 ≤ cch Δ1) ∧ ((tch B = 1 ∧ tp2 (tch B) (tch C) (cch Γ0) (cch Δ1) = true) ∨ (2 ≤ tch B ∧ sN B Γ0.length (Γ0.length + 1) C = true ∧ (m ≤ 5 ∧ lx9 e m (tch B) (tch C) (cch Γ0) (cch Δ1) = true)) ∨ (2 ≤ tch B ∧ sN B Γ0.length (Γ0.length + 1) C = false ∧ ∃ j, j < Γ0.length ∧ sN B Γ0.length j (bnd Γ0 j) = true) ∨ (2 ≤ tch B ∧ OVq 1 B C Dsm Γ0 ∧ ndk (cch Γ0) (cch Δ1) = false ∧ ((¬ CFt f t ∧ 6 ≤ m ∧ ∃ o, (o = x ∨ o = y) ∧ mch t + mch o = mch x + mch y ∧ (CFt f o → rx9 (tch B) (tch C) (cch Γ0) (cch Δ1) (mch o) (mch t) = false)) ∨ (CFt f t ∧ (¬ (CFt f x ∧ CFt f y) ∨ B7z (tch B) (tch C) (cch Γ0) (cch Δ1) = false) ∧ rx9 (tch B) (tch C) (cch Γ0) (cch Δ1) (mch t) (mch x + mch y - mch t) = false))))
def RESTR9 : Prop := ∀ (f : Nat) (x y : Ty) (Γ : List Ty) (Δ : List (Nat × Ty × Nat)) (t : Ty), H9 f x y Γ Δ → Sh9 x y t → (¬ CHo f t [] ∨ (CHo f t [] ∧ (W9c (mch (pee f t).2) Δ.isEmpty Γ ∨ W9y f x y t (mch (pee f t).2) Δ.isEmpty Γ))) → PRn f x y Γ Δ
theorem restQ9_of (R : RESTR9) : RESTQ9 := by
  intro f x y Γ Δ t H sh h
  rcases h with h | ⟨ch, h | h⟩
  · exact R f x y Γ Δ t H sh (Or.inl h)
  · rcases h with h | ⟨B, C, e, b2, hx, h6⟩ | h
    · exact R f x y Γ Δ t H sh (Or.inr ⟨ch, Or.inl (Or.inl h)⟩)
    · obtain ⟨B', C', e', lb, fl, q⟩ := hx
      have e0 := e
      rw [e] at e'
      injection e' with e1 e2
      have e3 : B = B' := congrArg k1 e1
      have e4 : C = C' := congrArg k2 e1
      subst e3
      subst e4
      rcases exD_of q h6 with q | ⟨q1, q2⟩
      · exact R f x y Γ Δ t H sh (Or.inr ⟨ch, Or.inl (Or.inr (Or.inl ⟨B, C, e, b2, lb, fl, q, h6⟩))⟩)
      · exfalso
        obtain ⟨⟨wt, nt, tt, m3', m3, n9⟩, pm, hbt⟩ := h9_t H sh
        obtain ⟨-, -, ⟨he, hv, hd', h20, h47, -⟩, -⟩ := H
        have ec : cch Γ = 8 + tch B + tch C := by
          rw [e]
          show (tch (tAll B C) + 4) + 0 = _
          rw [tch_all]
          omega
        rcases h6 with h6 | h6
        · have := h9_e8 n9 ch h20 h47 m3 (by omega) h6
          omega
        · omega
    · exact R f x y Γ Δ t H sh (Or.inr ⟨ch, Or.inl (Or.inr (Or.inr h))⟩)
  obtain ⟨Δ1, Γ0, B, C, e, lb, nz, hx, eI, h3, h4⟩ := h
  have keep := fun q => R f x y Γ Δ t H sh (Or.inr ⟨ch, Or.inr ⟨Δ1, Γ0, B, C, e, lb, nz, hx, eI, h3, q⟩⟩)
  rcases h4 with h4 | ⟨b2, fl, h4⟩ | h4 | h4
  · exact keep (Or.inl h4)
  · by_cases m5 : mch (pee f t).2 ≤ 5
    · exact keep (Or.inr (Or.inl ⟨b2, fl, m5, h4⟩))
    · exfalso
      obtain ⟨-, -, ⟨he, -⟩, -⟩ := H
      have hc := he.1
      rw [e] at hc
      obtain ⟨oc0, ob⟩ := okc_low Δ1 hc
      have oB := (ok_all.mp ob).1
      have oC := (ok_all.mp ob).2
      unfold lx9 at h4
      rw [Bool.and_eq_true, if_neg (fun q => m5 (Nat.le_of_ble_eq_true q))] at h4
      have h4 := h4.2
      unfold mem4 at h4
      obtain ⟨a, ha, q⟩ := List.any_eq_true.mp h4
      rw [List.mem_singleton] at ha
      subst ha
      rw [Bool.and_eq_true, Bool.and_eq_true, Bool.and_eq_true] at q
      have e1 : tch B = 2 := Nat.eq_of_beq_eq_true q.1
      have e2 : tch C = 9 := Nat.eq_of_beq_eq_true q.2.1
      have eB := two_rec oB e1
      rw [eB] at fl
      have := sN_nine _ C _ (Nat.le_refl _) oC fl
      omega
  · exact keep (Or.inr (Or.inr (Or.inl h4)))
  · exact keep (Or.inr (Or.inr (Or.inr h4)))
theorem pairn_pr (R : RESTR9) : PAIRn := pairn_pq (restQ9_of R)
